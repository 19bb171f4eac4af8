/-- what the constructor of class 3 leaves -/
theorem c_X3_init {sh : vSh} {m : vM} {P : Option Value → vSh → vM → Prop} (hp : P none (kT 139 sh) (kM 139 m)) :
    Ev mX3_init 1 14 162 [.ref 139, .ref 1, .ref 125] 140 (kO 139 sh 9 12 ini3) (kM 139 m) P := by
  refine Ev.of rfl (Nat.le_of_ble_eq_true rfl) ?_
  refine vJ.aload_n dX3_init_0 rfl rfl ?_
  refine vJ.objInit dX3_init_1 ml_RX3_3 im_objectInit co_Object (by decide) (by decide) ?_
  refine vJ.aload_n dX3_init_4 rfl rfl ?_
  refine vJ.iconst dX3_init_5 (v := 0) rfl ?_
  refine vJ.kPutI (ci := 3) (k := 0) dX3_init_6 (by omega) rfl inX3 tyX3 tyX3_ok nmX3 (by decide) rfl rfl fl_RX3_9 rfl rfl ?_
  refine vJ.aload_n dX3_init_9 rfl rfl ?_
  refine vJ.bipush dX3_init_10 (v := 16) rfl ?_
  refine vJ.iconst dX3_init_12 (v := 4) rfl ?_
  refine vJ.mna dX3_init_13 cl_RX3_15 ac_int (by decide) (by decide) (by decide +kernel) ⟨fa_cons (vrf_ref (by omega)) (fa_cons (vrf_ref (by omega)) (fa_cons (vrf_ref (by omega)) fa_nil)), fa_cons (vrf_ref (by omega)) fa_nil⟩ (kMna ?_)
  refine vJ.kPut (ci := 3) (k := 1) dX3_init_17 (by omega) (by omega) rfl inX3 tyX3 tyX3_ok nmX3 (by decide) rfl rfl rfl fl_RX3_17 (fun _ => ⟨rfl, rfl⟩) ?_
  refine vJ.aload_n dX3_init_20 rfl rfl ?_
  refine vJ.bipush dX3_init_21 (v := 16) rfl ?_
  refine vJ.newaI (N := 16) dX3_init_23 (by decide) (by decide) (by decide) ac_int (by omega) (by omega) (by rw [sh_157]) ⟨fa_cons (vrf_ref (by omega)) (fa_cons (vrf_ref (by omega)) (fa_cons (vrf_ref (by omega)) fa_nil)), fa_cons (vrf_ref (by omega)) fa_nil⟩ (vJ.kNew (n2 := 158) rfl (by omega) (by omega) sh_157 ?_)
  refine vJ.kPut (ci := 3) (k := 4) dX3_init_25 (by omega) (by omega) rfl inX3 tyX3 tyX3_ok nmX3 (by decide) rfl rfl rfl fl_RX3_20 (fun _ => ⟨rfl, rfl⟩) ?_
  refine vJ.aload_n dX3_init_28 rfl rfl ?_
  refine vJ.bipush dX3_init_29 (v := 16) rfl ?_
  refine vJ.newaI (N := 16) dX3_init_31 (by decide) (by decide) (by decide) ac_int (by omega) (by omega) (by rw [sh_158]) ⟨fa_cons (vrf_ref (by omega)) (fa_cons (vrf_ref (by omega)) (fa_cons (vrf_ref (by omega)) fa_nil)), fa_cons (vrf_ref (by omega)) fa_nil⟩ (vJ.kNew (n2 := 159) rfl (by omega) (by omega) sh_158 ?_)
  refine vJ.kPut (ci := 3) (k := 5) dX3_init_33 (by omega) (by omega) rfl inX3 tyX3 tyX3_ok nmX3 (by decide) rfl rfl rfl fl_RX3_24 (fun _ => ⟨rfl, rfl⟩) ?_
  refine vJ.aload_n dX3_init_36 rfl rfl ?_
  refine vJ.bipush dX3_init_37 (v := 17) rfl ?_
  refine vJ.newaI (N := 17) dX3_init_39 (by decide) (by decide) (by decide) ac_int (by omega) (by omega) (by rw [sh_159]) ⟨fa_cons (vrf_ref (by omega)) (fa_cons (vrf_ref (by omega)) (fa_cons (vrf_ref (by omega)) fa_nil)), fa_cons (vrf_ref (by omega)) fa_nil⟩ (vJ.kNew (n2 := 160) rfl (by omega) (by omega) sh_159 ?_)
  refine vJ.kPut (ci := 3) (k := 6) dX3_init_41 (by omega) (by omega) rfl inX3 tyX3 tyX3_ok nmX3 (by decide) rfl rfl rfl fl_RX3_27 (fun _ => ⟨rfl, rfl⟩) ?_
  refine vJ.aload_n dX3_init_44 rfl rfl ?_
  refine vJ.bipush dX3_init_45 (v := 17) rfl ?_
  refine vJ.newaI (N := 17) dX3_init_47 (by decide) (by decide) (by decide) ac_int (by omega) (by omega) (by rw [sh_160]) ⟨fa_cons (vrf_ref (by omega)) (fa_cons (vrf_ref (by omega)) (fa_cons (vrf_ref (by omega)) fa_nil)), fa_cons (vrf_ref (by omega)) fa_nil⟩ (vJ.kNew (n2 := 161) rfl (by omega) (by omega) sh_160 ?_)
  refine vJ.kPut (ci := 3) (k := 7) dX3_init_49 (by omega) (by omega) rfl inX3 tyX3 tyX3_ok nmX3 (by decide) rfl rfl rfl fl_RX3_30 (fun _ => ⟨rfl, rfl⟩) ?_
  refine vJ.aload_n dX3_init_52 rfl rfl ?_
  refine vJ.bipush dX3_init_53 (v := 17) rfl ?_
  refine vJ.newaI (N := 17) dX3_init_55 (by decide) (by decide) (by decide) ac_int (by omega) (by omega) (by rw [sh_161]) ⟨fa_cons (vrf_ref (by omega)) (fa_cons (vrf_ref (by omega)) (fa_cons (vrf_ref (by omega)) fa_nil)), fa_cons (vrf_ref (by omega)) fa_nil⟩ (vJ.kNew (n2 := 162) rfl (by omega) (by omega) sh_161 ?_)
  refine vJ.kPut (ci := 3) (k := 8) dX3_init_57 (by omega) (by omega) rfl inX3 tyX3 tyX3_ok nmX3 (by decide) rfl rfl rfl fl_RX3_33 (fun _ => ⟨rfl, rfl⟩) ?_
  refine vJ.aload_n dX3_init_60 rfl rfl ?_
  refine vJ.aload_n dX3_init_61 rfl rfl ?_
  refine vJ.kPut (ci := 3) (k := 2) dX3_init_62 (by omega) (by omega) rfl inX3 tyX3 tyX3_ok nmX3 (by decide) rfl rfl rfl fl_RX3_36 (fun _ => ⟨rfl, rfl⟩) ?_
  refine vJ.aload_n dX3_init_65 rfl rfl ?_
  refine vJ.aload_n dX3_init_66 rfl rfl ?_
  refine vJ.kPut (ci := 3) (k := 3) dX3_init_67 (by omega) (by omega) rfl inX3 tyX3 tyX3_ok nmX3 (by decide) rfl rfl rfl fl_RX3_40 (fun _ => ⟨rfl, rfl⟩) ?_
  refine vJ.vreturn dX3_init_70 rfl rfl ?_
  rw [kO_kT (sh_139.trans ?_)]
  · exact hp
  · refine congrArg (fun q => (9, 12, q)) (funext fun j => ?_)
    match j with
    | 0 => rfl
    | 1 => rfl
    | 2 => rfl
    | 3 => rfl
    | 4 => rfl
    | 5 => rfl
    | 6 => rfl
    | 7 => rfl
    | 8 => rfl
    | 9 => rfl
    | 10 => rfl
    | 11 => rfl
    | j + 12 => rfl
