/-- what the constructor of class 5 leaves -/
theorem c_X5_init {sh : vSh} {m : vM} {P : Option Value → vSh → vM → Prop} (hp : P none (kT 129 sh) (kM 129 m)) :
    Ev mX5_init 2 34 139 [.ref 129, .ref 1, .ref 125] 130 (kO 129 sh 11 9 ini5) (kM 129 m) P := by
  refine Ev.of rfl (Nat.le_of_ble_eq_true rfl) ?_
  refine vJ.aload_n dX5_init_0 rfl rfl ?_
  refine vJ.objInit dX5_init_1 ml_RX5_3 im_objectInit co_Object (by decide) (by decide) ?_
  refine vJ.aload_n dX5_init_4 rfl rfl ?_
  refine vJ.bipush dX5_init_5 (v := 6) rfl ?_
  refine vJ.newaI (N := 6) dX5_init_7 (by decide) (by decide) (by decide) ac_int (by omega) (by omega) (by rw [sh_130]) ⟨fa_cons (vrf_ref (by omega)) (fa_cons (vrf_ref (by omega)) (fa_cons (vrf_ref (by omega)) fa_nil)), fa_cons (vrf_ref (by omega)) fa_nil⟩ (vJ.kNew (n2 := 131) rfl (by omega) (by omega) sh_130 ?_)
  refine vJ.kPut (ci := 5) (k := 0) dX5_init_9 (by omega) (by omega) rfl inX5 tyX5 tyX5_ok nmX5 (by decide) rfl rfl rfl fl_RX5_9 (fun _ => ⟨rfl, rfl⟩) ?_
  refine vJ.aload_n dX5_init_12 rfl rfl ?_
  refine vJ.bipush dX5_init_13 (v := 6) rfl ?_
  refine vJ.newaI (N := 6) dX5_init_15 (by decide) (by decide) (by decide) ac_int (by omega) (by omega) (by rw [sh_131]) ⟨fa_cons (vrf_ref (by omega)) (fa_cons (vrf_ref (by omega)) (fa_cons (vrf_ref (by omega)) fa_nil)), fa_cons (vrf_ref (by omega)) fa_nil⟩ (vJ.kNew (n2 := 132) rfl (by omega) (by omega) sh_131 ?_)
  refine vJ.kPut (ci := 5) (k := 1) dX5_init_17 (by omega) (by omega) rfl inX5 tyX5 tyX5_ok nmX5 (by decide) rfl rfl rfl fl_RX5_15 (fun _ => ⟨rfl, rfl⟩) ?_
  refine vJ.aload_n dX5_init_20 rfl rfl ?_
  refine vJ.bipush dX5_init_21 (v := 6) rfl ?_
  refine vJ.newaI (N := 6) dX5_init_23 (by decide) (by decide) (by decide) ac_int (by omega) (by omega) (by rw [sh_132]) ⟨fa_cons (vrf_ref (by omega)) (fa_cons (vrf_ref (by omega)) (fa_cons (vrf_ref (by omega)) fa_nil)), fa_cons (vrf_ref (by omega)) fa_nil⟩ (vJ.kNew (n2 := 133) rfl (by omega) (by omega) sh_132 ?_)
  refine vJ.kPut (ci := 5) (k := 2) dX5_init_25 (by omega) (by omega) rfl inX5 tyX5 tyX5_ok nmX5 (by decide) rfl rfl rfl fl_RX5_18 (fun _ => ⟨rfl, rfl⟩) ?_
  refine vJ.aload_n dX5_init_28 rfl rfl ?_
  refine vJ.new (ci := 4) dX5_init_29 rfl inX4 tyX4 tyX4_ok ini4 ini4_ok ini4_le cl_RX5_21 it_RX4 in_TableSetter_Share (by omega) (by omega) (by rw [sh_133]) ⟨fa_cons (vrf_ref (by omega)) (fa_cons (vrf_ref (by omega)) (fa_cons (vrf_ref (by omega)) fa_nil)), fa_cons (vrf_ref (by omega)) fa_nil⟩ (vJ.kNewO (n2 := 134) rfl ?_)
  refine vJ.dup dX5_init_32 rfl ?_
  refine vJ.callIN (Yc := mX4_init) (frc := 1) (loc := 14) (n2 := 136) (b := 133) (as := []) dX5_init_33 rfl (fun U h => h.2.2.2) im_yX4_init rfl rfl co_X4_init in_TableSetter_Share pl_X4_init (by decide) (by decide) (by decide) (by decide) (by decide) ⟨fa_cons (vrf_ref (by omega)) (fa_cons (vrf_ref (by omega)) (fa_cons (vrf_ref (by omega)) fa_nil)), fa_cons (vrf_ref (by omega)) (fa_cons (vrf_ref (by omega)) fa_nil)⟩ ?_
  refine c_X4_init ?_
  rw [kT_kO (by decide), kM_kM (by decide)]
  show vJ _ _ _ _ _ 36 _ (.ref 133 :: [.ref 129]) 136 _ _ _
  refine vJ.kPut (ci := 5) (k := 5) dX5_init_36 (by omega) (by omega) rfl inX5 tyX5 tyX5_ok nmX5 (by decide) rfl rfl rfl fl_RX5_24 (fun _ => ⟨rfl, rfl⟩) ?_
  refine vJ.aload_n dX5_init_39 rfl rfl ?_
  refine vJ.bipush dX5_init_40 (v := 6) rfl ?_
  refine vJ.newaI (N := 6) dX5_init_42 (by decide) (by decide) (by decide) ac_int (by omega) (by omega) (by rw [sh_136]) ⟨fa_cons (vrf_ref (by omega)) (fa_cons (vrf_ref (by omega)) (fa_cons (vrf_ref (by omega)) fa_nil)), fa_cons (vrf_ref (by omega)) fa_nil⟩ (vJ.kNew (n2 := 137) rfl (by omega) (by omega) sh_136 ?_)
  refine vJ.kPut (ci := 5) (k := 6) dX5_init_44 (by omega) (by omega) rfl inX5 tyX5 tyX5_ok nmX5 (by decide) rfl rfl rfl fl_RX5_28 (fun _ => ⟨rfl, rfl⟩) ?_
  refine vJ.aload_n dX5_init_47 rfl rfl ?_
  refine vJ.bipush dX5_init_48 (v := 6) rfl ?_
  refine vJ.newaI (N := 6) dX5_init_50 (by decide) (by decide) (by decide) ac_int (by omega) (by omega) (by rw [sh_137]) ⟨fa_cons (vrf_ref (by omega)) (fa_cons (vrf_ref (by omega)) (fa_cons (vrf_ref (by omega)) fa_nil)), fa_cons (vrf_ref (by omega)) fa_nil⟩ (vJ.kNew (n2 := 138) rfl (by omega) (by omega) sh_137 ?_)
  refine vJ.kPut (ci := 5) (k := 7) dX5_init_52 (by omega) (by omega) rfl inX5 tyX5 tyX5_ok nmX5 (by decide) rfl rfl rfl fl_RX5_31 (fun _ => ⟨rfl, rfl⟩) ?_
  refine vJ.aload_n dX5_init_55 rfl rfl ?_
  refine vJ.bipush dX5_init_56 (v := 6) rfl ?_
  refine vJ.newaI (N := 6) dX5_init_58 (by decide) (by decide) (by decide) ac_int (by omega) (by omega) (by rw [sh_138]) ⟨fa_cons (vrf_ref (by omega)) (fa_cons (vrf_ref (by omega)) (fa_cons (vrf_ref (by omega)) fa_nil)), fa_cons (vrf_ref (by omega)) fa_nil⟩ (vJ.kNew (n2 := 139) rfl (by omega) (by omega) sh_138 ?_)
  refine vJ.kPut (ci := 5) (k := 8) dX5_init_60 (by omega) (by omega) rfl inX5 tyX5 tyX5_ok nmX5 (by decide) rfl rfl rfl fl_RX5_34 (fun _ => ⟨rfl, rfl⟩) ?_
  refine vJ.aload_n dX5_init_63 rfl rfl ?_
  refine vJ.aload_n dX5_init_64 rfl rfl ?_
  refine vJ.kPut (ci := 5) (k := 3) dX5_init_65 (by omega) (by omega) rfl inX5 tyX5 tyX5_ok nmX5 (by decide) rfl rfl rfl fl_RX5_37 (fun _ => ⟨rfl, rfl⟩) ?_
  refine vJ.aload_n dX5_init_68 rfl rfl ?_
  refine vJ.aload_n dX5_init_69 rfl rfl ?_
  refine vJ.kPut (ci := 5) (k := 4) dX5_init_70 (by omega) (by omega) rfl inX5 tyX5 tyX5_ok nmX5 (by decide) rfl rfl rfl fl_RX5_41 (fun _ => ⟨rfl, rfl⟩) ?_
  refine vJ.vreturn dX5_init_73 rfl rfl ?_
  rw [kO_kT (sh_129.trans ?_)]
  · exact hp
  · refine congrArg (fun q => (11, 9, q)) (funext fun j => ?_)
    match j with
    | 0 => rfl
    | 1 => rfl
    | 2 => rfl
    | 3 => rfl
    | 4 => rfl
    | 5 => rfl
    | 6 => rfl
    | 7 => rfl
    | 8 => rfl
    | j + 9 => rfl
