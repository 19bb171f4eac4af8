/-! the component is made -/
def memC1 (m : vM) : vM := kM 125 (mG (kM 0 m))
def memC (m : vM) : vM := upI (upI (upI (memC1 m) 0 5 0) 0 6 (-9)) 0 7 0
theorem memC_k {b : Nat} {m : vM} (h : 125 ≤ b) : kM b (memC1 m) = memC1 m := kM_kM h
theorem kT_0 {sh : vSh} : kT 0 sh = SH := funext fun _ => if_neg (Nat.not_lt_zero _)
theorem c_X6_init {sh : vSh} {m : vM} {P : Option Value → vSh → vM → Prop} (hp : P none SH (memC m)) :
    Ev mX6_init 3 67 163 [.ref 0] 1 (kO 0 sh 12 8 ini6) (kM 0 m) P := by
  refine Ev.of rfl (Nat.le_of_ble_eq_true rfl) ?_
  refine vJ.aload_n dX6_init_0 rfl rfl ?_
  refine vJ.objInit dX6_init_1 ml_RX6_1 im_objectInit co_Object (by decide) (by decide) ?_
  refine vJ.aload_n dX6_init_4 rfl rfl ?_
  refine vJ.new (ci := 1) dX6_init_5 rfl inX1 tyX1 tyX1_ok ini1 ini1_ok ini1_le cl_RX6_7 it_RX1 in_TableSetter_Grid (by omega) (by omega) (by rw [sh_1]) ⟨fa_cons (vrf_ref (by omega)) fa_nil, fa_cons (vrf_ref (by omega)) fa_nil⟩ (vJ.kNewO (n2 := 2) rfl ?_)
  refine vJ.dup dX6_init_8 rfl ?_
  refine vJ.callI (Yc := mX1_init) (frc := 2) (loc := 46) (n2 := 125) (b := 1) (as := []) (st := [.ref 1, .ref 0]) dX6_init_9 rfl ml_RX6_9 im_yX1_init rfl rfl co_X1_init in_TableSetter_Grid pl_X1_init (by decide) (by decide) (by decide) (by decide) (by decide) ⟨fa_cons (vrf_ref (by omega)) fa_nil, fa_cons (vrf_ref (by omega)) (fa_cons (vrf_ref (by omega)) fa_nil)⟩ ?_
  refine c_X1_init ?_
  rw [kT_kO (by decide)]
  show vJ _ _ _ _ _ 12 _ (.ref 1 :: [.ref 0]) 125 _ _ _
  refine vJ.kMem (m := mG (kM 0 m)) ?_
  change vJ _ _ _ _ _ _ _ _ _ _ (memC1 m) _
  refine vJ.kPut (ci := 6) (k := 0) dX6_init_12 (by omega) (by omega) rfl inX6 tyX6 tyX6_ok nmX6 (by decide) rfl rfl rfl fl_RX6_10 (fun _ => ⟨rfl, rfl⟩) ?_
  refine vJ.aload_n dX6_init_15 rfl rfl ?_
  refine vJ.new (ci := 2) dX6_init_16 rfl inX2 tyX2 tyX2_ok ini2 ini2_ok ini2_le cl_RX6_16 it_RX2 in_TableSetter_Heights (by omega) (by omega) (by rw [sh_125]) ⟨fa_cons (vrf_ref (by omega)) fa_nil, fa_cons (vrf_ref (by omega)) fa_nil⟩ (vJ.kNewO (n2 := 126) rfl ?_)
  refine vJ.dup dX6_init_19 rfl ?_
  refine vJ.aload_n dX6_init_20 rfl rfl ?_
  refine vJ.getR (ci := 6) (k := 0) (j := 1) dX6_init_21 ((kO_b (by decide)).trans kO_s) (by omega) rfl inX6 (by decide) rfl fl_RX6_10 ?_
  refine vJ.callI (Yc := mX2_init) (frc := 1) (loc := 14) (n2 := 129) (b := 125) (as := [.ref 1]) (st := [.ref 125, .ref 0]) dX6_init_24 rfl ml_RX6_18 im_yX2_init rfl rfl co_X2_init in_TableSetter_Heights pl_X2_init (by decide) (by decide) (by decide) (by decide) (by decide) ⟨fa_cons (vrf_ref (by omega)) fa_nil, fa_cons (vrf_ref (by omega)) (fa_cons (vrf_ref (by omega)) fa_nil)⟩ ?_
  refine c_X2_init ?_
  rw [kT_kO (by decide), memC_k (by decide)]
  show vJ _ _ _ _ _ 27 _ (.ref 125 :: [.ref 0]) 129 _ _ _
  refine vJ.kPut (ci := 6) (k := 1) dX6_init_27 (by omega) (by omega) rfl inX6 tyX6 tyX6_ok nmX6 (by decide) rfl rfl rfl fl_RX6_21 (fun _ => ⟨rfl, rfl⟩) ?_
  refine vJ.aload_n dX6_init_30 rfl rfl ?_
  refine vJ.new (ci := 5) dX6_init_31 rfl inX5 tyX5 tyX5_ok ini5 ini5_ok ini5_le cl_RX6_25 it_RX5 in_TableSetter_Widths (by omega) (by omega) (by rw [sh_129]) ⟨fa_cons (vrf_ref (by omega)) fa_nil, fa_cons (vrf_ref (by omega)) fa_nil⟩ (vJ.kNewO (n2 := 130) rfl ?_)
  refine vJ.dup dX6_init_34 rfl ?_
  refine vJ.aload_n dX6_init_35 rfl rfl ?_
  refine vJ.getR (ci := 6) (k := 0) (j := 1) dX6_init_36 ((kO_b (by decide)).trans kO_s) (by omega) rfl inX6 (by decide) rfl fl_RX6_10 ?_
  refine vJ.aload_n dX6_init_39 rfl rfl ?_
  refine vJ.getR (ci := 6) (k := 1) (j := 125) dX6_init_40 ((kO_b (by decide)).trans kO_s) (by omega) rfl inX6 (by decide) rfl fl_RX6_21 ?_
  refine vJ.callI (Yc := mX5_init) (frc := 2) (loc := 34) (n2 := 139) (b := 129) (as := [.ref 1, .ref 125]) (st := [.ref 129, .ref 0]) dX6_init_43 rfl ml_RX6_27 im_yX5_init rfl rfl co_X5_init in_TableSetter_Widths pl_X5_init (by decide) (by decide) (by decide) (by decide) (by decide) ⟨fa_cons (vrf_ref (by omega)) fa_nil, fa_cons (vrf_ref (by omega)) (fa_cons (vrf_ref (by omega)) fa_nil)⟩ ?_
  refine c_X5_init ?_
  rw [kT_kO (by decide), memC_k (by decide)]
  show vJ _ _ _ _ _ 46 _ (.ref 129 :: [.ref 0]) 139 _ _ _
  refine vJ.kPut (ci := 6) (k := 2) dX6_init_46 (by omega) (by omega) rfl inX6 tyX6 tyX6_ok nmX6 (by decide) rfl rfl rfl fl_RX6_30 (fun _ => ⟨rfl, rfl⟩) ?_
  refine vJ.aload_n dX6_init_49 rfl rfl ?_
  refine vJ.new (ci := 3) dX6_init_50 rfl inX3 tyX3 tyX3_ok ini3 ini3_ok ini3_le cl_RX6_34 it_RX3 in_TableSetter_Pager (by omega) (by omega) (by rw [sh_139]) ⟨fa_cons (vrf_ref (by omega)) fa_nil, fa_cons (vrf_ref (by omega)) fa_nil⟩ (vJ.kNewO (n2 := 140) rfl ?_)
  refine vJ.dup dX6_init_53 rfl ?_
  refine vJ.aload_n dX6_init_54 rfl rfl ?_
  refine vJ.getR (ci := 6) (k := 0) (j := 1) dX6_init_55 ((kO_b (by decide)).trans kO_s) (by omega) rfl inX6 (by decide) rfl fl_RX6_10 ?_
  refine vJ.aload_n dX6_init_58 rfl rfl ?_
  refine vJ.getR (ci := 6) (k := 1) (j := 125) dX6_init_59 ((kO_b (by decide)).trans kO_s) (by omega) rfl inX6 (by decide) rfl fl_RX6_21 ?_
  refine vJ.callI (Yc := mX3_init) (frc := 1) (loc := 14) (n2 := 162) (b := 139) (as := [.ref 1, .ref 125]) (st := [.ref 139, .ref 0]) dX6_init_62 rfl ml_RX6_36 im_yX3_init rfl rfl co_X3_init in_TableSetter_Pager pl_X3_init (by decide) (by decide) (by decide) (by decide) (by decide) ⟨fa_cons (vrf_ref (by omega)) fa_nil, fa_cons (vrf_ref (by omega)) (fa_cons (vrf_ref (by omega)) fa_nil)⟩ ?_
  refine c_X3_init ?_
  rw [kT_kO (by decide), memC_k (by decide)]
  show vJ _ _ _ _ _ 65 _ (.ref 139 :: [.ref 0]) 162 _ _ _
  refine vJ.kPut (ci := 6) (k := 3) dX6_init_65 (by omega) (by omega) rfl inX6 tyX6 tyX6_ok nmX6 (by decide) rfl rfl rfl fl_RX6_37 (fun _ => ⟨rfl, rfl⟩) ?_
  refine vJ.aload_n dX6_init_68 rfl rfl ?_
  refine vJ.bipush dX6_init_69 (v := 7) rfl ?_
  change vJ _ _ _ _ _ _ _ _ _ _ (kM 125 (mG (kM 0 m))) _
  refine vJ.newaI (N := 7) dX6_init_71 (by decide) (by decide) (by decide) ac_int (by omega) (by omega) (by rw [sh_162]) ⟨fa_cons (vrf_ref (by omega)) fa_nil, fa_cons (vrf_ref (by omega)) fa_nil⟩ (vJ.kNew (n2 := 163) rfl (by omega) (by omega) sh_162 ?_)
  refine vJ.kPut (ci := 6) (k := 4) dX6_init_73 (by omega) (by omega) rfl inX6 tyX6 tyX6_ok nmX6 (by decide) rfl rfl rfl fl_RX6_41 (fun _ => ⟨rfl, rfl⟩) ?_
  refine vJ.aload_n dX6_init_76 rfl rfl ?_
  refine vJ.iconst dX6_init_77 ci_0 ?_
  refine vJ.putI (ci := 6) (k := 5) dX6_init_78 kO_s (by decide) rfl inX6 tyX6 tyX6_ok nmX6 (by decide) rfl rfl fl_RX6_45 rfl rfl ?_
  refine vJ.aload_n dX6_init_81 rfl rfl ?_
  refine vJ.bipush dX6_init_82 (v := -9) rfl ?_
  refine vJ.putI (ci := 6) (k := 6) dX6_init_84 kO_s (by decide) rfl inX6 tyX6 tyX6_ok nmX6 (by decide) rfl rfl fl_RX6_49 rfl rfl ?_
  refine vJ.aload_n dX6_init_87 rfl rfl ?_
  refine vJ.iconst dX6_init_88 ci_0 ?_
  refine vJ.putI (ci := 6) (k := 7) dX6_init_89 kO_s (by decide) rfl inX6 tyX6 tyX6_ok nmX6 (by decide) rfl rfl fl_RX6_52 rfl rfl ?_
  refine vJ.vreturn dX6_init_92 rfl rfl ?_
  rw [kO_kT (sh_0.trans ?_), kT_0]
  · exact hp
  · refine congrArg (fun q => (12, 8, q)) (funext fun j => ?_)
    match j with
    | 0 => rfl
    | 1 => rfl
    | 2 => rfl
    | 3 => rfl
    | 4 => rfl
    | 5 => rfl
    | 6 => rfl
    | 7 => rfl
    | j + 8 => rfl
