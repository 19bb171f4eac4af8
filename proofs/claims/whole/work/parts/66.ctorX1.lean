/-! the grid is made: forty cells, the notes of one line, and one row of one column -/
def sL (sh : vSh) (i : Nat) : vSh := fun k => if k < 1 then sh k else if k = 4 then (3, 40, fun j => if j < i then cA j + 2 else 1) else SH k
def mG (m : vM) : vM := fillA (upI (upI (upI (upI (fillA (kM 1 m) 3 10 1) 1 0 1) 1 1 1) 1 2 0) 1 3 0) 2 6 1
theorem sL_4 {sh : vSh} {i : Nat} : sL sh i 4 = (3, 40, fun j => if j < i then cA j + 2 else 1) := rfl
theorem sL_1 {sh : vSh} {i : Nat} : sL sh i 1 = (7, 7, cs1) := rfl
theorem sL_2 {sh : vSh} {i : Nat} : sL sh i 2 = (0, 6, vz) := rfl
theorem sL_3 {sh : vSh} {i : Nat} : sL sh i 3 = (0, 10, vz) := rfl
theorem sL_a {sh : vSh} {i k : Nat} (h : 4 < k) : sL sh i k = SH k := by
  unfold sL
  rw [if_neg (by omega), if_neg (by omega)]
theorem kT_sL {sh : vSh} {i b : Nat} (h : 4 < b) : kT b (sL sh i) = sL sh i := by
  funext q
  unfold kT
  by_cases h2 : q < b
  · rw [if_pos h2]
  · rw [if_neg h2, sL_a (by omega)]
theorem sL_end {sh : vSh} : sL sh 40 = kT 1 sh := by
  funext q
  unfold sL kT
  by_cases h : q < 1
  · rw [if_pos h, if_pos h]
  · rw [if_neg h, if_neg h]
    by_cases h4 : q = 4
    · rw [if_pos h4, h4]; rfl
    · rw [if_neg h4]
theorem sL_s {sh : vSh} {i : Nat} : upS (sL sh i) 4 (setC (sL sh i 4) i (cA i + 2)) = sL sh (i + 1) := by
  rw [sL_4]
  funext q
  unfold upS
  by_cases h : q = 4
  · rw [if_pos h, h, sL_4]
    refine congrArg (fun f => (3, 40, f)) (funext fun j => ?_)
    show (if j = i then cA i + 2 else if j < i then cA j + 2 else 1) = if j < i + 1 then cA j + 2 else 1
    by_cases h1 : j = i
    · rw [if_pos h1, if_pos (by omega), h1]
    · rw [if_neg h1]
      by_cases h2 : j < i
      · rw [if_pos h2, if_pos (by omega)]
      · rw [if_neg h2, if_neg (by omega)]
  · rw [if_neg h]
    unfold sL
    by_cases h1 : q < 1
    · rw [if_pos h1, if_pos h1]
    · rw [if_neg h1, if_neg h1, if_neg h, if_neg h]
theorem g_X1_begin {sh : vSh} {m : vM} {n : Nat} {x y z : Int32} {P : Option Value → vSh → vM → Prop} (hn : 4 < n) (h1 : sh 1 = (7, 7, cs1)) (h2 : sh 2 = (0, 6, vz)) (hp : P none sh (fillA (upI (upI (upI (upI m 1 0 x) 1 1 y) 1 2 z) 1 3 0) 2 6 1)) : Ev mX1_begin 1 23 n [.ref 1, .int x, .int y, .int z] n sh m P := by
  refine Ev.of pn_X1_begin (Nat.le_of_ble_eq_true rfl) ?_
  refine vJ.aload_n dX1_begin_0 rfl rfl ?_
  refine vJ.iload_n dX1_begin_1 rfl rfl ?_
  refine vJ.putI (ci := 1) (k := 0) dX1_begin_2 h1 (by omega) rfl inX1 tyX1 tyX1_ok nmX1 (Nat.le_of_ble_eq_true rfl) rfl rfl fl_RX1_35 rfl rfl ?_
  refine vJ.aload_n dX1_begin_5 rfl rfl ?_
  refine vJ.iload_n dX1_begin_6 rfl rfl ?_
  refine vJ.putI (ci := 1) (k := 1) dX1_begin_7 h1 (by omega) rfl inX1 tyX1 tyX1_ok nmX1 (Nat.le_of_ble_eq_true rfl) rfl rfl fl_RX1_39 rfl rfl ?_
  refine vJ.aload_n dX1_begin_10 rfl rfl ?_
  refine vJ.iload_n dX1_begin_11 rfl rfl ?_
  refine vJ.putI (ci := 1) (k := 2) dX1_begin_12 h1 (by omega) rfl inX1 tyX1 tyX1_ok nmX1 (Nat.le_of_ble_eq_true rfl) rfl rfl fl_RX1_42 rfl rfl ?_
  refine vJ.aload_n dX1_begin_15 rfl rfl ?_
  refine vJ.iconst dX1_begin_16 ci_0 ?_
  refine vJ.putI (ci := 1) (k := 3) dX1_begin_17 h1 (by omega) rfl inX1 tyX1 tyX1_ok nmX1 (Nat.le_of_ble_eq_true rfl) rfl rfl fl_RX1_45 rfl rfl ?_
  refine vJ.aload_n dX1_begin_20 rfl rfl ?_
  refine vJ.getR (ci := 1) (k := 4) (j := 2) dX1_begin_21 h1 (by omega) rfl inX1 (Nat.le_of_ble_eq_true rfl) rfl fl_RX1_9 ?_
  refine vJ.iconst dX1_begin_24 ci_1 ?_
  refine vJ.callS (Yc := mJ7_fill_53178) (frc := 0) (loc := 0) (as := [.ref 2, .int (1 : Int32)]) dX1_begin_25 rfl ml_RX1_25 st_yJ7_fill_53178 co_J7_fill_53178 in_java_util_Arrays pl_J7_fill_53178 (Nat.le_of_ble_eq_true rfl) (Nat.le_of_ble_eq_true rfl) (Nat.le_of_ble_eq_true rfl) ?_
  refine ev_fillG h2 (by omega) (by decide) ?_
  exact vJ.vreturn dX1_begin_28 rfl rfl hp
theorem c_X1_loop {sh : vSh} {m : vM} {P : Option Value → vSh → vM → Prop} (hp : P none (kT 1 sh) (mG m)) : vJ mX1_init 2 46 125 none 31 [(0, .ref 1), (1, .int (nI 0))] [] (cA 0) (sL sh 0) (kM 1 m) P := by
  refine loop_up (Q := fun i => vJ mX1_init 2 46 125 none 31 [(0, .ref 1), (1, .int (nI i))] [] (cA i) (sL sh i) (kM 1 m) P) (n := 40) ?_ (fun i hi ih => ?_) 0 (Nat.zero_le _)
  · refine vJ.iload_n dX1_init_31 rfl rfl ?_
    refine vJ.bipush dX1_init_32 (v := 40) rfl ?_
    refine vJ.icmp_ge (tgt := 56) dX1_init_34 (by decide) (fun _ => ?_) (fun h => absurd (by decide) h)
    refine vJ.aload_n dX1_init_56 rfl rfl ?_
    refine vJ.getR (ci := 1) (k := 5) (j := 3) dX1_init_57 sL_1 (by decide) rfl inX1 (by decide) rfl fl_RX1_15 ?_
    refine vJ.iconst dX1_init_60 ci_1 ?_
    refine vJ.callS (Yc := mJ7_fill_53178) (frc := 0) (loc := 0) (as := [.ref 3, .int (1 : Int32)]) dX1_init_61 rfl ml_RX1_25 st_yJ7_fill_53178 co_J7_fill_53178 in_java_util_Arrays pl_J7_fill_53178 (Nat.le_of_ble_eq_true rfl) (Nat.le_of_ble_eq_true rfl) (Nat.le_of_ble_eq_true rfl) ?_
    refine ev_fillG sL_3 (by decide) (by decide) ?_
    refine vJ.aload_n dX1_init_64 rfl rfl ?_
    refine vJ.iconst dX1_init_65 ci_1 ?_
    refine vJ.iconst dX1_init_66 ci_1 ?_
    refine vJ.iconst dX1_init_67 ci_0 ?_
    refine vJ.callV (ci := 1) (N := 7) (b := 1) (Yc := mX1_begin) (frc := 1) (loc := 23) (as := [.int 1, .int 1, .int 0]) (st := []) dX1_init_68 rfl sL_1 (by decide) rfl ml_RX1_31 im_yX1_begin se_yX1_begin co_X1_begin in_TableSetter_Grid pl_X1_begin (by decide) (by decide) (by decide) ?_
    refine g_X1_begin (by decide) sL_1 sL_2 ?_
    refine vJ.vreturn dX1_init_71 rfl rfl ?_
    rw [sL_end]
    exact hp
  · have hc : cA i + 3 ≤ 125 := by unfold cA; omega
    have hc4 : 4 < cA i := by unfold cA; omega
    refine vJ.iload_n dX1_init_31 rfl rfl ?_
    refine vJ.bipush dX1_init_32 (v := 40) rfl ?_
    refine vJ.icmp_ge (tgt := 56) dX1_init_34 (by decide) (fun h => absurd h (nI_ge (b := 40) hi (by decide))) (fun _ => ?_)
    refine vJ.aload_n dX1_init_37 rfl rfl ?_
    refine vJ.getR (ci := 1) (k := 6) (j := 4) dX1_init_38 sL_1 (by omega) rfl inX1 (by decide) rfl fl_RX1_20 ?_
    refine vJ.iload_n dX1_init_41 rfl rfl ?_
    refine vJ.new (ci := 0) dX1_init_42 rfl inX0 tyX0 tyX0_ok ini0 ini0_ok ini0_le cl_RX1_18 it_RX0 in_TableSetter_Cell (by omega) (by omega) (by rw [sh_C hi]) ⟨fa_cons (vrf_ref (by omega)) (fa_cons vrf_int fa_nil), fa_cons vrf_int (fa_cons (vrf_ref (by omega)) fa_nil)⟩ (vJ.kNewO (n2 := cA i + 1) rfl ?_)
    refine vJ.dup dX1_init_45 rfl ?_
    refine vJ.callIN (Yc := mX0_init) (frc := 1) (loc := 14) (n2 := cA i + 3) (b := cA i) (as := []) dX1_init_46 rfl (fun U h => h.2.2.1) im_yX0_init rfl rfl co_X0_init in_TableSetter_Cell pl_X0_init (by decide) (by decide) (Nat.le_of_ble_eq_true rfl) (by omega) hc ⟨fa_cons (vrf_ref (by omega)) (fa_cons vrf_int fa_nil), fa_cons (vrf_ref (by omega)) (fa_cons vrf_int (fa_cons (vrf_ref (by omega)) fa_nil))⟩ ?_
    refine c_X0_init hi ?_
    rw [kT_sL hc4, kM_kM (by omega)]
    show vJ _ _ _ _ _ 49 _ (.ref (cA i) :: [.int (nI i), .ref 4]) (cA i + 3) _ _ _
    refine vJ.aastS dX1_init_49 sL_4 (by omega) (by omega) ((sL_a hc4).trans (sh_C hi)) (vI hi (by decide)) ?_
    rw [clI i (by omega), sL_s]
    refine vJ.iinc dX1_init_50 rfl (v := nI (i + 1)) (ad1I i) (by decide) rfl ?_
    refine vJ.goto (tgt := 31) dX1_init_53 (by decide) ?_
    exact ih
theorem c_X1_init {sh : vSh} {m : vM} {P : Option Value → vSh → vM → Prop} (hp : P none (kT 1 sh) (mG m)) :
    Ev mX1_init 2 46 125 [.ref 1] 2 (kO 1 sh 7 7 ini1) (kM 1 m) P := by
  refine Ev.of rfl (Nat.le_of_ble_eq_true rfl) ?_
  refine vJ.aload_n dX1_init_0 rfl rfl ?_
  refine vJ.objInit dX1_init_1 ml_RX1_3 im_objectInit co_Object (by decide) (by decide) ?_
  refine vJ.aload_n dX1_init_4 rfl rfl ?_
  refine vJ.bipush dX1_init_5 (v := 6) rfl ?_
  refine vJ.newaI (N := 6) dX1_init_7 (by decide) (by decide) (by decide) ac_int (by omega) (by omega) (by rw [sh_2]) ⟨fa_cons (vrf_ref (by omega)) fa_nil, fa_cons (vrf_ref (by omega)) fa_nil⟩ (vJ.kNew (n2 := 3) rfl (by omega) (by omega) sh_2 ?_)
  refine vJ.kPut (ci := 1) (k := 4) dX1_init_9 (by omega) (by omega) rfl inX1 tyX1 tyX1_ok nmX1 (by decide) rfl rfl rfl fl_RX1_9 (fun _ => ⟨rfl, rfl⟩) ?_
  refine vJ.aload_n dX1_init_12 rfl rfl ?_
  refine vJ.bipush dX1_init_13 (v := 10) rfl ?_
  refine vJ.newaI (N := 10) dX1_init_15 (by decide) (by decide) (by decide) ac_int (by omega) (by omega) (by rw [sh_3]) ⟨fa_cons (vrf_ref (by omega)) fa_nil, fa_cons (vrf_ref (by omega)) fa_nil⟩ (vJ.kNew (n2 := 4) rfl (by omega) (by omega) sh_3 ?_)
  refine vJ.kPut (ci := 1) (k := 5) dX1_init_17 (by omega) (by omega) rfl inX1 tyX1 tyX1_ok nmX1 (by decide) rfl rfl rfl fl_RX1_15 (fun _ => ⟨rfl, rfl⟩) ?_
  refine vJ.aload_n dX1_init_20 rfl rfl ?_
  refine vJ.bipush dX1_init_21 (v := 40) rfl ?_
  refine vJ.newaC (N := 40) dX1_init_23 (by decide) (by decide) (by decide) cl_RX1_18 (by omega) (by omega) (by rw [sh_4]) ⟨fa_cons (vrf_ref (by omega)) fa_nil, fa_cons (vrf_ref (by omega)) fa_nil⟩ ?_
  refine vJ.putF (ci := 1) (N := 7) (cs := kU (kU ini1 4 (2 + 2)) 5 (3 + 2)) (k := 6) dX1_init_26 (kO_s (b := 1) (sh := sh)) (by omega) (by omega) rfl inX1 tyX1 tyX1_ok nmX1 (by decide) rfl rfl rfl fl_RX1_20 (fun _ => ⟨rfl, rfl⟩) ?_
  refine vJ.iconst dX1_init_29 ci_0 ?_
  refine vJ.istore_n (ls2 := [(0, .ref 1), (1, .int 0)]) dX1_init_30 rfl (by decide) rfl ?_
  refine vJ.shc (sh' := sL sh 0) (m' := kM 1 m) (fun j hj => ?_) (c_X1_loop hp)
  have hj5 : j < 5 := hj
  match j, hj5 with
  | 0, _ => exact ⟨rfl, rfl, rfl⟩
  | 1, _ =>
    refine ⟨congrArg (fun q => (7, 7, q)) (funext fun j => ?_), rfl, rfl⟩
    match j with
    | 0 => rfl
    | 1 => rfl
    | 2 => rfl
    | 3 => rfl
    | 4 => rfl
    | 5 => rfl
    | 6 => rfl
    | j + 7 => rfl
  | 2, _ => exact ⟨rfl, rfl, rfl⟩
  | 3, _ => exact ⟨rfl, rfl, rfl⟩
  | 4, _ => exact ⟨rfl, rfl, rfl⟩
