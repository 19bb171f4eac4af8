def J_X3_forget_0  (m : vM) (P : vM → Prop) : Prop := vJ mX3_forget 0 0 197 none 0 [(0, .ref 139)] [] 197 SH m (vPv P)
def wp_X3_forget  (m : vM) (P : vM → Prop) : Prop :=
  ∀ m1 : vM, m1 = upI m 139 0 (0 : Int32) →
  P m1
set_option maxRecDepth 20000 in
set_option maxHeartbeats 4000000 in
theorem b_X3_forget  {m : vM} {P : vM → Prop}  (h : wp_X3_forget  m P) : J_X3_forget_0  m P := by
  show vJ mX3_forget 0 0 197 none 0 [(0, .ref 139)] [] 197 SH m (vPv P)
  unfold wp_X3_forget at h
  refine vJ.aload_n dX3_forget_0 rfl rfl ?_
  refine vJ.iconst dX3_forget_1 ci_0 ?_
  refine vJ.putI (ci := 3) (k := 0) dX3_forget_2 sh_139 (Nat.le_of_ble_eq_true rfl) rfl inX3 tyX3 tyX3_ok nmX3 (Nat.le_of_ble_eq_true rfl) rfl rfl fl_RX3_9 rfl rfl ?_
  refine vJ.topm (fun m1 em1 => ?_)
  replace h := h m1 em1
  exact vJ.vreturn dX3_forget_5 rfl rfl ⟨rfl, rfl, h⟩
def EI_X3_forget  (m : vM) (P : vM → Prop) : Prop := Ev mX3_forget 0 0 197 [.ref 139] 197 SH m (vPv P)
theorem f_X3_forget  {m : vM} {P : vM → Prop} (h : J_X3_forget_0  m P) : EI_X3_forget  m P := Ev.of pn_X3_forget (Nat.le_of_ble_eq_true rfl) h
theorem e_X3_forget  {m : vM} {P : vM → Prop}  (h : wp_X3_forget  m P) : EI_X3_forget  m P := f_X3_forget (b_X3_forget  h)
def J_X3_findHomes_0  (m : vM) (P : vM → Prop) : Prop := vJ mX3_findHomes 3 67 197 none 0 [(0, .ref 139)] [] 197 SH m (vPv P)
def J_X3_findHomes_18 (l1 : Int32) (m : vM) (P : vM → Prop) : Prop := vJ mX3_findHomes 3 67 197 none 18 [(0, .ref 139), (1, .int l1)] [] 197 SH m (vPv P)
def wp_X3_findHomes_0  (m : vM) (P : vM → Prop) : Prop :=
  ∀ m1 : vM, m1 = fillA m 157 16 (0 : Int32) →
  ∀ m2 : vM, m2 = fillA m1 158 16 (0 : Int32) →
  J_X3_findHomes_18 (0 : Int32) m2 P
set_option maxRecDepth 20000 in
set_option maxHeartbeats 4000000 in
theorem b_X3_findHomes_0  {m : vM} {P : vM → Prop}  (h : wp_X3_findHomes_0  m P) : J_X3_findHomes_0  m P := by
  show vJ mX3_findHomes 3 67 197 none 0 [(0, .ref 139)] [] 197 SH m (vPv P)
  unfold wp_X3_findHomes_0 at h
  refine vJ.aload_n dX3_findHomes_0 rfl rfl ?_
  refine vJ.getR (ci := 3) (k := 4) (j := 157) dX3_findHomes_1 sh_139 (Nat.le_of_ble_eq_true rfl) rfl inX3 (Nat.le_of_ble_eq_true rfl) rfl fl_RX3_20 ?_
  refine vJ.iconst dX3_findHomes_4 ci_0 ?_
  refine vJ.callS (Yc := mJ7_fill_53178) (frc := 0) (loc := 0) (as := [.ref 157, .int (0 : Int32)]) dX3_findHomes_5 rfl ml_RX3_76 st_yJ7_fill_53178 co_J7_fill_53178 in_java_util_Arrays pl_J7_fill_53178 (Nat.le_of_ble_eq_true rfl) (Nat.le_of_ble_eq_true rfl) (Nat.le_of_ble_eq_true rfl) ?_
  refine ev_fill (a := 157) (v := (0 : Int32)) sh_157 (Nat.le_of_ble_eq_true rfl) (fun m1 em1 => ?_)
  replace h := h m1 em1
  refine vJ.aload_n dX3_findHomes_8 rfl rfl ?_
  refine vJ.getR (ci := 3) (k := 5) (j := 158) dX3_findHomes_9 sh_139 (Nat.le_of_ble_eq_true rfl) rfl inX3 (Nat.le_of_ble_eq_true rfl) rfl fl_RX3_24 ?_
  refine vJ.iconst dX3_findHomes_12 ci_0 ?_
  refine vJ.callS (Yc := mJ7_fill_53178) (frc := 0) (loc := 0) (as := [.ref 158, .int (0 : Int32)]) dX3_findHomes_13 rfl ml_RX3_76 st_yJ7_fill_53178 co_J7_fill_53178 in_java_util_Arrays pl_J7_fill_53178 (Nat.le_of_ble_eq_true rfl) (Nat.le_of_ble_eq_true rfl) (Nat.le_of_ble_eq_true rfl) ?_
  refine ev_fill (a := 158) (v := (0 : Int32)) sh_158 (Nat.le_of_ble_eq_true rfl) (fun m2 em2 => ?_)
  replace h := h m2 em2
  refine vJ.iconst dX3_findHomes_16 ci_0 ?_
  refine vJ.istore_n (ls2 := [(0, .ref 139), (1, .int (0 : Int32))]) dX3_findHomes_17 rfl (Nat.le_of_ble_eq_true rfl) rfl ?_
  exact h
def EI_X3_findHomes  (m : vM) (P : vM → Prop) : Prop := Ev mX3_findHomes 3 67 197 [.ref 139] 197 SH m (vPv P)
theorem f_X3_findHomes  {m : vM} {P : vM → Prop} (h : J_X3_findHomes_0  m P) : EI_X3_findHomes  m P := Ev.of pn_X3_findHomes (Nat.le_of_ble_eq_true rfl) h
def wp_X3_findHomes_18 (l1 : Int32) (m : vM) (P : vM → Prop) : Prop :=
  (((10 : Int32) ≤ l1 →
    P m) ∧
  (¬ (10 : Int32) ≤ l1 →
    EI_X1_firstCall l1 m (fun r2 m1 =>
      ∀ v3 : Int32, v3 = (if r2 < (m1.1 139 10) then (m1.1 139 10) else r2) →
      ((r2 = (-9 : Int32) →
        J_X3_findHomes_18 (l1 + (1 : Int32)) m1 P) ∧
      (¬ r2 = (-9 : Int32) →
        (((m1.1 139 11) ≤ v3 →
          J_X3_findHomes_18 (l1 + (1 : Int32)) m1 P) ∧
        (¬ (m1.1 139 11) ≤ v3 →
          vp_in v3 16 ∧
          vp_in v3 16 ∧
          ∀ m6 : vM, m6 = upI m1 157 (Int32.toNatClampNeg v3) ((m1.1 157 (Int32.toNatClampNeg v3)) ||| ((1 : Int32) <<< (l1 &&& 31))) →
          vp_in v3 16 ∧
          vp_in l1 10 ∧
          vp_in v3 16 ∧
          ∀ m10 : vM, m10 = upI m6 158 (Int32.toNatClampNeg v3) ((m6.1 158 (Int32.toNatClampNeg v3)) + (m6.1 3 (Int32.toNatClampNeg l1))) →
          J_X3_findHomes_18 (l1 + (1 : Int32)) m10 P)))))))
set_option maxRecDepth 20000 in
set_option maxHeartbeats 4000000 in
theorem b_X3_findHomes_18 {l1 : Int32} {m : vM} {P : vM → Prop}  (h : wp_X3_findHomes_18 l1 m P) : J_X3_findHomes_18 l1 m P := by
  show vJ mX3_findHomes 3 67 197 none 18 [(0, .ref 139), (1, .int l1)] [] 197 SH m (vPv P)
  unfold wp_X3_findHomes_18 at h
  refine vJ.iload_n dX3_findHomes_18 rfl rfl ?_
  refine vJ.bipush dX3_findHomes_19 cb_10 ?_
  refine vJ.icmp_ge (tgt := 92) dX3_findHomes_21 (by decide) (fun hc13 => ?_) (fun hc13 => ?_)
  · replace h := h.1 hc13
    exact vJ.vreturn dX3_findHomes_92 rfl rfl ⟨rfl, rfl, h⟩
  · replace h := h.2 hc13
    refine vJ.aload_n dX3_findHomes_24 rfl rfl ?_
    refine vJ.getR (ci := 3) (k := 2) (j := 1) dX3_findHomes_25 sh_139 (Nat.le_of_ble_eq_true rfl) rfl inX3 (Nat.le_of_ble_eq_true rfl) rfl fl_RX3_36 ?_
    refine vJ.iload_n dX3_findHomes_28 rfl rfl ?_
    refine vJ.callV (ci := 1) (Yc := mX1_firstCall) (frc := 2) (loc := 43) (as := [.int l1]) dX3_findHomes_29 rfl sh_1 (Nat.le_of_ble_eq_true rfl) rfl ml_RX3_93 im_yX1_firstCall se_yX1_firstCall co_X1_firstCall in_TableSetter_Grid pl_X1_firstCall (Nat.le_of_ble_eq_true rfl) (Nat.le_of_ble_eq_true rfl) (Nat.le_of_ble_eq_true rfl) ?_
    refine Ev.gi h (fun r2 m1 h => ?_)
    refine vJ.istore_n (ls2 := [(0, .ref 139), (1, .int l1), (2, .int r2)]) dX3_findHomes_32 rfl (Nat.le_of_ble_eq_true rfl) rfl ?_
    refine vJ.iload_n dX3_findHomes_33 rfl rfl ?_
    refine vJ.aload_n dX3_findHomes_34 rfl rfl ?_
    refine vJ.getI (ci := 3) (k := 10) dX3_findHomes_35 sh_139 (Nat.le_of_ble_eq_true rfl) rfl inX3 (Nat.le_of_ble_eq_true rfl) rfl fl_RX3_50 ?_
    refine vJ.mmax dX3_findHomes_38 ml_RX3_97 st_Lib_Math_max_name in_java_lang_Math co_Math_max (Nat.le_of_ble_eq_true rfl) (Nat.le_of_ble_eq_true rfl) ?_
    refine vJ.topi (fun v3 ev3 => ?_)
    replace h := h v3 ev3
    refine vJ.istore_n (ls2 := [(0, .ref 139), (1, .int l1), (2, .int r2), (3, .int v3)]) dX3_findHomes_41 rfl (Nat.le_of_ble_eq_true rfl) rfl ?_
    refine vJ.iload_n dX3_findHomes_42 rfl rfl ?_
    refine vJ.bipush dX3_findHomes_43 cb_m9 ?_
    refine vJ.icmp_eq (tgt := 86) dX3_findHomes_45 (by decide) (fun hc12 => ?_) (fun hc12 => ?_)
    · replace h := h.1 hc12
      refine vJ.iinc (v := l1 + (1 : Int32)) (ls2 := [(0, .ref 139), (1, .int (l1 + (1 : Int32))), (2, .int r2), (3, .int v3)]) dX3_findHomes_86 rfl (congrArg (l1 + ·) ci_1) (Nat.le_of_ble_eq_true rfl) rfl ?_
      refine vJ.goto (tgt := 18) dX3_findHomes_89 (by decide) ?_
      refine vJ.sub [0, 1] rfl ?_
      exact h
    · replace h := h.2 hc12
      refine vJ.iload_n dX3_findHomes_48 rfl rfl ?_
      refine vJ.aload_n dX3_findHomes_49 rfl rfl ?_
      refine vJ.getI (ci := 3) (k := 11) dX3_findHomes_50 sh_139 (Nat.le_of_ble_eq_true rfl) rfl inX3 (Nat.le_of_ble_eq_true rfl) rfl fl_RX3_62 ?_
      refine vJ.icmp_ge (tgt := 86) dX3_findHomes_53 (by decide) (fun hc11 => ?_) (fun hc11 => ?_)
      · replace h := h.1 hc11
        refine vJ.iinc (v := l1 + (1 : Int32)) (ls2 := [(0, .ref 139), (1, .int (l1 + (1 : Int32))), (2, .int r2), (3, .int v3)]) dX3_findHomes_86 rfl (congrArg (l1 + ·) ci_1) (Nat.le_of_ble_eq_true rfl) rfl ?_
        refine vJ.goto (tgt := 18) dX3_findHomes_89 (by decide) ?_
        refine vJ.sub [0, 1] rfl ?_
        exact h
      · replace h := h.2 hc11
        refine vJ.aload_n dX3_findHomes_56 rfl rfl ?_
        refine vJ.getR (ci := 3) (k := 4) (j := 157) dX3_findHomes_57 sh_139 (Nat.le_of_ble_eq_true rfl) rfl inX3 (Nat.le_of_ble_eq_true rfl) rfl fl_RX3_20 ?_
        refine vJ.iload_n dX3_findHomes_60 rfl rfl ?_
        refine vJ.dup2 dX3_findHomes_61 rfl rfl ?_
        obtain ⟨hb4, h⟩ := h
        refine vJ.iald dX3_findHomes_62 sh_157 (Nat.le_of_ble_eq_true rfl) hb4 ?_
        refine vJ.iconst dX3_findHomes_63 ci_1 ?_
        refine vJ.iload_n dX3_findHomes_64 rfl rfl ?_
        refine vJ.ishl dX3_findHomes_65 ?_
        refine vJ.ior dX3_findHomes_66 ?_
        obtain ⟨hb5, h⟩ := h
        refine vJ.iast dX3_findHomes_67 sh_157 (Nat.le_of_ble_eq_true rfl) hb5 ?_
        refine vJ.topm (fun m6 em6 => ?_)
        replace h := h m6 em6
        refine vJ.aload_n dX3_findHomes_68 rfl rfl ?_
        refine vJ.getR (ci := 3) (k := 5) (j := 158) dX3_findHomes_69 sh_139 (Nat.le_of_ble_eq_true rfl) rfl inX3 (Nat.le_of_ble_eq_true rfl) rfl fl_RX3_24 ?_
        refine vJ.iload_n dX3_findHomes_72 rfl rfl ?_
        refine vJ.dup2 dX3_findHomes_73 rfl rfl ?_
        obtain ⟨hb7, h⟩ := h
        refine vJ.iald dX3_findHomes_74 sh_158 (Nat.le_of_ble_eq_true rfl) hb7 ?_
        refine vJ.aload_n dX3_findHomes_75 rfl rfl ?_
        refine vJ.getR (ci := 3) (k := 2) (j := 1) dX3_findHomes_76 sh_139 (Nat.le_of_ble_eq_true rfl) rfl inX3 (Nat.le_of_ble_eq_true rfl) rfl fl_RX3_36 ?_
        refine vJ.getR (ci := 1) (k := 5) (j := 3) dX3_findHomes_79 sh_1 (Nat.le_of_ble_eq_true rfl) rfl inX1 (Nat.le_of_ble_eq_true rfl) rfl fl_RX3_100 ?_
        refine vJ.iload_n dX3_findHomes_82 rfl rfl ?_
        obtain ⟨hb8, h⟩ := h
        refine vJ.iald dX3_findHomes_83 sh_3 (Nat.le_of_ble_eq_true rfl) hb8 ?_
        refine vJ.iadd dX3_findHomes_84 ?_
        obtain ⟨hb9, h⟩ := h
        refine vJ.iast dX3_findHomes_85 sh_158 (Nat.le_of_ble_eq_true rfl) hb9 ?_
        refine vJ.topm (fun m10 em10 => ?_)
        replace h := h m10 em10
        refine vJ.iinc (v := l1 + (1 : Int32)) (ls2 := [(0, .ref 139), (1, .int (l1 + (1 : Int32))), (2, .int r2), (3, .int v3)]) dX3_findHomes_86 rfl (congrArg (l1 + ·) ci_1) (Nat.le_of_ble_eq_true rfl) rfl ?_
        refine vJ.goto (tgt := 18) dX3_findHomes_89 (by decide) ?_
        refine vJ.sub [0, 1] rfl ?_
        exact h
def J_X3_layOut_0  (m : vM) (P : vM → Prop) : Prop := vJ mX3_layOut 1 21 197 none 0 [(0, .ref 139)] [] 197 SH m (vPv P)
def J_X3_layOut_5 (l1 : Int32) (m : vM) (P : vM → Prop) : Prop := vJ mX3_layOut 1 21 197 none 5 [(0, .ref 139), (1, .int l1)] [] 197 SH m (vPv P)
def wp_X3_layOut_0  (m : vM) (P : vM → Prop) : Prop :=
  ∀ v1 : Int32, v1 = (m.1 139 10) →
  J_X3_layOut_5 v1 m P
set_option maxRecDepth 20000 in
set_option maxHeartbeats 4000000 in
theorem b_X3_layOut_0  {m : vM} {P : vM → Prop}  (h : wp_X3_layOut_0  m P) : J_X3_layOut_0  m P := by
  show vJ mX3_layOut 1 21 197 none 0 [(0, .ref 139)] [] 197 SH m (vPv P)
  unfold wp_X3_layOut_0 at h
  refine vJ.aload_n dX3_layOut_0 rfl rfl ?_
  refine vJ.getI (ci := 3) (k := 10) dX3_layOut_1 sh_139 (Nat.le_of_ble_eq_true rfl) rfl inX3 (Nat.le_of_ble_eq_true rfl) rfl fl_RX3_50 ?_
  refine vJ.topi (fun v1 ev1 => ?_)
  replace h := h v1 ev1
  refine vJ.istore_n (ls2 := [(0, .ref 139), (1, .int v1)]) dX3_layOut_4 rfl (Nat.le_of_ble_eq_true rfl) rfl ?_
  exact h
def EI_X3_layOut  (m : vM) (P : vM → Prop) : Prop := Ev mX3_layOut 1 21 197 [.ref 139] 197 SH m (vPv P)
theorem f_X3_layOut  {m : vM} {P : vM → Prop} (h : J_X3_layOut_0  m P) : EI_X3_layOut  m P := Ev.of pn_X3_layOut (Nat.le_of_ble_eq_true rfl) h
def J_X3_layOut_76 (l2 : Int32) (p3 : Nat) (l4 : Int32) (m : vM) (P : vM → Prop) : Prop := vJ mX3_layOut 1 21 197 none 76 [(0, .ref 139), (2, .int l2), (3, .ref (141 + p3)), (4, .int l4)] [] 197 SH m (vPv P)
def wp_X3_layOut_5 (l1 : Int32) (m : vM) (P : vM → Prop) : Prop :=
  (((m.1 139 11) ≤ l1 →
    P m) ∧
  (¬ (m.1 139 11) ≤ l1 →
    (((16 : Int32) ≤ (m.1 139 0) →
      P m) ∧
    (¬ (16 : Int32) ≤ (m.1 139 0) →
      vp_in l1 17 ∧
      ∀ v2 : Int32, v2 = (if (m.1 139 11) < (if (m.1 161 (Int32.toNatClampNeg l1)) < (l1 + (1 : Int32)) then (l1 + (1 : Int32)) else (m.1 161 (Int32.toNatClampNeg l1))) then (m.1 139 11) else (if (m.1 161 (Int32.toNatClampNeg l1)) < (l1 + (1 : Int32)) then (l1 + (1 : Int32)) else (m.1 161 (Int32.toNatClampNeg l1)))) →
      vp_in (m.1 139 0) 16 ∧
      vp_in (0 : Int32) 4 ∧
      ∀ m6 : vM, m6 = upI m (141 + (Int32.toNatClampNeg (m.1 139 0))) (Int32.toNatClampNeg (0 : Int32)) l1 →
      vp_in (1 : Int32) 4 ∧
      ∀ m8 : vM, m8 = upI m6 (141 + (Int32.toNatClampNeg (m.1 139 0))) (Int32.toNatClampNeg (1 : Int32)) (v2 - l1) →
      vp_in (2 : Int32) 4 ∧
      ∀ m10 : vM, m10 = upI m8 (141 + (Int32.toNatClampNeg (m.1 139 0))) (Int32.toNatClampNeg (2 : Int32)) (m8.1 139 9) →
      vp_in (3 : Int32) 4 ∧
      ∀ m12 : vM, m12 = upI m10 (141 + (Int32.toNatClampNeg (m.1 139 0))) (Int32.toNatClampNeg (3 : Int32)) (0 : Int32) →
      J_X3_layOut_76 v2 (Int32.toNatClampNeg (m.1 139 0)) l1 m12 P))))
set_option maxRecDepth 20000 in
set_option maxHeartbeats 4000000 in
theorem b_X3_layOut_5 {l1 : Int32} {m : vM} {P : vM → Prop}  (h : wp_X3_layOut_5 l1 m P) : J_X3_layOut_5 l1 m P := by
  show vJ mX3_layOut 1 21 197 none 5 [(0, .ref 139), (1, .int l1)] [] 197 SH m (vPv P)
  unfold wp_X3_layOut_5 at h
  refine vJ.iload_n dX3_layOut_5 rfl rfl ?_
  refine vJ.aload_n dX3_layOut_6 rfl rfl ?_
  refine vJ.getI (ci := 3) (k := 11) dX3_layOut_7 sh_139 (Nat.le_of_ble_eq_true rfl) rfl inX3 (Nat.le_of_ble_eq_true rfl) rfl fl_RX3_62 ?_
  refine vJ.icmp_ge (tgt := 140) dX3_layOut_10 (by decide) (fun hc14 => ?_) (fun hc14 => ?_)
  · replace h := h.1 hc14
    exact vJ.vreturn dX3_layOut_140 rfl rfl ⟨rfl, rfl, h⟩
  · replace h := h.2 hc14
    refine vJ.aload_n dX3_layOut_13 rfl rfl ?_
    refine vJ.getI (ci := 3) (k := 0) dX3_layOut_14 sh_139 (Nat.le_of_ble_eq_true rfl) rfl inX3 (Nat.le_of_ble_eq_true rfl) rfl fl_RX3_9 ?_
    refine vJ.bipush dX3_layOut_17 cb_16 ?_
    refine vJ.icmp_ge (tgt := 140) dX3_layOut_19 (by decide) (fun hc13 => ?_) (fun hc13 => ?_)
    · replace h := h.1 hc13
      exact vJ.vreturn dX3_layOut_140 rfl rfl ⟨rfl, rfl, h⟩
    · replace h := h.2 hc13
      refine vJ.aload_n dX3_layOut_22 rfl rfl ?_
      refine vJ.getR (ci := 3) (k := 8) (j := 161) dX3_layOut_23 sh_139 (Nat.le_of_ble_eq_true rfl) rfl inX3 (Nat.le_of_ble_eq_true rfl) rfl fl_RX3_33 ?_
      refine vJ.iload_n dX3_layOut_26 rfl rfl ?_
      obtain ⟨hb1, h⟩ := h
      refine vJ.iald dX3_layOut_27 sh_161 (Nat.le_of_ble_eq_true rfl) hb1 ?_
      refine vJ.iload_n dX3_layOut_28 rfl rfl ?_
      refine vJ.iconst dX3_layOut_29 ci_1 ?_
      refine vJ.iadd dX3_layOut_30 ?_
      refine vJ.mmax dX3_layOut_31 ml_RX3_97 st_Lib_Math_max_name in_java_lang_Math co_Math_max (Nat.le_of_ble_eq_true rfl) (Nat.le_of_ble_eq_true rfl) ?_
      refine vJ.aload_n dX3_layOut_34 rfl rfl ?_
      refine vJ.getI (ci := 3) (k := 11) dX3_layOut_35 sh_139 (Nat.le_of_ble_eq_true rfl) rfl inX3 (Nat.le_of_ble_eq_true rfl) rfl fl_RX3_62 ?_
      refine vJ.mmin dX3_layOut_38 ml_RX3_56 st_Lib_Math_min_name in_java_lang_Math co_Math_min (Nat.le_of_ble_eq_true rfl) (Nat.le_of_ble_eq_true rfl) ?_
      refine vJ.topi (fun v2 ev2 => ?_)
      replace h := h v2 ev2
      refine vJ.istore_n (ls2 := [(0, .ref 139), (1, .int l1), (2, .int v2)]) dX3_layOut_41 rfl (Nat.le_of_ble_eq_true rfl) rfl ?_
      refine vJ.aload_n dX3_layOut_42 rfl rfl ?_
      refine vJ.getR (ci := 3) (k := 1) (j := 140) dX3_layOut_43 sh_139 (Nat.le_of_ble_eq_true rfl) rfl inX3 (Nat.le_of_ble_eq_true rfl) rfl fl_RX3_17 ?_
      refine vJ.aload_n dX3_layOut_46 rfl rfl ?_
      refine vJ.getI (ci := 3) (k := 0) dX3_layOut_47 sh_139 (Nat.le_of_ble_eq_true rfl) rfl inX3 (Nat.le_of_ble_eq_true rfl) rfl fl_RX3_9 ?_
      obtain ⟨hb3, h⟩ := h
      have hi4 := vp_lt hb3
      refine vJ.aald5 dX3_layOut_50 sh_140 (Nat.le_of_ble_eq_true rfl) hb3 (cs140_at hi4) ?_
      refine vJ.astore_n (ls2 := [(0, .ref 139), (1, .int l1), (2, .int v2), (3, .ref (141 + (Int32.toNatClampNeg (m.1 139 0))))]) dX3_layOut_51 rfl (Nat.le_of_ble_eq_true rfl) rfl ?_
      refine vJ.aload_n dX3_layOut_52 rfl rfl ?_
      refine vJ.iconst dX3_layOut_53 ci_0 ?_
      refine vJ.iload_n dX3_layOut_54 rfl rfl ?_
      obtain ⟨hb5, h⟩ := h
      refine vJ.iast dX3_layOut_55 (sh_F hi4) (lt_F hi4) hb5 ?_
      refine vJ.topm (fun m6 em6 => ?_)
      replace h := h m6 em6
      refine vJ.aload_n dX3_layOut_56 rfl rfl ?_
      refine vJ.iconst dX3_layOut_57 ci_1 ?_
      refine vJ.iload_n dX3_layOut_58 rfl rfl ?_
      refine vJ.iload_n dX3_layOut_59 rfl rfl ?_
      refine vJ.isub dX3_layOut_60 ?_
      obtain ⟨hb7, h⟩ := h
      refine vJ.iast dX3_layOut_61 (sh_F hi4) (lt_F hi4) hb7 ?_
      refine vJ.topm (fun m8 em8 => ?_)
      replace h := h m8 em8
      refine vJ.aload_n dX3_layOut_62 rfl rfl ?_
      refine vJ.iconst dX3_layOut_63 ci_2 ?_
      refine vJ.aload_n dX3_layOut_64 rfl rfl ?_
      refine vJ.getI (ci := 3) (k := 9) dX3_layOut_65 sh_139 (Nat.le_of_ble_eq_true rfl) rfl inX3 (Nat.le_of_ble_eq_true rfl) rfl fl_RX3_65 ?_
      obtain ⟨hb9, h⟩ := h
      refine vJ.iast dX3_layOut_68 (sh_F hi4) (lt_F hi4) hb9 ?_
      refine vJ.topm (fun m10 em10 => ?_)
      replace h := h m10 em10
      refine vJ.aload_n dX3_layOut_69 rfl rfl ?_
      refine vJ.iconst dX3_layOut_70 ci_3 ?_
      refine vJ.iconst dX3_layOut_71 ci_0 ?_
      obtain ⟨hb11, h⟩ := h
      refine vJ.iast dX3_layOut_72 (sh_F hi4) (lt_F hi4) hb11 ?_
      refine vJ.topm (fun m12 em12 => ?_)
      replace h := h m12 em12
      refine vJ.iload_n dX3_layOut_73 rfl rfl ?_
      refine vJ.istore (ls2 := [(0, .ref 139), (1, .int l1), (2, .int v2), (3, .ref (141 + (Int32.toNatClampNeg (m.1 139 0)))), (4, .int l1)]) dX3_layOut_74 (Nat.le_of_ble_eq_true rfl) rfl ?_
      refine vJ.sub [0, 2, 3, 4] rfl ?_
      exact h
def wp_X3_layOut_76 (l2 : Int32) (p3 : Nat) (l4 : Int32) (m : vM) (P : vM → Prop) : Prop :=
  ((l2 ≤ l4 →
    ∀ m1 : vM, m1 = upI m 139 0 ((m.1 139 0) + (1 : Int32)) →
    J_X3_layOut_5 l2 m1 P) ∧
  (¬ l2 ≤ l4 →
    vp_in (2 : Int32) 4 ∧
    vp_in l4 16 ∧
    vp_in l4 16 ∧
    vp_in (2 : Int32) 4 ∧
    ∀ m6 : vM, m6 = upI m (141 + p3) (Int32.toNatClampNeg (2 : Int32)) ((m.1 (141 + p3) (Int32.toNatClampNeg (2 : Int32))) - ((m.1 126 (Int32.toNatClampNeg l4)) + (m.1 158 (Int32.toNatClampNeg l4)))) →
    vp_in (3 : Int32) 4 ∧
    vp_in l4 16 ∧
    vp_in (3 : Int32) 4 ∧
    ∀ m10 : vM, m10 = upI m6 (141 + p3) (Int32.toNatClampNeg (3 : Int32)) ((m6.1 (141 + p3) (Int32.toNatClampNeg (3 : Int32))) ||| (m6.1 157 (Int32.toNatClampNeg l4))) →
    J_X3_layOut_76 l2 p3 (l4 + (1 : Int32)) m10 P))
set_option maxRecDepth 20000 in
set_option maxHeartbeats 4000000 in
theorem b_X3_layOut_76 {l2 : Int32} {p3 : Nat} {l4 : Int32} {m : vM} {P : vM → Prop} (hp3 : p3 < 16) (h : wp_X3_layOut_76 l2 p3 l4 m P) : J_X3_layOut_76 l2 p3 l4 m P := by
  show vJ mX3_layOut 1 21 197 none 76 [(0, .ref 139), (2, .int l2), (3, .ref (141 + p3)), (4, .int l4)] [] 197 SH m (vPv P)
  unfold wp_X3_layOut_76 at h
  refine vJ.iload dX3_layOut_76 rfl ?_
  refine vJ.iload_n dX3_layOut_78 rfl rfl ?_
  refine vJ.icmp_ge (tgt := 125) dX3_layOut_79 (by decide) (fun hc11 => ?_) (fun hc11 => ?_)
  · replace h := h.1 hc11
    refine vJ.aload_n dX3_layOut_125 rfl rfl ?_
    refine vJ.dup dX3_layOut_126 rfl ?_
    refine vJ.getI (ci := 3) (k := 0) dX3_layOut_127 sh_139 (Nat.le_of_ble_eq_true rfl) rfl inX3 (Nat.le_of_ble_eq_true rfl) rfl fl_RX3_9 ?_
    refine vJ.iconst dX3_layOut_130 ci_1 ?_
    refine vJ.iadd dX3_layOut_131 ?_
    refine vJ.putI (ci := 3) (k := 0) dX3_layOut_132 sh_139 (Nat.le_of_ble_eq_true rfl) rfl inX3 tyX3 tyX3_ok nmX3 (Nat.le_of_ble_eq_true rfl) rfl rfl fl_RX3_9 rfl rfl ?_
    refine vJ.topm (fun m1 em1 => ?_)
    replace h := h m1 em1
    refine vJ.iload_n dX3_layOut_135 rfl rfl ?_
    refine vJ.istore_n (ls2 := [(0, .ref 139), (1, .int l2), (2, .int l2), (3, .ref (141 + p3)), (4, .int l4)]) dX3_layOut_136 rfl (Nat.le_of_ble_eq_true rfl) rfl ?_
    refine vJ.goto (tgt := 5) dX3_layOut_137 (by decide) ?_
    refine vJ.sub [0, 1] rfl ?_
    exact h
  · replace h := h.2 hc11
    refine vJ.aload_n dX3_layOut_82 rfl rfl ?_
    refine vJ.iconst dX3_layOut_83 ci_2 ?_
    refine vJ.dup2 dX3_layOut_84 rfl rfl ?_
    obtain ⟨hb2, h⟩ := h
    refine vJ.iald dX3_layOut_85 (sh_F hp3) (lt_F hp3) hb2 ?_
    refine vJ.aload_n dX3_layOut_86 rfl rfl ?_
    refine vJ.getR (ci := 3) (k := 3) (j := 125) dX3_layOut_87 sh_139 (Nat.le_of_ble_eq_true rfl) rfl inX3 (Nat.le_of_ble_eq_true rfl) rfl fl_RX3_40 ?_
    refine vJ.getR (ci := 2) (k := 0) (j := 126) dX3_layOut_90 sh_125 (Nat.le_of_ble_eq_true rfl) rfl inX2 (Nat.le_of_ble_eq_true rfl) rfl fl_RX3_68 ?_
    refine vJ.iload dX3_layOut_93 rfl ?_
    obtain ⟨hb3, h⟩ := h
    refine vJ.iald dX3_layOut_95 sh_126 (Nat.le_of_ble_eq_true rfl) hb3 ?_
    refine vJ.aload_n dX3_layOut_96 rfl rfl ?_
    refine vJ.getR (ci := 3) (k := 5) (j := 158) dX3_layOut_97 sh_139 (Nat.le_of_ble_eq_true rfl) rfl inX3 (Nat.le_of_ble_eq_true rfl) rfl fl_RX3_24 ?_
    refine vJ.iload dX3_layOut_100 rfl ?_
    obtain ⟨hb4, h⟩ := h
    refine vJ.iald dX3_layOut_102 sh_158 (Nat.le_of_ble_eq_true rfl) hb4 ?_
    refine vJ.iadd dX3_layOut_103 ?_
    refine vJ.isub dX3_layOut_104 ?_
    obtain ⟨hb5, h⟩ := h
    refine vJ.iast dX3_layOut_105 (sh_F hp3) (lt_F hp3) hb5 ?_
    refine vJ.topm (fun m6 em6 => ?_)
    replace h := h m6 em6
    refine vJ.aload_n dX3_layOut_106 rfl rfl ?_
    refine vJ.iconst dX3_layOut_107 ci_3 ?_
    refine vJ.dup2 dX3_layOut_108 rfl rfl ?_
    obtain ⟨hb7, h⟩ := h
    refine vJ.iald dX3_layOut_109 (sh_F hp3) (lt_F hp3) hb7 ?_
    refine vJ.aload_n dX3_layOut_110 rfl rfl ?_
    refine vJ.getR (ci := 3) (k := 4) (j := 157) dX3_layOut_111 sh_139 (Nat.le_of_ble_eq_true rfl) rfl inX3 (Nat.le_of_ble_eq_true rfl) rfl fl_RX3_20 ?_
    refine vJ.iload dX3_layOut_114 rfl ?_
    obtain ⟨hb8, h⟩ := h
    refine vJ.iald dX3_layOut_116 sh_157 (Nat.le_of_ble_eq_true rfl) hb8 ?_
    refine vJ.ior dX3_layOut_117 ?_
    obtain ⟨hb9, h⟩ := h
    refine vJ.iast dX3_layOut_118 (sh_F hp3) (lt_F hp3) hb9 ?_
    refine vJ.topm (fun m10 em10 => ?_)
    replace h := h m10 em10
    refine vJ.iinc (v := l4 + (1 : Int32)) (ls2 := [(0, .ref 139), (2, .int l2), (3, .ref (141 + p3)), (4, .int (l4 + (1 : Int32)))]) dX3_layOut_119 rfl (congrArg (l4 + ·) ci_1) (Nat.le_of_ble_eq_true rfl) rfl ?_
    refine vJ.goto (tgt := 76) dX3_layOut_122 (by decide) ?_
    exact h
def J_X3_isAlone_0 (l1 : Int32) (l2 : Int32) (m : vM) (P : Int32 → vM → Prop) : Prop := vJ mX3_isAlone 0 0 197 none 0 [(0, .ref 139), (1, .int l1), (2, .int l2)] [] 197 SH m (vPi P)
def wp_X3_isAlone (l1 : Int32) (l2 : Int32) (m : vM) (P : Int32 → vM → Prop) : Prop :=
  (((l2 - l1) = (1 : Int32) →
    vp_in l1 16 ∧
    (((m.1 126 (Int32.toNatClampNeg l1)) = (1 : Int32) →
      ((((m.1 139 11) - (m.1 139 10)) ≤ (1 : Int32) →
        P (0 : Int32) m) ∧
      (¬ ((m.1 139 11) - (m.1 139 10)) ≤ (1 : Int32) →
        P (1 : Int32) m))) ∧
    (¬ (m.1 126 (Int32.toNatClampNeg l1)) = (1 : Int32) →
      P (0 : Int32) m))) ∧
  (¬ (l2 - l1) = (1 : Int32) →
    P (0 : Int32) m))
set_option maxRecDepth 20000 in
set_option maxHeartbeats 4000000 in
theorem b_X3_isAlone {l1 : Int32} {l2 : Int32} {m : vM} {P : Int32 → vM → Prop}  (h : wp_X3_isAlone l1 l2 m P) : J_X3_isAlone_0 l1 l2 m P := by
  show vJ mX3_isAlone 0 0 197 none 0 [(0, .ref 139), (1, .int l1), (2, .int l2)] [] 197 SH m (vPi P)
  unfold wp_X3_isAlone at h
  refine vJ.iload_n dX3_isAlone_0 rfl rfl ?_
  refine vJ.iload_n dX3_isAlone_1 rfl rfl ?_
  refine vJ.isub dX3_isAlone_2 ?_
  refine vJ.iconst dX3_isAlone_3 ci_1 ?_
  refine vJ.icmp_ne (tgt := 37) dX3_isAlone_4 (by decide) (fun hc4 => ?_) (fun hc4 => ?_)
  · replace h := h.2 hc4
    refine vJ.iconst dX3_isAlone_37 ci_0 ?_
    exact vJ.ireturn dX3_isAlone_38 rfl (by decide) rfl ⟨rfl, _, rfl, h⟩
  · replace h := h.1 hc4
    refine vJ.aload_n dX3_isAlone_7 rfl rfl ?_
    refine vJ.getR (ci := 3) (k := 3) (j := 125) dX3_isAlone_8 sh_139 (Nat.le_of_ble_eq_true rfl) rfl inX3 (Nat.le_of_ble_eq_true rfl) rfl fl_RX3_40 ?_
    refine vJ.getR (ci := 2) (k := 0) (j := 126) dX3_isAlone_11 sh_125 (Nat.le_of_ble_eq_true rfl) rfl inX2 (Nat.le_of_ble_eq_true rfl) rfl fl_RX3_68 ?_
    refine vJ.iload_n dX3_isAlone_14 rfl rfl ?_
    obtain ⟨hb1, h⟩ := h
    refine vJ.iald dX3_isAlone_15 sh_126 (Nat.le_of_ble_eq_true rfl) hb1 ?_
    refine vJ.iconst dX3_isAlone_16 ci_1 ?_
    refine vJ.icmp_ne (tgt := 37) dX3_isAlone_17 (by decide) (fun hc3 => ?_) (fun hc3 => ?_)
    · replace h := h.2 hc3
      refine vJ.iconst dX3_isAlone_37 ci_0 ?_
      exact vJ.ireturn dX3_isAlone_38 rfl (by decide) rfl ⟨rfl, _, rfl, h⟩
    · replace h := h.1 hc3
      refine vJ.aload_n dX3_isAlone_20 rfl rfl ?_
      refine vJ.getI (ci := 3) (k := 11) dX3_isAlone_21 sh_139 (Nat.le_of_ble_eq_true rfl) rfl inX3 (Nat.le_of_ble_eq_true rfl) rfl fl_RX3_62 ?_
      refine vJ.aload_n dX3_isAlone_24 rfl rfl ?_
      refine vJ.getI (ci := 3) (k := 10) dX3_isAlone_25 sh_139 (Nat.le_of_ble_eq_true rfl) rfl inX3 (Nat.le_of_ble_eq_true rfl) rfl fl_RX3_50 ?_
      refine vJ.isub dX3_isAlone_28 ?_
      refine vJ.iconst dX3_isAlone_29 ci_1 ?_
      refine vJ.icmp_le (tgt := 37) dX3_isAlone_30 (by decide) (fun hc2 => ?_) (fun hc2 => ?_)
      · replace h := h.1 hc2
        refine vJ.iconst dX3_isAlone_37 ci_0 ?_
        exact vJ.ireturn dX3_isAlone_38 rfl (by decide) rfl ⟨rfl, _, rfl, h⟩
      · replace h := h.2 hc2
        refine vJ.iconst dX3_isAlone_33 ci_1 ?_
        refine vJ.goto (tgt := 38) dX3_isAlone_34 (by decide) ?_
        exact vJ.ireturn dX3_isAlone_38 rfl (by decide) rfl ⟨rfl, _, rfl, h⟩
def EI_X3_isAlone (l1 : Int32) (l2 : Int32) (m : vM) (P : Int32 → vM → Prop) : Prop := Ev mX3_isAlone 0 0 197 [.ref 139, .int l1, .int l2] 197 SH m (vPi P)
theorem f_X3_isAlone {l1 : Int32} {l2 : Int32} {m : vM} {P : Int32 → vM → Prop} (h : J_X3_isAlone_0 l1 l2 m P) : EI_X3_isAlone l1 l2 m P := Ev.of pn_X3_isAlone (Nat.le_of_ble_eq_true rfl) h
theorem e_X3_isAlone {l1 : Int32} {l2 : Int32} {m : vM} {P : Int32 → vM → Prop}  (h : wp_X3_isAlone l1 l2 m P) : EI_X3_isAlone l1 l2 m P := f_X3_isAlone (b_X3_isAlone  h)
def J_X3_weigh_0 (l1 : Int32) (l2 : Int32) (l3 : Int32) (m : vM) (P : vM → Prop) : Prop := vJ mX3_weigh 0 0 197 none 0 [(0, .ref 139), (1, .int l1), (2, .int l2), (3, .int l3)] [] 197 SH m (vPv P)
def J_X3_weigh_88 (l1 : Int32) (l2 : Int32) (l4 : Int32) (l5 : Int32) (m : vM) (P : vM → Prop) : Prop := vJ mX3_weigh 0 0 197 none 88 [(0, .ref 139), (1, .int l1), (2, .int l2), (4, .int l4), (5, .int l5)] [] 197 SH m (vPv P)
def wp_X3_weigh_0 (l1 : Int32) (l2 : Int32) (l3 : Int32) (m : vM) (P : vM → Prop) : Prop :=
  vp_in l2 17 ∧
  ∀ v2 : Int32, v2 = ((1 : Int32) + (m.1 159 (Int32.toNatClampNeg l2))) →
  ((l2 = (m.1 139 11) →
    vp_in l1 17 ∧
    (((m.1 159 (Int32.toNatClampNeg l1)) = (0 : Int32) →
      (((1 : Int32) = (0 : Int32) →
        vp_in l1 17 ∧
        ((v2 < (m.1 159 (Int32.toNatClampNeg l1)) →
          J_X3_weigh_88 l1 l2 v2 (0 : Int32) m P) ∧
        (¬ v2 < (m.1 159 (Int32.toNatClampNeg l1)) →
          vp_in l1 17 ∧
          ((v2 = (m.1 159 (Int32.toNatClampNeg l1)) →
            vp_in l1 17 ∧
            (((m.1 160 (Int32.toNatClampNeg l1)) < (0 : Int32) →
              P m) ∧
            (¬ (m.1 160 (Int32.toNatClampNeg l1)) < (0 : Int32) →
              J_X3_weigh_88 l1 l2 v2 (0 : Int32) m P))) ∧
          (¬ v2 = (m.1 159 (Int32.toNatClampNeg l1)) →
            P m))))) ∧
      (¬ (1 : Int32) = (0 : Int32) →
        J_X3_weigh_88 l1 l2 v2 (0 : Int32) m P))) ∧
    (¬ (m.1 159 (Int32.toNatClampNeg l1)) = (0 : Int32) →
      (((0 : Int32) = (0 : Int32) →
        vp_in l1 17 ∧
        ((v2 < (m.1 159 (Int32.toNatClampNeg l1)) →
          J_X3_weigh_88 l1 l2 v2 (0 : Int32) m P) ∧
        (¬ v2 < (m.1 159 (Int32.toNatClampNeg l1)) →
          vp_in l1 17 ∧
          ((v2 = (m.1 159 (Int32.toNatClampNeg l1)) →
            vp_in l1 17 ∧
            (((m.1 160 (Int32.toNatClampNeg l1)) < (0 : Int32) →
              P m) ∧
            (¬ (m.1 160 (Int32.toNatClampNeg l1)) < (0 : Int32) →
              J_X3_weigh_88 l1 l2 v2 (0 : Int32) m P))) ∧
          (¬ v2 = (m.1 159 (Int32.toNatClampNeg l1)) →
            P m))))) ∧
      (¬ (0 : Int32) = (0 : Int32) →
        J_X3_weigh_88 l1 l2 v2 (0 : Int32) m P))))) ∧
  (¬ l2 = (m.1 139 11) →
    vp_in l2 17 ∧
    ∀ v4 : Int32, v4 = ((m.1 160 (Int32.toNatClampNeg l2)) + (l3 * l3)) →
    vp_in l1 17 ∧
    (((m.1 159 (Int32.toNatClampNeg l1)) = (0 : Int32) →
      (((1 : Int32) = (0 : Int32) →
        vp_in l1 17 ∧
        ((v2 < (m.1 159 (Int32.toNatClampNeg l1)) →
          J_X3_weigh_88 l1 l2 v2 v4 m P) ∧
        (¬ v2 < (m.1 159 (Int32.toNatClampNeg l1)) →
          vp_in l1 17 ∧
          ((v2 = (m.1 159 (Int32.toNatClampNeg l1)) →
            vp_in l1 17 ∧
            (((m.1 160 (Int32.toNatClampNeg l1)) < v4 →
              P m) ∧
            (¬ (m.1 160 (Int32.toNatClampNeg l1)) < v4 →
              J_X3_weigh_88 l1 l2 v2 v4 m P))) ∧
          (¬ v2 = (m.1 159 (Int32.toNatClampNeg l1)) →
            P m))))) ∧
      (¬ (1 : Int32) = (0 : Int32) →
        J_X3_weigh_88 l1 l2 v2 v4 m P))) ∧
    (¬ (m.1 159 (Int32.toNatClampNeg l1)) = (0 : Int32) →
      (((0 : Int32) = (0 : Int32) →
        vp_in l1 17 ∧
        ((v2 < (m.1 159 (Int32.toNatClampNeg l1)) →
          J_X3_weigh_88 l1 l2 v2 v4 m P) ∧
        (¬ v2 < (m.1 159 (Int32.toNatClampNeg l1)) →
          vp_in l1 17 ∧
          ((v2 = (m.1 159 (Int32.toNatClampNeg l1)) →
            vp_in l1 17 ∧
            (((m.1 160 (Int32.toNatClampNeg l1)) < v4 →
              P m) ∧
            (¬ (m.1 160 (Int32.toNatClampNeg l1)) < v4 →
              J_X3_weigh_88 l1 l2 v2 v4 m P))) ∧
          (¬ v2 = (m.1 159 (Int32.toNatClampNeg l1)) →
            P m))))) ∧
      (¬ (0 : Int32) = (0 : Int32) →
        J_X3_weigh_88 l1 l2 v2 v4 m P))))))
set_option maxRecDepth 20000 in
set_option maxHeartbeats 4000000 in
theorem b_X3_weigh_0 {l1 : Int32} {l2 : Int32} {l3 : Int32} {m : vM} {P : vM → Prop}  (h : wp_X3_weigh_0 l1 l2 l3 m P) : J_X3_weigh_0 l1 l2 l3 m P := by
  show vJ mX3_weigh 0 0 197 none 0 [(0, .ref 139), (1, .int l1), (2, .int l2), (3, .int l3)] [] 197 SH m (vPv P)
  unfold wp_X3_weigh_0 at h
  refine vJ.iconst dX3_weigh_0 ci_1 ?_
  refine vJ.aload_n dX3_weigh_1 rfl rfl ?_
  refine vJ.getR (ci := 3) (k := 6) (j := 159) dX3_weigh_2 sh_139 (Nat.le_of_ble_eq_true rfl) rfl inX3 (Nat.le_of_ble_eq_true rfl) rfl fl_RX3_27 ?_
  refine vJ.iload_n dX3_weigh_5 rfl rfl ?_
  obtain ⟨hb1, h⟩ := h
  refine vJ.iald dX3_weigh_6 sh_159 (Nat.le_of_ble_eq_true rfl) hb1 ?_
  refine vJ.iadd dX3_weigh_7 ?_
  refine vJ.topi (fun v2 ev2 => ?_)
  replace h := h v2 ev2
  refine vJ.istore (ls2 := [(0, .ref 139), (1, .int l1), (2, .int l2), (3, .int l3), (4, .int v2)]) dX3_weigh_8 (Nat.le_of_ble_eq_true rfl) rfl ?_
  refine vJ.iload_n dX3_weigh_10 rfl rfl ?_
  refine vJ.aload_n dX3_weigh_11 rfl rfl ?_
  refine vJ.getI (ci := 3) (k := 11) dX3_weigh_12 sh_139 (Nat.le_of_ble_eq_true rfl) rfl inX3 (Nat.le_of_ble_eq_true rfl) rfl fl_RX3_62 ?_
  refine vJ.icmp_ne (tgt := 22) dX3_weigh_15 (by decide) (fun hc37 => ?_) (fun hc37 => ?_)
  · replace h := h.2 hc37
    refine vJ.aload_n dX3_weigh_22 rfl rfl ?_
    refine vJ.getR (ci := 3) (k := 7) (j := 160) dX3_weigh_23 sh_139 (Nat.le_of_ble_eq_true rfl) rfl inX3 (Nat.le_of_ble_eq_true rfl) rfl fl_RX3_30 ?_
    refine vJ.iload_n dX3_weigh_26 rfl rfl ?_
    obtain ⟨hb3, h⟩ := h
    refine vJ.iald dX3_weigh_27 sh_160 (Nat.le_of_ble_eq_true rfl) hb3 ?_
    refine vJ.iload_n dX3_weigh_28 rfl rfl ?_
    refine vJ.iload_n dX3_weigh_29 rfl rfl ?_
    refine vJ.imul dX3_weigh_30 ?_
    refine vJ.iadd dX3_weigh_31 ?_
    refine vJ.topi (fun v4 ev4 => ?_)
    replace h := h v4 ev4
    refine vJ.istore (ls2 := [(0, .ref 139), (1, .int l1), (2, .int l2), (3, .int l3), (4, .int v2), (5, .int v4)]) dX3_weigh_32 (Nat.le_of_ble_eq_true rfl) rfl ?_
    refine vJ.aload_n dX3_weigh_34 rfl rfl ?_
    refine vJ.getR (ci := 3) (k := 6) (j := 159) dX3_weigh_35 sh_139 (Nat.le_of_ble_eq_true rfl) rfl inX3 (Nat.le_of_ble_eq_true rfl) rfl fl_RX3_27 ?_
    refine vJ.iload_n dX3_weigh_38 rfl rfl ?_
    obtain ⟨hb5, h⟩ := h
    refine vJ.iald dX3_weigh_39 sh_159 (Nat.le_of_ble_eq_true rfl) hb5 ?_
    refine vJ.if_ne (tgt := 47) dX3_weigh_40 (by decide) (fun hc20 => ?_) (fun hc20 => ?_)
    · replace h := h.2 hc20
      refine vJ.iconst dX3_weigh_47 ci_0 ?_
      refine vJ.istore (ls2 := [(0, .ref 139), (1, .int l1), (2, .int l2), (3, .int l3), (4, .int v2), (5, .int v4), (6, .int (0 : Int32))]) dX3_weigh_48 (Nat.le_of_ble_eq_true rfl) rfl ?_
      refine vJ.iload dX3_weigh_50 rfl ?_
      refine vJ.if_ne (tgt := 88) dX3_weigh_52 (by decide) (fun hc12 => ?_) (fun hc12 => ?_)
      · replace h := h.2 hc12
        refine vJ.sub [0, 1, 2, 4, 5] rfl ?_
        exact h
      · replace h := h.1 hc12
        refine vJ.iload dX3_weigh_55 rfl ?_
        refine vJ.aload_n dX3_weigh_57 rfl rfl ?_
        refine vJ.getR (ci := 3) (k := 6) (j := 159) dX3_weigh_58 sh_139 (Nat.le_of_ble_eq_true rfl) rfl inX3 (Nat.le_of_ble_eq_true rfl) rfl fl_RX3_27 ?_
        refine vJ.iload_n dX3_weigh_61 rfl rfl ?_
        obtain ⟨hb6, h⟩ := h
        refine vJ.iald dX3_weigh_62 sh_159 (Nat.le_of_ble_eq_true rfl) hb6 ?_
        refine vJ.icmp_lt (tgt := 88) dX3_weigh_63 (by decide) (fun hc11 => ?_) (fun hc11 => ?_)
        · replace h := h.1 hc11
          refine vJ.sub [0, 1, 2, 4, 5] rfl ?_
          exact h
        · replace h := h.2 hc11
          refine vJ.iload dX3_weigh_66 rfl ?_
          refine vJ.aload_n dX3_weigh_68 rfl rfl ?_
          refine vJ.getR (ci := 3) (k := 6) (j := 159) dX3_weigh_69 sh_139 (Nat.le_of_ble_eq_true rfl) rfl inX3 (Nat.le_of_ble_eq_true rfl) rfl fl_RX3_27 ?_
          refine vJ.iload_n dX3_weigh_72 rfl rfl ?_
          obtain ⟨hb7, h⟩ := h
          refine vJ.iald dX3_weigh_73 sh_159 (Nat.le_of_ble_eq_true rfl) hb7 ?_
          refine vJ.icmp_ne (tgt := 111) dX3_weigh_74 (by decide) (fun hc10 => ?_) (fun hc10 => ?_)
          · replace h := h.2 hc10
            exact vJ.vreturn dX3_weigh_111 rfl rfl ⟨rfl, rfl, h⟩
          · replace h := h.1 hc10
            refine vJ.iload dX3_weigh_77 rfl ?_
            refine vJ.aload_n dX3_weigh_79 rfl rfl ?_
            refine vJ.getR (ci := 3) (k := 7) (j := 160) dX3_weigh_80 sh_139 (Nat.le_of_ble_eq_true rfl) rfl inX3 (Nat.le_of_ble_eq_true rfl) rfl fl_RX3_30 ?_
            refine vJ.iload_n dX3_weigh_83 rfl rfl ?_
            obtain ⟨hb8, h⟩ := h
            refine vJ.iald dX3_weigh_84 sh_160 (Nat.le_of_ble_eq_true rfl) hb8 ?_
            refine vJ.icmp_gt (tgt := 111) dX3_weigh_85 (by decide) (fun hc9 => ?_) (fun hc9 => ?_)
            · replace h := h.1 hc9
              exact vJ.vreturn dX3_weigh_111 rfl rfl ⟨rfl, rfl, h⟩
            · replace h := h.2 hc9
              refine vJ.sub [0, 1, 2, 4, 5] rfl ?_
              exact h
    · replace h := h.1 hc20
      refine vJ.iconst dX3_weigh_43 ci_1 ?_
      refine vJ.goto (tgt := 48) dX3_weigh_44 (by decide) ?_
      refine vJ.istore (ls2 := [(0, .ref 139), (1, .int l1), (2, .int l2), (3, .int l3), (4, .int v2), (5, .int v4), (6, .int (1 : Int32))]) dX3_weigh_48 (Nat.le_of_ble_eq_true rfl) rfl ?_
      refine vJ.iload dX3_weigh_50 rfl ?_
      refine vJ.if_ne (tgt := 88) dX3_weigh_52 (by decide) (fun hc19 => ?_) (fun hc19 => ?_)
      · replace h := h.2 hc19
        refine vJ.sub [0, 1, 2, 4, 5] rfl ?_
        exact h
      · replace h := h.1 hc19
        refine vJ.iload dX3_weigh_55 rfl ?_
        refine vJ.aload_n dX3_weigh_57 rfl rfl ?_
        refine vJ.getR (ci := 3) (k := 6) (j := 159) dX3_weigh_58 sh_139 (Nat.le_of_ble_eq_true rfl) rfl inX3 (Nat.le_of_ble_eq_true rfl) rfl fl_RX3_27 ?_
        refine vJ.iload_n dX3_weigh_61 rfl rfl ?_
        obtain ⟨hb13, h⟩ := h
        refine vJ.iald dX3_weigh_62 sh_159 (Nat.le_of_ble_eq_true rfl) hb13 ?_
        refine vJ.icmp_lt (tgt := 88) dX3_weigh_63 (by decide) (fun hc18 => ?_) (fun hc18 => ?_)
        · replace h := h.1 hc18
          refine vJ.sub [0, 1, 2, 4, 5] rfl ?_
          exact h
        · replace h := h.2 hc18
          refine vJ.iload dX3_weigh_66 rfl ?_
          refine vJ.aload_n dX3_weigh_68 rfl rfl ?_
          refine vJ.getR (ci := 3) (k := 6) (j := 159) dX3_weigh_69 sh_139 (Nat.le_of_ble_eq_true rfl) rfl inX3 (Nat.le_of_ble_eq_true rfl) rfl fl_RX3_27 ?_
          refine vJ.iload_n dX3_weigh_72 rfl rfl ?_
          obtain ⟨hb14, h⟩ := h
          refine vJ.iald dX3_weigh_73 sh_159 (Nat.le_of_ble_eq_true rfl) hb14 ?_
          refine vJ.icmp_ne (tgt := 111) dX3_weigh_74 (by decide) (fun hc17 => ?_) (fun hc17 => ?_)
          · replace h := h.2 hc17
            exact vJ.vreturn dX3_weigh_111 rfl rfl ⟨rfl, rfl, h⟩
          · replace h := h.1 hc17
            refine vJ.iload dX3_weigh_77 rfl ?_
            refine vJ.aload_n dX3_weigh_79 rfl rfl ?_
            refine vJ.getR (ci := 3) (k := 7) (j := 160) dX3_weigh_80 sh_139 (Nat.le_of_ble_eq_true rfl) rfl inX3 (Nat.le_of_ble_eq_true rfl) rfl fl_RX3_30 ?_
            refine vJ.iload_n dX3_weigh_83 rfl rfl ?_
            obtain ⟨hb15, h⟩ := h
            refine vJ.iald dX3_weigh_84 sh_160 (Nat.le_of_ble_eq_true rfl) hb15 ?_
            refine vJ.icmp_gt (tgt := 111) dX3_weigh_85 (by decide) (fun hc16 => ?_) (fun hc16 => ?_)
            · replace h := h.1 hc16
              exact vJ.vreturn dX3_weigh_111 rfl rfl ⟨rfl, rfl, h⟩
            · replace h := h.2 hc16
              refine vJ.sub [0, 1, 2, 4, 5] rfl ?_
              exact h
  · replace h := h.1 hc37
    refine vJ.iconst dX3_weigh_18 ci_0 ?_
    refine vJ.goto (tgt := 32) dX3_weigh_19 (by decide) ?_
    refine vJ.istore (ls2 := [(0, .ref 139), (1, .int l1), (2, .int l2), (3, .int l3), (4, .int v2), (5, .int (0 : Int32))]) dX3_weigh_32 (Nat.le_of_ble_eq_true rfl) rfl ?_
    refine vJ.aload_n dX3_weigh_34 rfl rfl ?_
    refine vJ.getR (ci := 3) (k := 6) (j := 159) dX3_weigh_35 sh_139 (Nat.le_of_ble_eq_true rfl) rfl inX3 (Nat.le_of_ble_eq_true rfl) rfl fl_RX3_27 ?_
    refine vJ.iload_n dX3_weigh_38 rfl rfl ?_
    obtain ⟨hb21, h⟩ := h
    refine vJ.iald dX3_weigh_39 sh_159 (Nat.le_of_ble_eq_true rfl) hb21 ?_
    refine vJ.if_ne (tgt := 47) dX3_weigh_40 (by decide) (fun hc36 => ?_) (fun hc36 => ?_)
    · replace h := h.2 hc36
      refine vJ.iconst dX3_weigh_47 ci_0 ?_
      refine vJ.istore (ls2 := [(0, .ref 139), (1, .int l1), (2, .int l2), (3, .int l3), (4, .int v2), (5, .int (0 : Int32)), (6, .int (0 : Int32))]) dX3_weigh_48 (Nat.le_of_ble_eq_true rfl) rfl ?_
      refine vJ.iload dX3_weigh_50 rfl ?_
      refine vJ.if_ne (tgt := 88) dX3_weigh_52 (by decide) (fun hc28 => ?_) (fun hc28 => ?_)
      · replace h := h.2 hc28
        refine vJ.sub [0, 1, 2, 4, 5] rfl ?_
        exact h
      · replace h := h.1 hc28
        refine vJ.iload dX3_weigh_55 rfl ?_
        refine vJ.aload_n dX3_weigh_57 rfl rfl ?_
        refine vJ.getR (ci := 3) (k := 6) (j := 159) dX3_weigh_58 sh_139 (Nat.le_of_ble_eq_true rfl) rfl inX3 (Nat.le_of_ble_eq_true rfl) rfl fl_RX3_27 ?_
        refine vJ.iload_n dX3_weigh_61 rfl rfl ?_
        obtain ⟨hb22, h⟩ := h
        refine vJ.iald dX3_weigh_62 sh_159 (Nat.le_of_ble_eq_true rfl) hb22 ?_
        refine vJ.icmp_lt (tgt := 88) dX3_weigh_63 (by decide) (fun hc27 => ?_) (fun hc27 => ?_)
        · replace h := h.1 hc27
          refine vJ.sub [0, 1, 2, 4, 5] rfl ?_
          exact h
        · replace h := h.2 hc27
          refine vJ.iload dX3_weigh_66 rfl ?_
          refine vJ.aload_n dX3_weigh_68 rfl rfl ?_
          refine vJ.getR (ci := 3) (k := 6) (j := 159) dX3_weigh_69 sh_139 (Nat.le_of_ble_eq_true rfl) rfl inX3 (Nat.le_of_ble_eq_true rfl) rfl fl_RX3_27 ?_
          refine vJ.iload_n dX3_weigh_72 rfl rfl ?_
          obtain ⟨hb23, h⟩ := h
          refine vJ.iald dX3_weigh_73 sh_159 (Nat.le_of_ble_eq_true rfl) hb23 ?_
          refine vJ.icmp_ne (tgt := 111) dX3_weigh_74 (by decide) (fun hc26 => ?_) (fun hc26 => ?_)
          · replace h := h.2 hc26
            exact vJ.vreturn dX3_weigh_111 rfl rfl ⟨rfl, rfl, h⟩
          · replace h := h.1 hc26
            refine vJ.iload dX3_weigh_77 rfl ?_
            refine vJ.aload_n dX3_weigh_79 rfl rfl ?_
            refine vJ.getR (ci := 3) (k := 7) (j := 160) dX3_weigh_80 sh_139 (Nat.le_of_ble_eq_true rfl) rfl inX3 (Nat.le_of_ble_eq_true rfl) rfl fl_RX3_30 ?_
            refine vJ.iload_n dX3_weigh_83 rfl rfl ?_
            obtain ⟨hb24, h⟩ := h
            refine vJ.iald dX3_weigh_84 sh_160 (Nat.le_of_ble_eq_true rfl) hb24 ?_
            refine vJ.icmp_gt (tgt := 111) dX3_weigh_85 (by decide) (fun hc25 => ?_) (fun hc25 => ?_)
            · replace h := h.1 hc25
              exact vJ.vreturn dX3_weigh_111 rfl rfl ⟨rfl, rfl, h⟩
            · replace h := h.2 hc25
              refine vJ.sub [0, 1, 2, 4, 5] rfl ?_
              exact h
    · replace h := h.1 hc36
      refine vJ.iconst dX3_weigh_43 ci_1 ?_
      refine vJ.goto (tgt := 48) dX3_weigh_44 (by decide) ?_
      refine vJ.istore (ls2 := [(0, .ref 139), (1, .int l1), (2, .int l2), (3, .int l3), (4, .int v2), (5, .int (0 : Int32)), (6, .int (1 : Int32))]) dX3_weigh_48 (Nat.le_of_ble_eq_true rfl) rfl ?_
      refine vJ.iload dX3_weigh_50 rfl ?_
      refine vJ.if_ne (tgt := 88) dX3_weigh_52 (by decide) (fun hc35 => ?_) (fun hc35 => ?_)
      · replace h := h.2 hc35
        refine vJ.sub [0, 1, 2, 4, 5] rfl ?_
        exact h
      · replace h := h.1 hc35
        refine vJ.iload dX3_weigh_55 rfl ?_
        refine vJ.aload_n dX3_weigh_57 rfl rfl ?_
        refine vJ.getR (ci := 3) (k := 6) (j := 159) dX3_weigh_58 sh_139 (Nat.le_of_ble_eq_true rfl) rfl inX3 (Nat.le_of_ble_eq_true rfl) rfl fl_RX3_27 ?_
        refine vJ.iload_n dX3_weigh_61 rfl rfl ?_
        obtain ⟨hb29, h⟩ := h
        refine vJ.iald dX3_weigh_62 sh_159 (Nat.le_of_ble_eq_true rfl) hb29 ?_
        refine vJ.icmp_lt (tgt := 88) dX3_weigh_63 (by decide) (fun hc34 => ?_) (fun hc34 => ?_)
        · replace h := h.1 hc34
          refine vJ.sub [0, 1, 2, 4, 5] rfl ?_
          exact h
        · replace h := h.2 hc34
          refine vJ.iload dX3_weigh_66 rfl ?_
          refine vJ.aload_n dX3_weigh_68 rfl rfl ?_
          refine vJ.getR (ci := 3) (k := 6) (j := 159) dX3_weigh_69 sh_139 (Nat.le_of_ble_eq_true rfl) rfl inX3 (Nat.le_of_ble_eq_true rfl) rfl fl_RX3_27 ?_
          refine vJ.iload_n dX3_weigh_72 rfl rfl ?_
          obtain ⟨hb30, h⟩ := h
          refine vJ.iald dX3_weigh_73 sh_159 (Nat.le_of_ble_eq_true rfl) hb30 ?_
          refine vJ.icmp_ne (tgt := 111) dX3_weigh_74 (by decide) (fun hc33 => ?_) (fun hc33 => ?_)
          · replace h := h.2 hc33
            exact vJ.vreturn dX3_weigh_111 rfl rfl ⟨rfl, rfl, h⟩
          · replace h := h.1 hc33
            refine vJ.iload dX3_weigh_77 rfl ?_
            refine vJ.aload_n dX3_weigh_79 rfl rfl ?_
            refine vJ.getR (ci := 3) (k := 7) (j := 160) dX3_weigh_80 sh_139 (Nat.le_of_ble_eq_true rfl) rfl inX3 (Nat.le_of_ble_eq_true rfl) rfl fl_RX3_30 ?_
            refine vJ.iload_n dX3_weigh_83 rfl rfl ?_
            obtain ⟨hb31, h⟩ := h
            refine vJ.iald dX3_weigh_84 sh_160 (Nat.le_of_ble_eq_true rfl) hb31 ?_
            refine vJ.icmp_gt (tgt := 111) dX3_weigh_85 (by decide) (fun hc32 => ?_) (fun hc32 => ?_)
            · replace h := h.1 hc32
              exact vJ.vreturn dX3_weigh_111 rfl rfl ⟨rfl, rfl, h⟩
            · replace h := h.2 hc32
              refine vJ.sub [0, 1, 2, 4, 5] rfl ?_
              exact h
def EI_X3_weigh (l1 : Int32) (l2 : Int32) (l3 : Int32) (m : vM) (P : vM → Prop) : Prop := Ev mX3_weigh 0 0 197 [.ref 139, .int l1, .int l2, .int l3] 197 SH m (vPv P)
theorem f_X3_weigh {l1 : Int32} {l2 : Int32} {l3 : Int32} {m : vM} {P : vM → Prop} (h : J_X3_weigh_0 l1 l2 l3 m P) : EI_X3_weigh l1 l2 l3 m P := Ev.of pn_X3_weigh (Nat.le_of_ble_eq_true rfl) h
def wp_X3_weigh_88 (l1 : Int32) (l2 : Int32) (l4 : Int32) (l5 : Int32) (m : vM) (P : vM → Prop) : Prop :=
  vp_in l1 17 ∧
  ∀ m2 : vM, m2 = upI m 159 (Int32.toNatClampNeg l1) l4 →
  vp_in l1 17 ∧
  ∀ m4 : vM, m4 = upI m2 160 (Int32.toNatClampNeg l1) l5 →
  vp_in l1 17 ∧
  ∀ m6 : vM, m6 = upI m4 161 (Int32.toNatClampNeg l1) l2 →
  P m6
set_option maxRecDepth 20000 in
set_option maxHeartbeats 4000000 in
theorem b_X3_weigh_88 {l1 : Int32} {l2 : Int32} {l4 : Int32} {l5 : Int32} {m : vM} {P : vM → Prop}  (h : wp_X3_weigh_88 l1 l2 l4 l5 m P) : J_X3_weigh_88 l1 l2 l4 l5 m P := by
  show vJ mX3_weigh 0 0 197 none 88 [(0, .ref 139), (1, .int l1), (2, .int l2), (4, .int l4), (5, .int l5)] [] 197 SH m (vPv P)
  unfold wp_X3_weigh_88 at h
  refine vJ.aload_n dX3_weigh_88 rfl rfl ?_
  refine vJ.getR (ci := 3) (k := 6) (j := 159) dX3_weigh_89 sh_139 (Nat.le_of_ble_eq_true rfl) rfl inX3 (Nat.le_of_ble_eq_true rfl) rfl fl_RX3_27 ?_
  refine vJ.iload_n dX3_weigh_92 rfl rfl ?_
  refine vJ.iload dX3_weigh_93 rfl ?_
  obtain ⟨hb1, h⟩ := h
  refine vJ.iast dX3_weigh_95 sh_159 (Nat.le_of_ble_eq_true rfl) hb1 ?_
  refine vJ.topm (fun m2 em2 => ?_)
  replace h := h m2 em2
  refine vJ.aload_n dX3_weigh_96 rfl rfl ?_
  refine vJ.getR (ci := 3) (k := 7) (j := 160) dX3_weigh_97 sh_139 (Nat.le_of_ble_eq_true rfl) rfl inX3 (Nat.le_of_ble_eq_true rfl) rfl fl_RX3_30 ?_
  refine vJ.iload_n dX3_weigh_100 rfl rfl ?_
  refine vJ.iload dX3_weigh_101 rfl ?_
  obtain ⟨hb3, h⟩ := h
  refine vJ.iast dX3_weigh_103 sh_160 (Nat.le_of_ble_eq_true rfl) hb3 ?_
  refine vJ.topm (fun m4 em4 => ?_)
  replace h := h m4 em4
  refine vJ.aload_n dX3_weigh_104 rfl rfl ?_
  refine vJ.getR (ci := 3) (k := 8) (j := 161) dX3_weigh_105 sh_139 (Nat.le_of_ble_eq_true rfl) rfl inX3 (Nat.le_of_ble_eq_true rfl) rfl fl_RX3_33 ?_
  refine vJ.iload_n dX3_weigh_108 rfl rfl ?_
  refine vJ.iload_n dX3_weigh_109 rfl rfl ?_
  obtain ⟨hb5, h⟩ := h
  refine vJ.iast dX3_weigh_110 sh_161 (Nat.le_of_ble_eq_true rfl) hb5 ?_
  refine vJ.topm (fun m6 em6 => ?_)
  replace h := h m6 em6
  exact vJ.vreturn dX3_weigh_111 rfl rfl ⟨rfl, rfl, h⟩
def J_X3_planFrom_0 (l1 : Int32) (m : vM) (P : vM → Prop) : Prop := vJ mX3_planFrom 1 26 197 none 0 [(0, .ref 139), (1, .int l1)] [] 197 SH m (vPv P)
def J_X3_planFrom_9 (l1 : Int32) (l2 : Int32) (l3 : Int32) (m : vM) (P : vM → Prop) : Prop := vJ mX3_planFrom 1 26 197 none 9 [(0, .ref 139), (1, .int l1), (2, .int l2), (3, .int l3)] [] 197 SH m (vPv P)
def wp_X3_planFrom_0 (l1 : Int32) (m : vM) (P : vM → Prop) : Prop :=
  ∀ v1 : Int32, v1 = (m.1 139 9) →
  ∀ v2 : Int32, v2 = (l1 + (1 : Int32)) →
  J_X3_planFrom_9 l1 v1 v2 m P
set_option maxRecDepth 20000 in
set_option maxHeartbeats 4000000 in
theorem b_X3_planFrom_0 {l1 : Int32} {m : vM} {P : vM → Prop}  (h : wp_X3_planFrom_0 l1 m P) : J_X3_planFrom_0 l1 m P := by
  show vJ mX3_planFrom 1 26 197 none 0 [(0, .ref 139), (1, .int l1)] [] 197 SH m (vPv P)
  unfold wp_X3_planFrom_0 at h
  refine vJ.aload_n dX3_planFrom_0 rfl rfl ?_
  refine vJ.getI (ci := 3) (k := 9) dX3_planFrom_1 sh_139 (Nat.le_of_ble_eq_true rfl) rfl inX3 (Nat.le_of_ble_eq_true rfl) rfl fl_RX3_65 ?_
  refine vJ.topi (fun v1 ev1 => ?_)
  replace h := h v1 ev1
  refine vJ.istore_n (ls2 := [(0, .ref 139), (1, .int l1), (2, .int v1)]) dX3_planFrom_4 rfl (Nat.le_of_ble_eq_true rfl) rfl ?_
  refine vJ.iload_n dX3_planFrom_5 rfl rfl ?_
  refine vJ.iconst dX3_planFrom_6 ci_1 ?_
  refine vJ.iadd dX3_planFrom_7 ?_
  refine vJ.topi (fun v2 ev2 => ?_)
  replace h := h v2 ev2
  refine vJ.istore_n (ls2 := [(0, .ref 139), (1, .int l1), (2, .int v1), (3, .int v2)]) dX3_planFrom_8 rfl (Nat.le_of_ble_eq_true rfl) rfl ?_
  exact h
def EI_X3_planFrom (l1 : Int32) (m : vM) (P : vM → Prop) : Prop := Ev mX3_planFrom 1 26 197 [.ref 139, .int l1] 197 SH m (vPv P)
theorem f_X3_planFrom {l1 : Int32} {m : vM} {P : vM → Prop} (h : J_X3_planFrom_0 l1 m P) : EI_X3_planFrom l1 m P := Ev.of pn_X3_planFrom (Nat.le_of_ble_eq_true rfl) h
def J_X3_planFrom_57 (l1 : Int32) (l2 : Int32) (l3 : Int32) (m : vM) (P : vM → Prop) : Prop := vJ mX3_planFrom 1 26 197 none 57 [(0, .ref 139), (1, .int l1), (2, .int l2), (3, .int l3)] [] 197 SH m (vPv P)
def wp_X3_planFrom_9 (l1 : Int32) (l2 : Int32) (l3 : Int32) (m : vM) (P : vM → Prop) : Prop :=
  (((m.1 139 11) < l3 →
    P m) ∧
  (¬ (m.1 139 11) < l3 →
    vp_in (l3 - (1 : Int32)) 16 ∧
    vp_in (l3 - (1 : Int32)) 16 ∧
    ∀ v3 : Int32, v3 = (l2 - ((m.1 126 (Int32.toNatClampNeg (l3 - (1 : Int32)))) + (m.1 158 (Int32.toNatClampNeg (l3 - (1 : Int32)))))) →
    ((l3 = (m.1 139 11) →
      J_X3_planFrom_57 l1 v3 l3 m P) ∧
    (¬ l3 = (m.1 139 11) →
      vp_in l3 17 ∧
      (((m.1 159 (Int32.toNatClampNeg l3)) ≤ (0 : Int32) →
        ((v3 < (0 : Int32) →
          J_X3_planFrom_9 l1 v3 (l3 + (1 : Int32)) m P) ∧
        (¬ v3 < (0 : Int32) →
          (((0 : Int32) = (0 : Int32) →
            J_X3_planFrom_9 l1 v3 (l3 + (1 : Int32)) m P) ∧
          (¬ (0 : Int32) = (0 : Int32) →
            wp_X3_isAlone l1 l3 m (fun r6 m5 =>
              ((r6 = (0 : Int32) →
                EI_X3_weigh l1 l3 v3 m5 (fun m7 =>
                  J_X3_planFrom_9 l1 v3 (l3 + (1 : Int32)) m7 P)) ∧
              (¬ r6 = (0 : Int32) →
                J_X3_planFrom_9 l1 v3 (l3 + (1 : Int32)) m5 P)))))))) ∧
      (¬ (m.1 159 (Int32.toNatClampNeg l3)) ≤ (0 : Int32) →
        J_X3_planFrom_57 l1 v3 l3 m P))))))
set_option maxRecDepth 20000 in
set_option maxHeartbeats 4000000 in
theorem b_X3_planFrom_9 {l1 : Int32} {l2 : Int32} {l3 : Int32} {m : vM} {P : vM → Prop}  (h : wp_X3_planFrom_9 l1 l2 l3 m P) : J_X3_planFrom_9 l1 l2 l3 m P := by
  show vJ mX3_planFrom 1 26 197 none 9 [(0, .ref 139), (1, .int l1), (2, .int l2), (3, .int l3)] [] 197 SH m (vPv P)
  unfold wp_X3_planFrom_9 at h
  refine vJ.iload_n dX3_planFrom_9 rfl rfl ?_
  refine vJ.aload_n dX3_planFrom_10 rfl rfl ?_
  refine vJ.getI (ci := 3) (k := 11) dX3_planFrom_11 sh_139 (Nat.le_of_ble_eq_true rfl) rfl inX3 (Nat.le_of_ble_eq_true rfl) rfl fl_RX3_62 ?_
  refine vJ.icmp_gt (tgt := 95) dX3_planFrom_14 (by decide) (fun hc13 => ?_) (fun hc13 => ?_)
  · replace h := h.1 hc13
    exact vJ.vreturn dX3_planFrom_95 rfl rfl ⟨rfl, rfl, h⟩
  · replace h := h.2 hc13
    refine vJ.iload_n dX3_planFrom_17 rfl rfl ?_
    refine vJ.aload_n dX3_planFrom_18 rfl rfl ?_
    refine vJ.getR (ci := 3) (k := 3) (j := 125) dX3_planFrom_19 sh_139 (Nat.le_of_ble_eq_true rfl) rfl inX3 (Nat.le_of_ble_eq_true rfl) rfl fl_RX3_40 ?_
    refine vJ.getR (ci := 2) (k := 0) (j := 126) dX3_planFrom_22 sh_125 (Nat.le_of_ble_eq_true rfl) rfl inX2 (Nat.le_of_ble_eq_true rfl) rfl fl_RX3_68 ?_
    refine vJ.iload_n dX3_planFrom_25 rfl rfl ?_
    refine vJ.iconst dX3_planFrom_26 ci_1 ?_
    refine vJ.isub dX3_planFrom_27 ?_
    obtain ⟨hb1, h⟩ := h
    refine vJ.iald dX3_planFrom_28 sh_126 (Nat.le_of_ble_eq_true rfl) hb1 ?_
    refine vJ.aload_n dX3_planFrom_29 rfl rfl ?_
    refine vJ.getR (ci := 3) (k := 5) (j := 158) dX3_planFrom_30 sh_139 (Nat.le_of_ble_eq_true rfl) rfl inX3 (Nat.le_of_ble_eq_true rfl) rfl fl_RX3_24 ?_
    refine vJ.iload_n dX3_planFrom_33 rfl rfl ?_
    refine vJ.iconst dX3_planFrom_34 ci_1 ?_
    refine vJ.isub dX3_planFrom_35 ?_
    obtain ⟨hb2, h⟩ := h
    refine vJ.iald dX3_planFrom_36 sh_158 (Nat.le_of_ble_eq_true rfl) hb2 ?_
    refine vJ.iadd dX3_planFrom_37 ?_
    refine vJ.isub dX3_planFrom_38 ?_
    refine vJ.topi (fun v3 ev3 => ?_)
    replace h := h v3 ev3
    refine vJ.istore_n (ls2 := [(0, .ref 139), (1, .int l1), (2, .int v3), (3, .int l3)]) dX3_planFrom_39 rfl (Nat.le_of_ble_eq_true rfl) rfl ?_
    refine vJ.iload_n dX3_planFrom_40 rfl rfl ?_
    refine vJ.aload_n dX3_planFrom_41 rfl rfl ?_
    refine vJ.getI (ci := 3) (k := 11) dX3_planFrom_42 sh_139 (Nat.le_of_ble_eq_true rfl) rfl inX3 (Nat.le_of_ble_eq_true rfl) rfl fl_RX3_62 ?_
    refine vJ.icmp_eq (tgt := 57) dX3_planFrom_45 (by decide) (fun hc12 => ?_) (fun hc12 => ?_)
    · replace h := h.1 hc12
      exact h
    · replace h := h.2 hc12
      refine vJ.aload_n dX3_planFrom_48 rfl rfl ?_
      refine vJ.getR (ci := 3) (k := 6) (j := 159) dX3_planFrom_49 sh_139 (Nat.le_of_ble_eq_true rfl) rfl inX3 (Nat.le_of_ble_eq_true rfl) rfl fl_RX3_27 ?_
      refine vJ.iload_n dX3_planFrom_52 rfl rfl ?_
      obtain ⟨hb4, h⟩ := h
      refine vJ.iald dX3_planFrom_53 sh_159 (Nat.le_of_ble_eq_true rfl) hb4 ?_
      refine vJ.if_le (tgt := 61) dX3_planFrom_54 (by decide) (fun hc11 => ?_) (fun hc11 => ?_)
      · replace h := h.1 hc11
        refine vJ.iconst dX3_planFrom_61 ci_0 ?_
        refine vJ.istore (ls2 := [(0, .ref 139), (1, .int l1), (2, .int v3), (3, .int l3), (4, .int (0 : Int32))]) dX3_planFrom_62 (Nat.le_of_ble_eq_true rfl) rfl ?_
        refine vJ.iload_n dX3_planFrom_64 rfl rfl ?_
        refine vJ.if_lt (tgt := 89) dX3_planFrom_65 (by decide) (fun hc10 => ?_) (fun hc10 => ?_)
        · replace h := h.1 hc10
          refine vJ.iinc (v := l3 + (1 : Int32)) (ls2 := [(0, .ref 139), (1, .int l1), (2, .int v3), (3, .int (l3 + (1 : Int32))), (4, .int (0 : Int32))]) dX3_planFrom_89 rfl (congrArg (l3 + ·) ci_1) (Nat.le_of_ble_eq_true rfl) rfl ?_
          refine vJ.goto (tgt := 9) dX3_planFrom_92 (by decide) ?_
          refine vJ.sub [0, 1, 2, 3] rfl ?_
          exact h
        · replace h := h.2 hc10
          refine vJ.iload dX3_planFrom_68 rfl ?_
          refine vJ.if_eq (tgt := 89) dX3_planFrom_70 (by decide) (fun hc9 => ?_) (fun hc9 => ?_)
          · replace h := h.1 hc9
            refine vJ.iinc (v := l3 + (1 : Int32)) (ls2 := [(0, .ref 139), (1, .int l1), (2, .int v3), (3, .int (l3 + (1 : Int32))), (4, .int (0 : Int32))]) dX3_planFrom_89 rfl (congrArg (l3 + ·) ci_1) (Nat.le_of_ble_eq_true rfl) rfl ?_
            refine vJ.goto (tgt := 9) dX3_planFrom_92 (by decide) ?_
            refine vJ.sub [0, 1, 2, 3] rfl ?_
            exact h
          · replace h := h.2 hc9
            refine vJ.aload_n dX3_planFrom_73 rfl rfl ?_
            refine vJ.iload_n dX3_planFrom_74 rfl rfl ?_
            refine vJ.iload_n dX3_planFrom_75 rfl rfl ?_
            refine vJ.callV (ci := 3) (Yc := mX3_isAlone) (frc := 0) (loc := 0) (as := [.int l1, .int l3]) dX3_planFrom_76 rfl sh_139 (Nat.le_of_ble_eq_true rfl) rfl ml_RX3_103 im_yX3_isAlone se_yX3_isAlone co_X3_isAlone in_TableSetter_Pager pl_X3_isAlone (Nat.le_of_ble_eq_true rfl) (Nat.le_of_ble_eq_true rfl) (Nat.le_of_ble_eq_true rfl) ?_
            refine Ev.gi (e_X3_isAlone  h) (fun r6 m5 h => ?_)
            refine vJ.if_ne (tgt := 89) dX3_planFrom_79 (by decide) (fun hc8 => ?_) (fun hc8 => ?_)
            · replace h := h.2 hc8
              refine vJ.iinc (v := l3 + (1 : Int32)) (ls2 := [(0, .ref 139), (1, .int l1), (2, .int v3), (3, .int (l3 + (1 : Int32))), (4, .int (0 : Int32))]) dX3_planFrom_89 rfl (congrArg (l3 + ·) ci_1) (Nat.le_of_ble_eq_true rfl) rfl ?_
              refine vJ.goto (tgt := 9) dX3_planFrom_92 (by decide) ?_
              refine vJ.sub [0, 1, 2, 3] rfl ?_
              exact h
            · replace h := h.1 hc8
              refine vJ.aload_n dX3_planFrom_82 rfl rfl ?_
              refine vJ.iload_n dX3_planFrom_83 rfl rfl ?_
              refine vJ.iload_n dX3_planFrom_84 rfl rfl ?_
              refine vJ.iload_n dX3_planFrom_85 rfl rfl ?_
              refine vJ.callV (ci := 3) (Yc := mX3_weigh) (frc := 0) (loc := 0) (as := [.int l1, .int l3, .int v3]) dX3_planFrom_86 rfl sh_139 (Nat.le_of_ble_eq_true rfl) rfl ml_RX3_106 im_yX3_weigh se_yX3_weigh co_X3_weigh in_TableSetter_Pager pl_X3_weigh (Nat.le_of_ble_eq_true rfl) (Nat.le_of_ble_eq_true rfl) (Nat.le_of_ble_eq_true rfl) ?_
              refine Ev.gv h (fun m7 h => ?_)
              refine vJ.iinc (v := l3 + (1 : Int32)) (ls2 := [(0, .ref 139), (1, .int l1), (2, .int v3), (3, .int (l3 + (1 : Int32))), (4, .int (0 : Int32))]) dX3_planFrom_89 rfl (congrArg (l3 + ·) ci_1) (Nat.le_of_ble_eq_true rfl) rfl ?_
              refine vJ.goto (tgt := 9) dX3_planFrom_92 (by decide) ?_
              refine vJ.sub [0, 1, 2, 3] rfl ?_
              exact h
      · replace h := h.2 hc11
        exact h
def wp_X3_planFrom_57 (l1 : Int32) (l2 : Int32) (l3 : Int32) (m : vM) (P : vM → Prop) : Prop :=
  ((l2 < (0 : Int32) →
    J_X3_planFrom_9 l1 l2 (l3 + (1 : Int32)) m P) ∧
  (¬ l2 < (0 : Int32) →
    (((1 : Int32) = (0 : Int32) →
      J_X3_planFrom_9 l1 l2 (l3 + (1 : Int32)) m P) ∧
    (¬ (1 : Int32) = (0 : Int32) →
      wp_X3_isAlone l1 l3 m (fun r2 m1 =>
        ((r2 = (0 : Int32) →
          EI_X3_weigh l1 l3 l2 m1 (fun m3 =>
            J_X3_planFrom_9 l1 l2 (l3 + (1 : Int32)) m3 P)) ∧
        (¬ r2 = (0 : Int32) →
          J_X3_planFrom_9 l1 l2 (l3 + (1 : Int32)) m1 P)))))))
set_option maxRecDepth 20000 in
set_option maxHeartbeats 4000000 in
theorem b_X3_planFrom_57 {l1 : Int32} {l2 : Int32} {l3 : Int32} {m : vM} {P : vM → Prop}  (h : wp_X3_planFrom_57 l1 l2 l3 m P) : J_X3_planFrom_57 l1 l2 l3 m P := by
  show vJ mX3_planFrom 1 26 197 none 57 [(0, .ref 139), (1, .int l1), (2, .int l2), (3, .int l3)] [] 197 SH m (vPv P)
  unfold wp_X3_planFrom_57 at h
  refine vJ.iconst dX3_planFrom_57 ci_1 ?_
  refine vJ.goto (tgt := 62) dX3_planFrom_58 (by decide) ?_
  refine vJ.istore (ls2 := [(0, .ref 139), (1, .int l1), (2, .int l2), (3, .int l3), (4, .int (1 : Int32))]) dX3_planFrom_62 (Nat.le_of_ble_eq_true rfl) rfl ?_
  refine vJ.iload_n dX3_planFrom_64 rfl rfl ?_
  refine vJ.if_lt (tgt := 89) dX3_planFrom_65 (by decide) (fun hc6 => ?_) (fun hc6 => ?_)
  · replace h := h.1 hc6
    refine vJ.iinc (v := l3 + (1 : Int32)) (ls2 := [(0, .ref 139), (1, .int l1), (2, .int l2), (3, .int (l3 + (1 : Int32))), (4, .int (1 : Int32))]) dX3_planFrom_89 rfl (congrArg (l3 + ·) ci_1) (Nat.le_of_ble_eq_true rfl) rfl ?_
    refine vJ.goto (tgt := 9) dX3_planFrom_92 (by decide) ?_
    refine vJ.sub [0, 1, 2, 3] rfl ?_
    exact h
  · replace h := h.2 hc6
    refine vJ.iload dX3_planFrom_68 rfl ?_
    refine vJ.if_eq (tgt := 89) dX3_planFrom_70 (by decide) (fun hc5 => ?_) (fun hc5 => ?_)
    · replace h := h.1 hc5
      refine vJ.iinc (v := l3 + (1 : Int32)) (ls2 := [(0, .ref 139), (1, .int l1), (2, .int l2), (3, .int (l3 + (1 : Int32))), (4, .int (1 : Int32))]) dX3_planFrom_89 rfl (congrArg (l3 + ·) ci_1) (Nat.le_of_ble_eq_true rfl) rfl ?_
      refine vJ.goto (tgt := 9) dX3_planFrom_92 (by decide) ?_
      refine vJ.sub [0, 1, 2, 3] rfl ?_
      exact h
    · replace h := h.2 hc5
      refine vJ.aload_n dX3_planFrom_73 rfl rfl ?_
      refine vJ.iload_n dX3_planFrom_74 rfl rfl ?_
      refine vJ.iload_n dX3_planFrom_75 rfl rfl ?_
      refine vJ.callV (ci := 3) (Yc := mX3_isAlone) (frc := 0) (loc := 0) (as := [.int l1, .int l3]) dX3_planFrom_76 rfl sh_139 (Nat.le_of_ble_eq_true rfl) rfl ml_RX3_103 im_yX3_isAlone se_yX3_isAlone co_X3_isAlone in_TableSetter_Pager pl_X3_isAlone (Nat.le_of_ble_eq_true rfl) (Nat.le_of_ble_eq_true rfl) (Nat.le_of_ble_eq_true rfl) ?_
      refine Ev.gi (e_X3_isAlone  h) (fun r2 m1 h => ?_)
      refine vJ.if_ne (tgt := 89) dX3_planFrom_79 (by decide) (fun hc4 => ?_) (fun hc4 => ?_)
      · replace h := h.2 hc4
        refine vJ.iinc (v := l3 + (1 : Int32)) (ls2 := [(0, .ref 139), (1, .int l1), (2, .int l2), (3, .int (l3 + (1 : Int32))), (4, .int (1 : Int32))]) dX3_planFrom_89 rfl (congrArg (l3 + ·) ci_1) (Nat.le_of_ble_eq_true rfl) rfl ?_
        refine vJ.goto (tgt := 9) dX3_planFrom_92 (by decide) ?_
        refine vJ.sub [0, 1, 2, 3] rfl ?_
        exact h
      · replace h := h.1 hc4
        refine vJ.aload_n dX3_planFrom_82 rfl rfl ?_
        refine vJ.iload_n dX3_planFrom_83 rfl rfl ?_
        refine vJ.iload_n dX3_planFrom_84 rfl rfl ?_
        refine vJ.iload_n dX3_planFrom_85 rfl rfl ?_
        refine vJ.callV (ci := 3) (Yc := mX3_weigh) (frc := 0) (loc := 0) (as := [.int l1, .int l3, .int l2]) dX3_planFrom_86 rfl sh_139 (Nat.le_of_ble_eq_true rfl) rfl ml_RX3_106 im_yX3_weigh se_yX3_weigh co_X3_weigh in_TableSetter_Pager pl_X3_weigh (Nat.le_of_ble_eq_true rfl) (Nat.le_of_ble_eq_true rfl) (Nat.le_of_ble_eq_true rfl) ?_
        refine Ev.gv h (fun m3 h => ?_)
        refine vJ.iinc (v := l3 + (1 : Int32)) (ls2 := [(0, .ref 139), (1, .int l1), (2, .int l2), (3, .int (l3 + (1 : Int32))), (4, .int (1 : Int32))]) dX3_planFrom_89 rfl (congrArg (l3 + ·) ci_1) (Nat.le_of_ble_eq_true rfl) rfl ?_
        refine vJ.goto (tgt := 9) dX3_planFrom_92 (by decide) ?_
        refine vJ.sub [0, 1, 2, 3] rfl ?_
        exact h
def J_X3_make_0 (l1 : Int32) (m : vM) (P : Int32 → vM → Prop) : Prop := vJ mX3_make 4 90 197 none 0 [(0, .ref 139), (1, .int l1)] [] 197 SH m (vPi P)
def J_X3_make_52 (l2 : Int32) (m : vM) (P : Int32 → vM → Prop) : Prop := vJ mX3_make 4 90 197 none 52 [(0, .ref 139), (2, .int l2)] [] 197 SH m (vPi P)
def wp_X3_make_0 (l1 : Int32) (m : vM) (P : Int32 → vM → Prop) : Prop :=
  ∀ m1 : vM, m1 = upI m 139 0 (0 : Int32) →
  EI_X1_headRows m1 (fun r3 m2 =>
    ∀ m4 : vM, m4 = upI m2 139 10 r3 →
    ∀ m5 : vM, m5 = upI m4 139 11 (if (16 : Int32) < (m4.1 1 0) then (16 : Int32) else (m4.1 1 0)) →
    (((m5.1 139 10) < (m5.1 139 11) →
      ∀ m6 : vM, m6 = upI m5 139 9 l1 →
      J_X3_make_52 (0 : Int32) m6 P) ∧
    (¬ (m5.1 139 10) < (m5.1 139 11) →
      P (0 : Int32) m5)))
set_option maxRecDepth 20000 in
set_option maxHeartbeats 4000000 in
theorem b_X3_make_0 {l1 : Int32} {m : vM} {P : Int32 → vM → Prop}  (h : wp_X3_make_0 l1 m P) : J_X3_make_0 l1 m P := by
  show vJ mX3_make 4 90 197 none 0 [(0, .ref 139), (1, .int l1)] [] 197 SH m (vPi P)
  unfold wp_X3_make_0 at h
  refine vJ.aload_n dX3_make_0 rfl rfl ?_
  refine vJ.iconst dX3_make_1 ci_0 ?_
  refine vJ.putI (ci := 3) (k := 0) dX3_make_2 sh_139 (Nat.le_of_ble_eq_true rfl) rfl inX3 tyX3 tyX3_ok nmX3 (Nat.le_of_ble_eq_true rfl) rfl rfl fl_RX3_9 rfl rfl ?_
  refine vJ.topm (fun m1 em1 => ?_)
  replace h := h m1 em1
  refine vJ.aload_n dX3_make_5 rfl rfl ?_
  refine vJ.aload_n dX3_make_6 rfl rfl ?_
  refine vJ.getR (ci := 3) (k := 2) (j := 1) dX3_make_7 sh_139 (Nat.le_of_ble_eq_true rfl) rfl inX3 (Nat.le_of_ble_eq_true rfl) rfl fl_RX3_36 ?_
  refine vJ.callV (ci := 1) (Yc := mX1_headRows) (frc := 3) (loc := 66) (as := []) dX3_make_10 rfl sh_1 (Nat.le_of_ble_eq_true rfl) rfl ml_RX3_44 im_yX1_headRows se_yX1_headRows co_X1_headRows in_TableSetter_Grid pl_X1_headRows (Nat.le_of_ble_eq_true rfl) (Nat.le_of_ble_eq_true rfl) (Nat.le_of_ble_eq_true rfl) ?_
  refine Ev.gi h (fun r3 m2 h => ?_)
  refine vJ.putI (ci := 3) (k := 10) dX3_make_13 sh_139 (Nat.le_of_ble_eq_true rfl) rfl inX3 tyX3 tyX3_ok nmX3 (Nat.le_of_ble_eq_true rfl) rfl rfl fl_RX3_50 rfl rfl ?_
  refine vJ.topm (fun m4 em4 => ?_)
  replace h := h m4 em4
  refine vJ.aload_n dX3_make_16 rfl rfl ?_
  refine vJ.aload_n dX3_make_17 rfl rfl ?_
  refine vJ.getR (ci := 3) (k := 2) (j := 1) dX3_make_18 sh_139 (Nat.le_of_ble_eq_true rfl) rfl inX3 (Nat.le_of_ble_eq_true rfl) rfl fl_RX3_36 ?_
  refine vJ.getI (ci := 1) (k := 0) dX3_make_21 sh_1 (Nat.le_of_ble_eq_true rfl) rfl inX1 (Nat.le_of_ble_eq_true rfl) rfl fl_RX3_53 ?_
  refine vJ.bipush dX3_make_24 cb_16 ?_
  refine vJ.mmin dX3_make_26 ml_RX3_56 st_Lib_Math_min_name in_java_lang_Math co_Math_min (Nat.le_of_ble_eq_true rfl) (Nat.le_of_ble_eq_true rfl) ?_
  refine vJ.putI (ci := 3) (k := 11) dX3_make_29 sh_139 (Nat.le_of_ble_eq_true rfl) rfl inX3 tyX3 tyX3_ok nmX3 (Nat.le_of_ble_eq_true rfl) rfl rfl fl_RX3_62 rfl rfl ?_
  refine vJ.topm (fun m5 em5 => ?_)
  replace h := h m5 em5
  refine vJ.aload_n dX3_make_32 rfl rfl ?_
  refine vJ.getI (ci := 3) (k := 10) dX3_make_33 sh_139 (Nat.le_of_ble_eq_true rfl) rfl inX3 (Nat.le_of_ble_eq_true rfl) rfl fl_RX3_50 ?_
  refine vJ.aload_n dX3_make_36 rfl rfl ?_
  refine vJ.getI (ci := 3) (k := 11) dX3_make_37 sh_139 (Nat.le_of_ble_eq_true rfl) rfl inX3 (Nat.le_of_ble_eq_true rfl) rfl fl_RX3_62 ?_
  refine vJ.icmp_lt (tgt := 45) dX3_make_40 (by decide) (fun hc7 => ?_) (fun hc7 => ?_)
  · replace h := h.1 hc7
    refine vJ.aload_n dX3_make_45 rfl rfl ?_
    refine vJ.iload_n dX3_make_46 rfl rfl ?_
    refine vJ.putI (ci := 3) (k := 9) dX3_make_47 sh_139 (Nat.le_of_ble_eq_true rfl) rfl inX3 tyX3 tyX3_ok nmX3 (Nat.le_of_ble_eq_true rfl) rfl rfl fl_RX3_65 rfl rfl ?_
    refine vJ.topm (fun m6 em6 => ?_)
    replace h := h m6 em6
    refine vJ.iconst dX3_make_50 ci_0 ?_
    refine vJ.istore_n (ls2 := [(0, .ref 139), (1, .int l1), (2, .int (0 : Int32))]) dX3_make_51 rfl (Nat.le_of_ble_eq_true rfl) rfl ?_
    refine vJ.sub [0, 2] rfl ?_
    exact h
  · replace h := h.2 hc7
    refine vJ.iconst dX3_make_43 ci_0 ?_
    exact vJ.ireturn dX3_make_44 rfl rfl rfl ⟨rfl, _, rfl, h⟩
def EI_X3_make (l1 : Int32) (m : vM) (P : Int32 → vM → Prop) : Prop := Ev mX3_make 4 90 197 [.ref 139, .int l1] 197 SH m (vPi P)
theorem f_X3_make {l1 : Int32} {m : vM} {P : Int32 → vM → Prop} (h : J_X3_make_0 l1 m P) : EI_X3_make l1 m P := Ev.of pn_X3_make (Nat.le_of_ble_eq_true rfl) h
def J_X3_make_111 (l2 : Int32) (m : vM) (P : Int32 → vM → Prop) : Prop := vJ mX3_make 4 90 197 none 111 [(0, .ref 139), (2, .int l2)] [] 197 SH m (vPi P)
def wp_X3_make_52 (l2 : Int32) (m : vM) (P : Int32 → vM → Prop) : Prop :=
  (((m.1 139 10) ≤ l2 →
    EI_X3_findHomes m (fun m1 =>
      ∀ m2 : vM, m2 = fillA m1 159 17 (0 : Int32) →
      ∀ m3 : vM, m3 = fillA m2 160 17 (0 : Int32) →
      ∀ v4 : Int32, v4 = ((m3.1 139 11) - (1 : Int32)) →
      J_X3_make_111 v4 m3 P)) ∧
  (¬ (m.1 139 10) ≤ l2 →
    vp_in l2 16 ∧
    ∀ m6 : vM, m6 = upI m 139 9 ((m.1 139 9) - (m.1 126 (Int32.toNatClampNeg l2))) →
    J_X3_make_52 (l2 + (1 : Int32)) m6 P))
set_option maxRecDepth 20000 in
set_option maxHeartbeats 4000000 in
theorem b_X3_make_52 {l2 : Int32} {m : vM} {P : Int32 → vM → Prop}  (h : wp_X3_make_52 l2 m P) : J_X3_make_52 l2 m P := by
  show vJ mX3_make 4 90 197 none 52 [(0, .ref 139), (2, .int l2)] [] 197 SH m (vPi P)
  unfold wp_X3_make_52 at h
  refine vJ.iload_n dX3_make_52 rfl rfl ?_
  refine vJ.aload_n dX3_make_53 rfl rfl ?_
  refine vJ.getI (ci := 3) (k := 10) dX3_make_54 sh_139 (Nat.le_of_ble_eq_true rfl) rfl inX3 (Nat.le_of_ble_eq_true rfl) rfl fl_RX3_50 ?_
  refine vJ.icmp_ge (tgt := 84) dX3_make_57 (by decide) (fun hc7 => ?_) (fun hc7 => ?_)
  · replace h := h.1 hc7
    refine vJ.aload_n dX3_make_84 rfl rfl ?_
    refine vJ.callV (ci := 3) (Yc := mX3_findHomes) (frc := 3) (loc := 67) (as := []) dX3_make_85 rfl sh_139 (Nat.le_of_ble_eq_true rfl) rfl ml_RX3_73 im_yX3_findHomes se_yX3_findHomes co_X3_findHomes in_TableSetter_Pager pl_X3_findHomes (Nat.le_of_ble_eq_true rfl) (Nat.le_of_ble_eq_true rfl) (Nat.le_of_ble_eq_true rfl) ?_
    refine Ev.gv h (fun m1 h => ?_)
    refine vJ.aload_n dX3_make_88 rfl rfl ?_
    refine vJ.getR (ci := 3) (k := 6) (j := 159) dX3_make_89 sh_139 (Nat.le_of_ble_eq_true rfl) rfl inX3 (Nat.le_of_ble_eq_true rfl) rfl fl_RX3_27 ?_
    refine vJ.iconst dX3_make_92 ci_0 ?_
    refine vJ.callS (Yc := mJ7_fill_53178) (frc := 0) (loc := 0) (as := [.ref 159, .int (0 : Int32)]) dX3_make_93 rfl ml_RX3_76 st_yJ7_fill_53178 co_J7_fill_53178 in_java_util_Arrays pl_J7_fill_53178 (Nat.le_of_ble_eq_true rfl) (Nat.le_of_ble_eq_true rfl) (Nat.le_of_ble_eq_true rfl) ?_
    refine ev_fill (a := 159) (v := (0 : Int32)) sh_159 (Nat.le_of_ble_eq_true rfl) (fun m2 em2 => ?_)
    replace h := h m2 em2
    refine vJ.aload_n dX3_make_96 rfl rfl ?_
    refine vJ.getR (ci := 3) (k := 7) (j := 160) dX3_make_97 sh_139 (Nat.le_of_ble_eq_true rfl) rfl inX3 (Nat.le_of_ble_eq_true rfl) rfl fl_RX3_30 ?_
    refine vJ.iconst dX3_make_100 ci_0 ?_
    refine vJ.callS (Yc := mJ7_fill_53178) (frc := 0) (loc := 0) (as := [.ref 160, .int (0 : Int32)]) dX3_make_101 rfl ml_RX3_76 st_yJ7_fill_53178 co_J7_fill_53178 in_java_util_Arrays pl_J7_fill_53178 (Nat.le_of_ble_eq_true rfl) (Nat.le_of_ble_eq_true rfl) (Nat.le_of_ble_eq_true rfl) ?_
    refine ev_fill (a := 160) (v := (0 : Int32)) sh_160 (Nat.le_of_ble_eq_true rfl) (fun m3 em3 => ?_)
    replace h := h m3 em3
    refine vJ.aload_n dX3_make_104 rfl rfl ?_
    refine vJ.getI (ci := 3) (k := 11) dX3_make_105 sh_139 (Nat.le_of_ble_eq_true rfl) rfl inX3 (Nat.le_of_ble_eq_true rfl) rfl fl_RX3_62 ?_
    refine vJ.iconst dX3_make_108 ci_1 ?_
    refine vJ.isub dX3_make_109 ?_
    refine vJ.topi (fun v4 ev4 => ?_)
    replace h := h v4 ev4
    refine vJ.istore_n (ls2 := [(0, .ref 139), (2, .int v4)]) dX3_make_110 rfl (Nat.le_of_ble_eq_true rfl) rfl ?_
    exact h
  · replace h := h.2 hc7
    refine vJ.aload_n dX3_make_60 rfl rfl ?_
    refine vJ.dup dX3_make_61 rfl ?_
    refine vJ.getI (ci := 3) (k := 9) dX3_make_62 sh_139 (Nat.le_of_ble_eq_true rfl) rfl inX3 (Nat.le_of_ble_eq_true rfl) rfl fl_RX3_65 ?_
    refine vJ.aload_n dX3_make_65 rfl rfl ?_
    refine vJ.getR (ci := 3) (k := 3) (j := 125) dX3_make_66 sh_139 (Nat.le_of_ble_eq_true rfl) rfl inX3 (Nat.le_of_ble_eq_true rfl) rfl fl_RX3_40 ?_
    refine vJ.getR (ci := 2) (k := 0) (j := 126) dX3_make_69 sh_125 (Nat.le_of_ble_eq_true rfl) rfl inX2 (Nat.le_of_ble_eq_true rfl) rfl fl_RX3_68 ?_
    refine vJ.iload_n dX3_make_72 rfl rfl ?_
    obtain ⟨hb5, h⟩ := h
    refine vJ.iald dX3_make_73 sh_126 (Nat.le_of_ble_eq_true rfl) hb5 ?_
    refine vJ.isub dX3_make_74 ?_
    refine vJ.putI (ci := 3) (k := 9) dX3_make_75 sh_139 (Nat.le_of_ble_eq_true rfl) rfl inX3 tyX3 tyX3_ok nmX3 (Nat.le_of_ble_eq_true rfl) rfl rfl fl_RX3_65 rfl rfl ?_
    refine vJ.topm (fun m6 em6 => ?_)
    replace h := h m6 em6
    refine vJ.iinc (v := l2 + (1 : Int32)) (ls2 := [(0, .ref 139), (2, .int (l2 + (1 : Int32)))]) dX3_make_78 rfl (congrArg (l2 + ·) ci_1) (Nat.le_of_ble_eq_true rfl) rfl ?_
    refine vJ.goto (tgt := 52) dX3_make_81 (by decide) ?_
    exact h
def wp_X3_make_111 (l2 : Int32) (m : vM) (P : Int32 → vM → Prop) : Prop :=
  ((l2 < (m.1 139 10) →
    vp_in (m.1 139 10) 17 ∧
    (((m.1 159 (Int32.toNatClampNeg (m.1 139 10))) = (0 : Int32) →
      P (-9 : Int32) m) ∧
    (¬ (m.1 159 (Int32.toNatClampNeg (m.1 139 10))) = (0 : Int32) →
      EI_X3_layOut m (fun m2 =>
        P (m2.1 139 0) m2)))) ∧
  (¬ l2 < (m.1 139 10) →
    ((l2 = (m.1 139 10) →
      EI_X3_planFrom l2 m (fun m4 =>
        J_X3_make_111 (l2 + (-1 : Int32)) m4 P)) ∧
    (¬ l2 = (m.1 139 10) →
      EI_X1_breaksAhead l2 (m.1 139 10) m (fun r6 m5 =>
        ((r6 = (0 : Int32) →
          J_X3_make_111 (l2 + (-1 : Int32)) m5 P) ∧
        (¬ r6 = (0 : Int32) →
          EI_X3_planFrom l2 m5 (fun m7 =>
            J_X3_make_111 (l2 + (-1 : Int32)) m7 P))))))))
set_option maxRecDepth 20000 in
set_option maxHeartbeats 4000000 in
theorem b_X3_make_111 {l2 : Int32} {m : vM} {P : Int32 → vM → Prop}  (h : wp_X3_make_111 l2 m P) : J_X3_make_111 l2 m P := by
  show vJ mX3_make 4 90 197 none 111 [(0, .ref 139), (2, .int l2)] [] 197 SH m (vPi P)
  unfold wp_X3_make_111 at h
  refine vJ.iload_n dX3_make_111 rfl rfl ?_
  refine vJ.aload_n dX3_make_112 rfl rfl ?_
  refine vJ.getI (ci := 3) (k := 10) dX3_make_113 sh_139 (Nat.le_of_ble_eq_true rfl) rfl inX3 (Nat.le_of_ble_eq_true rfl) rfl fl_RX3_50 ?_
  refine vJ.icmp_lt (tgt := 153) dX3_make_116 (by decide) (fun hc10 => ?_) (fun hc10 => ?_)
  · replace h := h.1 hc10
    refine vJ.aload_n dX3_make_153 rfl rfl ?_
    refine vJ.getR (ci := 3) (k := 6) (j := 159) dX3_make_154 sh_139 (Nat.le_of_ble_eq_true rfl) rfl inX3 (Nat.le_of_ble_eq_true rfl) rfl fl_RX3_27 ?_
    refine vJ.aload_n dX3_make_157 rfl rfl ?_
    refine vJ.getI (ci := 3) (k := 10) dX3_make_158 sh_139 (Nat.le_of_ble_eq_true rfl) rfl inX3 (Nat.le_of_ble_eq_true rfl) rfl fl_RX3_50 ?_
    obtain ⟨hb1, h⟩ := h
    refine vJ.iald dX3_make_161 sh_159 (Nat.le_of_ble_eq_true rfl) hb1 ?_
    refine vJ.if_ne (tgt := 168) dX3_make_162 (by decide) (fun hc3 => ?_) (fun hc3 => ?_)
    · replace h := h.2 hc3
      refine vJ.aload_n dX3_make_168 rfl rfl ?_
      refine vJ.callV (ci := 3) (Yc := mX3_layOut) (frc := 1) (loc := 21) (as := []) dX3_make_169 rfl sh_139 (Nat.le_of_ble_eq_true rfl) rfl ml_RX3_90 im_yX3_layOut se_yX3_layOut co_X3_layOut in_TableSetter_Pager pl_X3_layOut (Nat.le_of_ble_eq_true rfl) (Nat.le_of_ble_eq_true rfl) (Nat.le_of_ble_eq_true rfl) ?_
      refine Ev.gv h (fun m2 h => ?_)
      refine vJ.aload_n dX3_make_172 rfl rfl ?_
      refine vJ.getI (ci := 3) (k := 0) dX3_make_173 sh_139 (Nat.le_of_ble_eq_true rfl) rfl inX3 (Nat.le_of_ble_eq_true rfl) rfl fl_RX3_9 ?_
      exact vJ.ireturn dX3_make_176 rfl rfl rfl ⟨rfl, _, rfl, h⟩
    · replace h := h.1 hc3
      refine vJ.bipush dX3_make_165 cb_m9 ?_
      exact vJ.ireturn dX3_make_167 rfl rfl rfl ⟨rfl, _, rfl, h⟩
  · replace h := h.2 hc10
    refine vJ.iload_n dX3_make_119 rfl rfl ?_
    refine vJ.aload_n dX3_make_120 rfl rfl ?_
    refine vJ.getI (ci := 3) (k := 10) dX3_make_121 sh_139 (Nat.le_of_ble_eq_true rfl) rfl inX3 (Nat.le_of_ble_eq_true rfl) rfl fl_RX3_50 ?_
    refine vJ.icmp_eq (tgt := 142) dX3_make_124 (by decide) (fun hc9 => ?_) (fun hc9 => ?_)
    · replace h := h.1 hc9
      refine vJ.aload_n dX3_make_142 rfl rfl ?_
      refine vJ.iload_n dX3_make_143 rfl rfl ?_
      refine vJ.callV (ci := 3) (Yc := mX3_planFrom) (frc := 1) (loc := 26) (as := [.int l2]) dX3_make_144 rfl sh_139 (Nat.le_of_ble_eq_true rfl) rfl ml_RX3_86 im_yX3_planFrom se_yX3_planFrom co_X3_planFrom in_TableSetter_Pager pl_X3_planFrom (Nat.le_of_ble_eq_true rfl) (Nat.le_of_ble_eq_true rfl) (Nat.le_of_ble_eq_true rfl) ?_
      refine Ev.gv h (fun m4 h => ?_)
      refine vJ.iinc (v := l2 + (-1 : Int32)) (ls2 := [(0, .ref 139), (2, .int (l2 + (-1 : Int32)))]) dX3_make_147 rfl (congrArg (l2 + ·) ci_m1) (Nat.le_of_ble_eq_true rfl) rfl ?_
      refine vJ.goto (tgt := 111) dX3_make_150 (by decide) ?_
      exact h
    · replace h := h.2 hc9
      refine vJ.aload_n dX3_make_127 rfl rfl ?_
      refine vJ.getR (ci := 3) (k := 2) (j := 1) dX3_make_128 sh_139 (Nat.le_of_ble_eq_true rfl) rfl inX3 (Nat.le_of_ble_eq_true rfl) rfl fl_RX3_36 ?_
      refine vJ.iload_n dX3_make_131 rfl rfl ?_
      refine vJ.aload_n dX3_make_132 rfl rfl ?_
      refine vJ.getI (ci := 3) (k := 10) dX3_make_133 sh_139 (Nat.le_of_ble_eq_true rfl) rfl inX3 (Nat.le_of_ble_eq_true rfl) rfl fl_RX3_50 ?_
      refine vJ.callV (ci := 1) (Yc := mX1_breaksAhead) (frc := 2) (loc := 43) (as := [.int l2, .int (m.1 139 10)]) dX3_make_136 rfl sh_1 (Nat.le_of_ble_eq_true rfl) rfl ml_RX3_82 im_yX1_breaksAhead se_yX1_breaksAhead co_X1_breaksAhead in_TableSetter_Grid pl_X1_breaksAhead (Nat.le_of_ble_eq_true rfl) (Nat.le_of_ble_eq_true rfl) (Nat.le_of_ble_eq_true rfl) ?_
      refine Ev.gi h (fun r6 m5 h => ?_)
      refine vJ.if_eq (tgt := 147) dX3_make_139 (by decide) (fun hc8 => ?_) (fun hc8 => ?_)
      · replace h := h.1 hc8
        refine vJ.iinc (v := l2 + (-1 : Int32)) (ls2 := [(0, .ref 139), (2, .int (l2 + (-1 : Int32)))]) dX3_make_147 rfl (congrArg (l2 + ·) ci_m1) (Nat.le_of_ble_eq_true rfl) rfl ?_
        refine vJ.goto (tgt := 111) dX3_make_150 (by decide) ?_
        exact h
      · replace h := h.2 hc8
        refine vJ.aload_n dX3_make_142 rfl rfl ?_
        refine vJ.iload_n dX3_make_143 rfl rfl ?_
        refine vJ.callV (ci := 3) (Yc := mX3_planFrom) (frc := 1) (loc := 26) (as := [.int l2]) dX3_make_144 rfl sh_139 (Nat.le_of_ble_eq_true rfl) rfl ml_RX3_86 im_yX3_planFrom se_yX3_planFrom co_X3_planFrom in_TableSetter_Pager pl_X3_planFrom (Nat.le_of_ble_eq_true rfl) (Nat.le_of_ble_eq_true rfl) (Nat.le_of_ble_eq_true rfl) ?_
        refine Ev.gv h (fun m7 h => ?_)
        refine vJ.iinc (v := l2 + (-1 : Int32)) (ls2 := [(0, .ref 139), (2, .int (l2 + (-1 : Int32)))]) dX3_make_147 rfl (congrArg (l2 + ·) ci_m1) (Nat.le_of_ble_eq_true rfl) rfl ?_
        refine vJ.goto (tgt := 111) dX3_make_150 (by decide) ?_
        exact h
def J_X3_holding_0 (l1 : Int32) (m : vM) (P : Int32 → vM → Prop) : Prop := vJ mX3_holding 0 0 197 none 0 [(0, .ref 139), (1, .int l1)] [] 197 SH m (vPi P)
def J_X3_holding_2 (l1 : Int32) (l2 : Int32) (m : vM) (P : Int32 → vM → Prop) : Prop := vJ mX3_holding 0 0 197 none 2 [(0, .ref 139), (1, .int l1), (2, .int l2)] [] 197 SH m (vPi P)
def wp_X3_holding_0 (l1 : Int32) (m : vM) (P : Int32 → vM → Prop) : Prop :=
  J_X3_holding_2 l1 (0 : Int32) m P
set_option maxRecDepth 20000 in
set_option maxHeartbeats 4000000 in
theorem b_X3_holding_0 {l1 : Int32} {m : vM} {P : Int32 → vM → Prop}  (h : wp_X3_holding_0 l1 m P) : J_X3_holding_0 l1 m P := by
  show vJ mX3_holding 0 0 197 none 0 [(0, .ref 139), (1, .int l1)] [] 197 SH m (vPi P)
  unfold wp_X3_holding_0 at h
  refine vJ.iconst dX3_holding_0 ci_0 ?_
  refine vJ.istore_n (ls2 := [(0, .ref 139), (1, .int l1), (2, .int (0 : Int32))]) dX3_holding_1 rfl (Nat.le_of_ble_eq_true rfl) rfl ?_
  exact h
def EI_X3_holding (l1 : Int32) (m : vM) (P : Int32 → vM → Prop) : Prop := Ev mX3_holding 0 0 197 [.ref 139, .int l1] 197 SH m (vPi P)
theorem f_X3_holding {l1 : Int32} {m : vM} {P : Int32 → vM → Prop} (h : J_X3_holding_0 l1 m P) : EI_X3_holding l1 m P := Ev.of pn_X3_holding (Nat.le_of_ble_eq_true rfl) h
def wp_X3_holding_2 (l1 : Int32) (l2 : Int32) (m : vM) (P : Int32 → vM → Prop) : Prop :=
  (((m.1 139 0) ≤ l2 →
    P (-9 : Int32) m) ∧
  (¬ (m.1 139 0) ≤ l2 →
    (((16 : Int32) ≤ l2 →
      P (-9 : Int32) m) ∧
    (¬ (16 : Int32) ≤ l2 →
      vp_in l2 16 ∧
      vp_in (0 : Int32) 4 ∧
      vp_in l2 16 ∧
      vp_in (1 : Int32) 4 ∧
      ((((m.1 (141 + (Int32.toNatClampNeg l2)) (Int32.toNatClampNeg (0 : Int32))) + (m.1 (141 + (Int32.toNatClampNeg l2)) (Int32.toNatClampNeg (1 : Int32)))) ≤ l1 →
        J_X3_holding_2 l1 (l2 + (1 : Int32)) m P) ∧
      (¬ ((m.1 (141 + (Int32.toNatClampNeg l2)) (Int32.toNatClampNeg (0 : Int32))) + (m.1 (141 + (Int32.toNatClampNeg l2)) (Int32.toNatClampNeg (1 : Int32)))) ≤ l1 →
        P l2 m))))))
set_option maxRecDepth 20000 in
set_option maxHeartbeats 4000000 in
theorem b_X3_holding_2 {l1 : Int32} {l2 : Int32} {m : vM} {P : Int32 → vM → Prop}  (h : wp_X3_holding_2 l1 l2 m P) : J_X3_holding_2 l1 l2 m P := by
  show vJ mX3_holding 0 0 197 none 2 [(0, .ref 139), (1, .int l1), (2, .int l2)] [] 197 SH m (vPi P)
  unfold wp_X3_holding_2 at h
  refine vJ.iload_n dX3_holding_2 rfl rfl ?_
  refine vJ.aload_n dX3_holding_3 rfl rfl ?_
  refine vJ.getI (ci := 3) (k := 0) dX3_holding_4 sh_139 (Nat.le_of_ble_eq_true rfl) rfl inX3 (Nat.le_of_ble_eq_true rfl) rfl fl_RX3_9 ?_
  refine vJ.icmp_ge (tgt := 45) dX3_holding_7 (by decide) (fun hc9 => ?_) (fun hc9 => ?_)
  · replace h := h.1 hc9
    refine vJ.bipush dX3_holding_45 cb_m9 ?_
    exact vJ.ireturn dX3_holding_47 rfl rfl rfl ⟨rfl, _, rfl, h⟩
  · replace h := h.2 hc9
    refine vJ.iload_n dX3_holding_10 rfl rfl ?_
    refine vJ.bipush dX3_holding_11 cb_16 ?_
    refine vJ.icmp_ge (tgt := 45) dX3_holding_13 (by decide) (fun hc8 => ?_) (fun hc8 => ?_)
    · replace h := h.1 hc8
      refine vJ.bipush dX3_holding_45 cb_m9 ?_
      exact vJ.ireturn dX3_holding_47 rfl rfl rfl ⟨rfl, _, rfl, h⟩
    · replace h := h.2 hc8
      refine vJ.iload_n dX3_holding_16 rfl rfl ?_
      refine vJ.aload_n dX3_holding_17 rfl rfl ?_
      refine vJ.getR (ci := 3) (k := 1) (j := 140) dX3_holding_18 sh_139 (Nat.le_of_ble_eq_true rfl) rfl inX3 (Nat.le_of_ble_eq_true rfl) rfl fl_RX3_17 ?_
      refine vJ.iload_n dX3_holding_21 rfl rfl ?_
      obtain ⟨hb1, h⟩ := h
      have hi2 := vp_lt hb1
      refine vJ.aald5 dX3_holding_22 sh_140 (Nat.le_of_ble_eq_true rfl) hb1 (cs140_at hi2) ?_
      refine vJ.iconst dX3_holding_23 ci_0 ?_
      obtain ⟨hb3, h⟩ := h
      refine vJ.iald dX3_holding_24 (sh_F hi2) (lt_F hi2) hb3 ?_
      refine vJ.aload_n dX3_holding_25 rfl rfl ?_
      refine vJ.getR (ci := 3) (k := 1) (j := 140) dX3_holding_26 sh_139 (Nat.le_of_ble_eq_true rfl) rfl inX3 (Nat.le_of_ble_eq_true rfl) rfl fl_RX3_17 ?_
      refine vJ.iload_n dX3_holding_29 rfl rfl ?_
      obtain ⟨hb4, h⟩ := h
      have hi5 := vp_lt hb4
      refine vJ.aald5 dX3_holding_30 sh_140 (Nat.le_of_ble_eq_true rfl) hb4 (cs140_at hi5) ?_
      refine vJ.iconst dX3_holding_31 ci_1 ?_
      obtain ⟨hb6, h⟩ := h
      refine vJ.iald dX3_holding_32 (sh_F hi5) (lt_F hi5) hb6 ?_
      refine vJ.iadd dX3_holding_33 ?_
      refine vJ.icmp_ge (tgt := 39) dX3_holding_34 (by decide) (fun hc7 => ?_) (fun hc7 => ?_)
      · replace h := h.1 hc7
        refine vJ.iinc (v := l2 + (1 : Int32)) (ls2 := [(0, .ref 139), (1, .int l1), (2, .int (l2 + (1 : Int32)))]) dX3_holding_39 rfl (congrArg (l2 + ·) ci_1) (Nat.le_of_ble_eq_true rfl) rfl ?_
        refine vJ.goto (tgt := 2) dX3_holding_42 (by decide) ?_
        exact h
      · replace h := h.2 hc7
        refine vJ.iload_n dX3_holding_37 rfl rfl ?_
        exact vJ.ireturn dX3_holding_38 rfl rfl rfl ⟨rfl, _, rfl, h⟩
