def J_X5_forget_0  (m : vM) (P : vM → Prop) : Prop := vJ mX5_forget 1 23 197 none 0 [(0, .ref 129)] [] 197 SH m (vPv P)
def wp_X5_forget  (m : vM) (P : vM → Prop) : Prop :=
  ∀ m1 : vM, m1 = fillA m 130 6 (0 : Int32) →
  P m1
set_option maxRecDepth 20000 in
set_option maxHeartbeats 4000000 in
theorem b_X5_forget  {m : vM} {P : vM → Prop}  (h : wp_X5_forget  m P) : J_X5_forget_0  m P := by
  show vJ mX5_forget 1 23 197 none 0 [(0, .ref 129)] [] 197 SH m (vPv P)
  unfold wp_X5_forget at h
  refine vJ.aload_n dX5_forget_0 rfl rfl ?_
  refine vJ.getR (ci := 5) (k := 0) (j := 130) dX5_forget_1 sh_129 (Nat.le_of_ble_eq_true rfl) rfl inX5 (Nat.le_of_ble_eq_true rfl) rfl fl_RX5_9 ?_
  refine vJ.iconst dX5_forget_4 ci_0 ?_
  refine vJ.callS (Yc := mJ7_fill_53178) (frc := 0) (loc := 0) (as := [.ref 130, .int (0 : Int32)]) dX5_forget_5 rfl ml_RX5_45 st_yJ7_fill_53178 co_J7_fill_53178 in_java_util_Arrays pl_J7_fill_53178 (Nat.le_of_ble_eq_true rfl) (Nat.le_of_ble_eq_true rfl) (Nat.le_of_ble_eq_true rfl) ?_
  refine ev_fill (a := 130) (v := (0 : Int32)) sh_130 (Nat.le_of_ble_eq_true rfl) (fun m1 em1 => ?_)
  replace h := h m1 em1
  exact vJ.vreturn dX5_forget_8 rfl rfl ⟨rfl, rfl, h⟩
def EI_X5_forget  (m : vM) (P : vM → Prop) : Prop := Ev mX5_forget 1 23 197 [.ref 129] 197 SH m (vPv P)
theorem f_X5_forget  {m : vM} {P : vM → Prop} (h : J_X5_forget_0  m P) : EI_X5_forget  m P := Ev.of pn_X5_forget (Nat.le_of_ble_eq_true rfl) h
theorem e_X5_forget  {m : vM} {P : vM → Prop}  (h : wp_X5_forget  m P) : EI_X5_forget  m P := f_X5_forget (b_X5_forget  h)
def J_X5_addTo_0 (a1 : Nat) (n1 : Nat) (a2 : Nat) (n2 : Nat) (m : vM) (P : vM → Prop) : Prop := vJ mX5_addTo 0 0 197 none 0 [(0, .ref 129), (1, .ref a1), (2, .ref a2)] [] 197 SH m (vPv P)
def J_X5_addTo_2 (a1 : Nat) (n1 : Nat) (a2 : Nat) (n2 : Nat) (l3 : Int32) (m : vM) (P : vM → Prop) : Prop := vJ mX5_addTo 0 0 197 none 2 [(0, .ref 129), (1, .ref a1), (2, .ref a2), (3, .int l3)] [] 197 SH m (vPv P)
def wp_X5_addTo_0 (a1 : Nat) (n1 : Nat) (a2 : Nat) (n2 : Nat) (m : vM) (P : vM → Prop) : Prop :=
  J_X5_addTo_2 a1 n1 a2 n2 (0 : Int32) m P
set_option maxRecDepth 20000 in
set_option maxHeartbeats 4000000 in
theorem b_X5_addTo_0 {a1 : Nat} {n1 : Nat} {a2 : Nat} {n2 : Nat} {m : vM} {P : vM → Prop} (ha1 : SH a1 = (0, n1, vz)) (hw1 : a1 < 197) (ha2 : SH a2 = (0, n2, vz)) (hw2 : a2 < 197) (h : wp_X5_addTo_0 a1 n1 a2 n2 m P) : J_X5_addTo_0 a1 n1 a2 n2 m P := by
  show vJ mX5_addTo 0 0 197 none 0 [(0, .ref 129), (1, .ref a1), (2, .ref a2)] [] 197 SH m (vPv P)
  unfold wp_X5_addTo_0 at h
  refine vJ.iconst dX5_addTo_0 ci_0 ?_
  refine vJ.istore_n (ls2 := [(0, .ref 129), (1, .ref a1), (2, .ref a2), (3, .int (0 : Int32))]) dX5_addTo_1 rfl (Nat.le_of_ble_eq_true rfl) rfl ?_
  exact h
def EI_X5_addTo (a1 : Nat) (n1 : Nat) (a2 : Nat) (n2 : Nat) (m : vM) (P : vM → Prop) : Prop := Ev mX5_addTo 0 0 197 [.ref 129, .ref a1, .ref a2] 197 SH m (vPv P)
theorem f_X5_addTo {a1 : Nat} {n1 : Nat} {a2 : Nat} {n2 : Nat} {m : vM} {P : vM → Prop} (h : J_X5_addTo_0 a1 n1 a2 n2 m P) : EI_X5_addTo a1 n1 a2 n2 m P := Ev.of pn_X5_addTo (Nat.le_of_ble_eq_true rfl) h
def wp_X5_addTo_2 (a1 : Nat) (n1 : Nat) (a2 : Nat) (n2 : Nat) (l3 : Int32) (m : vM) (P : vM → Prop) : Prop :=
  (((m.1 1 1) ≤ l3 →
    P m) ∧
  (¬ (m.1 1 1) ≤ l3 →
    (((nI n1) ≤ l3 →
      P m) ∧
    (¬ (nI n1) ≤ l3 →
      (((nI n2) ≤ l3 →
        P m) ∧
      (¬ (nI n2) ≤ l3 →
        vp_in l3 n1 ∧
        vp_in l3 n2 ∧
        vp_in l3 n1 ∧
        ∀ m4 : vM, m4 = upI m a1 (Int32.toNatClampNeg l3) ((m.1 a1 (Int32.toNatClampNeg l3)) + (m.1 a2 (Int32.toNatClampNeg l3))) →
        J_X5_addTo_2 a1 n1 a2 n2 (l3 + (1 : Int32)) m4 P))))))
set_option maxRecDepth 20000 in
set_option maxHeartbeats 4000000 in
theorem b_X5_addTo_2 {a1 : Nat} {n1 : Nat} {a2 : Nat} {n2 : Nat} {l3 : Int32} {m : vM} {P : vM → Prop} (ha1 : SH a1 = (0, n1, vz)) (hw1 : a1 < 197) (ha2 : SH a2 = (0, n2, vz)) (hw2 : a2 < 197) (h : wp_X5_addTo_2 a1 n1 a2 n2 l3 m P) : J_X5_addTo_2 a1 n1 a2 n2 l3 m P := by
  show vJ mX5_addTo 0 0 197 none 2 [(0, .ref 129), (1, .ref a1), (2, .ref a2), (3, .int l3)] [] 197 SH m (vPv P)
  unfold wp_X5_addTo_2 at h
  refine vJ.iload_n dX5_addTo_2 rfl rfl ?_
  refine vJ.aload_n dX5_addTo_3 rfl rfl ?_
  refine vJ.getR (ci := 5) (k := 3) (j := 1) dX5_addTo_4 sh_129 (Nat.le_of_ble_eq_true rfl) rfl inX5 (Nat.le_of_ble_eq_true rfl) rfl fl_RX5_37 ?_
  refine vJ.getI (ci := 1) (k := 1) dX5_addTo_7 sh_1 (Nat.le_of_ble_eq_true rfl) rfl inX1 (Nat.le_of_ble_eq_true rfl) rfl fl_RX5_61 ?_
  refine vJ.icmp_ge (tgt := 40) dX5_addTo_10 (by decide) (fun hc7 => ?_) (fun hc7 => ?_)
  · replace h := h.1 hc7
    exact vJ.vreturn dX5_addTo_40 rfl rfl ⟨rfl, rfl, h⟩
  · replace h := h.2 hc7
    refine vJ.iload_n dX5_addTo_13 rfl rfl ?_
    refine vJ.aload_n dX5_addTo_14 rfl rfl ?_
    refine vJ.alen0 (v := (nI n1)) dX5_addTo_15 ha1 hw1 rfl ?_
    refine vJ.icmp_ge (tgt := 40) dX5_addTo_16 (by decide) (fun hc6 => ?_) (fun hc6 => ?_)
    · replace h := h.1 hc6
      exact vJ.vreturn dX5_addTo_40 rfl rfl ⟨rfl, rfl, h⟩
    · replace h := h.2 hc6
      refine vJ.iload_n dX5_addTo_19 rfl rfl ?_
      refine vJ.aload_n dX5_addTo_20 rfl rfl ?_
      refine vJ.alen0 (v := (nI n2)) dX5_addTo_21 ha2 hw2 rfl ?_
      refine vJ.icmp_ge (tgt := 40) dX5_addTo_22 (by decide) (fun hc5 => ?_) (fun hc5 => ?_)
      · replace h := h.1 hc5
        exact vJ.vreturn dX5_addTo_40 rfl rfl ⟨rfl, rfl, h⟩
      · replace h := h.2 hc5
        refine vJ.aload_n dX5_addTo_25 rfl rfl ?_
        refine vJ.iload_n dX5_addTo_26 rfl rfl ?_
        refine vJ.dup2 dX5_addTo_27 rfl rfl ?_
        obtain ⟨hb1, h⟩ := h
        refine vJ.iald dX5_addTo_28 ha1 hw1 hb1 ?_
        refine vJ.aload_n dX5_addTo_29 rfl rfl ?_
        refine vJ.iload_n dX5_addTo_30 rfl rfl ?_
        obtain ⟨hb2, h⟩ := h
        refine vJ.iald dX5_addTo_31 ha2 hw2 hb2 ?_
        refine vJ.iadd dX5_addTo_32 ?_
        obtain ⟨hb3, h⟩ := h
        refine vJ.iast dX5_addTo_33 ha1 hw1 hb3 ?_
        refine vJ.topm (fun m4 em4 => ?_)
        replace h := h m4 em4
        refine vJ.iinc (v := l3 + (1 : Int32)) (ls2 := [(0, .ref 129), (1, .ref a1), (2, .ref a2), (3, .int (l3 + (1 : Int32)))]) dX5_addTo_34 rfl (congrArg (l3 + ·) ci_1) (Nat.le_of_ble_eq_true rfl) rfl ?_
        refine vJ.goto (tgt := 2) dX5_addTo_37 (by decide) ?_
        exact h
def J_X5_noteLack_0 (i1 : Nat) (l2 : Int32) (m : vM) (P : vM → Prop) : Prop := vJ mX5_noteLack 2 52 197 none 0 [(0, .ref 129), (1, .ref (cA i1)), (2, .int l2)] [] 197 SH m (vPv P)
def J_X5_noteLack_35 (l3 : Int32) (m : vM) (P : vM → Prop) : Prop := vJ mX5_noteLack 2 52 197 none 35 [(0, .ref 129), (3, .int l3)] [] 197 SH m (vPv P)
def wp_X5_noteLack_0 (i1 : Nat) (l2 : Int32) (m : vM) (P : vM → Prop) : Prop :=
  (((0 : Int32) < l2 →
    EI_X4_divide l2 2 6 (m.1 (cA i1) 2) ((m.1 (cA i1) 2) + (m.1 (cA i1) 4)) m (fun m1 =>
      J_X5_noteLack_35 (0 : Int32) m1 P)) ∧
  (¬ (0 : Int32) < l2 →
    P m))
set_option maxRecDepth 20000 in
set_option maxHeartbeats 4000000 in
theorem b_X5_noteLack_0 {i1 : Nat} {l2 : Int32} {m : vM} {P : vM → Prop} (hi1 : i1 < 40) (h : wp_X5_noteLack_0 i1 l2 m P) : J_X5_noteLack_0 i1 l2 m P := by
  show vJ mX5_noteLack 2 52 197 none 0 [(0, .ref 129), (1, .ref (cA i1)), (2, .int l2)] [] 197 SH m (vPv P)
  unfold wp_X5_noteLack_0 at h
  refine vJ.iload_n dX5_noteLack_0 rfl rfl ?_
  refine vJ.if_gt (tgt := 5) dX5_noteLack_1 (by decide) (fun hc2 => ?_) (fun hc2 => ?_)
  · replace h := h.1 hc2
    refine vJ.aload_n dX5_noteLack_5 rfl rfl ?_
    refine vJ.getR (ci := 5) (k := 5) (j := 133) dX5_noteLack_6 sh_129 (Nat.le_of_ble_eq_true rfl) rfl inX5 (Nat.le_of_ble_eq_true rfl) rfl fl_RX5_24 ?_
    refine vJ.iload_n dX5_noteLack_9 rfl rfl ?_
    refine vJ.aload_n dX5_noteLack_10 rfl rfl ?_
    refine vJ.getR (ci := 5) (k := 3) (j := 1) dX5_noteLack_11 sh_129 (Nat.le_of_ble_eq_true rfl) rfl inX5 (Nat.le_of_ble_eq_true rfl) rfl fl_RX5_37 ?_
    refine vJ.getR (ci := 1) (k := 4) (j := 2) dX5_noteLack_14 sh_1 (Nat.le_of_ble_eq_true rfl) rfl inX1 (Nat.le_of_ble_eq_true rfl) rfl fl_RX5_95 ?_
    refine vJ.aload_n dX5_noteLack_17 rfl rfl ?_
    refine vJ.getI (ci := 0) (k := 2) dX5_noteLack_18 (sh_C hi1) (lt_C hi1) rfl inX0 (Nat.le_of_ble_eq_true rfl) rfl fl_RX5_98 ?_
    refine vJ.aload_n dX5_noteLack_21 rfl rfl ?_
    refine vJ.getI (ci := 0) (k := 2) dX5_noteLack_22 (sh_C hi1) (lt_C hi1) rfl inX0 (Nat.le_of_ble_eq_true rfl) rfl fl_RX5_98 ?_
    refine vJ.aload_n dX5_noteLack_25 rfl rfl ?_
    refine vJ.getI (ci := 0) (k := 4) dX5_noteLack_26 (sh_C hi1) (lt_C hi1) rfl inX0 (Nat.le_of_ble_eq_true rfl) rfl fl_RX5_74 ?_
    refine vJ.iadd dX5_noteLack_29 ?_
    refine vJ.callV (ci := 4) (Yc := mX4_divide) (frc := 1) (loc := 24) (as := [.int l2, .ref 2, .int (m.1 (cA i1) 2), .int ((m.1 (cA i1) 2) + (m.1 (cA i1) 4))]) dX5_noteLack_30 rfl sh_133 (Nat.le_of_ble_eq_true rfl) rfl ml_RX5_101 im_yX4_divide se_yX4_divide co_X4_divide in_TableSetter_Share pl_X4_divide (Nat.le_of_ble_eq_true rfl) (Nat.le_of_ble_eq_true rfl) (Nat.le_of_ble_eq_true rfl) ?_
    refine Ev.gv h (fun m1 h => ?_)
    refine vJ.iconst dX5_noteLack_33 ci_0 ?_
    refine vJ.istore_n (ls2 := [(0, .ref 129), (1, .ref (cA i1)), (2, .int l2), (3, .int (0 : Int32))]) dX5_noteLack_34 rfl (Nat.le_of_ble_eq_true rfl) rfl ?_
    refine vJ.sub [0, 3] rfl ?_
    exact h
  · replace h := h.2 hc2
    exact vJ.vreturn dX5_noteLack_4 rfl rfl ⟨rfl, rfl, h⟩
def EI_X5_noteLack (i1 : Nat) (l2 : Int32) (m : vM) (P : vM → Prop) : Prop := Ev mX5_noteLack 2 52 197 [.ref 129, .ref (cA i1), .int l2] 197 SH m (vPv P)
theorem f_X5_noteLack {i1 : Nat} {l2 : Int32} {m : vM} {P : vM → Prop} (h : J_X5_noteLack_0 i1 l2 m P) : EI_X5_noteLack i1 l2 m P := Ev.of pn_X5_noteLack (Nat.le_of_ble_eq_true rfl) h
def wp_X5_noteLack_35 (l3 : Int32) (m : vM) (P : vM → Prop) : Prop :=
  (((6 : Int32) ≤ l3 →
    P m) ∧
  (¬ (6 : Int32) ≤ l3 →
    vp_in l3 6 ∧
    vp_in l3 6 ∧
    vp_in l3 6 ∧
    ∀ m4 : vM, m4 = upI m 136 (Int32.toNatClampNeg l3) (if (m.1 136 (Int32.toNatClampNeg l3)) < (m.1 134 (Int32.toNatClampNeg l3)) then (m.1 134 (Int32.toNatClampNeg l3)) else (m.1 136 (Int32.toNatClampNeg l3))) →
    J_X5_noteLack_35 (l3 + (1 : Int32)) m4 P))
set_option maxRecDepth 20000 in
set_option maxHeartbeats 4000000 in
theorem b_X5_noteLack_35 {l3 : Int32} {m : vM} {P : vM → Prop}  (h : wp_X5_noteLack_35 l3 m P) : J_X5_noteLack_35 l3 m P := by
  show vJ mX5_noteLack 2 52 197 none 35 [(0, .ref 129), (3, .int l3)] [] 197 SH m (vPv P)
  unfold wp_X5_noteLack_35 at h
  refine vJ.iload_n dX5_noteLack_35 rfl rfl ?_
  refine vJ.bipush dX5_noteLack_36 cb_6 ?_
  refine vJ.icmp_ge (tgt := 71) dX5_noteLack_38 (by decide) (fun hc5 => ?_) (fun hc5 => ?_)
  · replace h := h.1 hc5
    exact vJ.vreturn dX5_noteLack_71 rfl rfl ⟨rfl, rfl, h⟩
  · replace h := h.2 hc5
    refine vJ.aload_n dX5_noteLack_41 rfl rfl ?_
    refine vJ.getR (ci := 5) (k := 6) (j := 136) dX5_noteLack_42 sh_129 (Nat.le_of_ble_eq_true rfl) rfl inX5 (Nat.le_of_ble_eq_true rfl) rfl fl_RX5_28 ?_
    refine vJ.iload_n dX5_noteLack_45 rfl rfl ?_
    refine vJ.aload_n dX5_noteLack_46 rfl rfl ?_
    refine vJ.getR (ci := 5) (k := 6) (j := 136) dX5_noteLack_47 sh_129 (Nat.le_of_ble_eq_true rfl) rfl inX5 (Nat.le_of_ble_eq_true rfl) rfl fl_RX5_28 ?_
    refine vJ.iload_n dX5_noteLack_50 rfl rfl ?_
    obtain ⟨hb1, h⟩ := h
    refine vJ.iald dX5_noteLack_51 sh_136 (Nat.le_of_ble_eq_true rfl) hb1 ?_
    refine vJ.aload_n dX5_noteLack_52 rfl rfl ?_
    refine vJ.getR (ci := 5) (k := 5) (j := 133) dX5_noteLack_53 sh_129 (Nat.le_of_ble_eq_true rfl) rfl inX5 (Nat.le_of_ble_eq_true rfl) rfl fl_RX5_24 ?_
    refine vJ.getR (ci := 4) (k := 0) (j := 134) dX5_noteLack_56 sh_133 (Nat.le_of_ble_eq_true rfl) rfl inX4 (Nat.le_of_ble_eq_true rfl) rfl fl_RX5_105 ?_
    refine vJ.iload_n dX5_noteLack_59 rfl rfl ?_
    obtain ⟨hb2, h⟩ := h
    refine vJ.iald dX5_noteLack_60 sh_134 (Nat.le_of_ble_eq_true rfl) hb2 ?_
    refine vJ.mmax dX5_noteLack_61 ml_RX5_55 st_Lib_Math_max_name in_java_lang_Math co_Math_max (Nat.le_of_ble_eq_true rfl) (Nat.le_of_ble_eq_true rfl) ?_
    obtain ⟨hb3, h⟩ := h
    refine vJ.iast dX5_noteLack_64 sh_136 (Nat.le_of_ble_eq_true rfl) hb3 ?_
    refine vJ.topm (fun m4 em4 => ?_)
    replace h := h m4 em4
    refine vJ.iinc (v := l3 + (1 : Int32)) (ls2 := [(0, .ref 129), (3, .int (l3 + (1 : Int32)))]) dX5_noteLack_65 rfl (congrArg (l3 + ·) ci_1) (Nat.le_of_ble_eq_true rfl) rfl ?_
    refine vJ.goto (tgt := 35) dX5_noteLack_68 (by decide) ?_
    exact h
def J_X5_measureFor_0 (l1 : Int32) (a2 : Nat) (n2 : Nat) (m : vM) (P : vM → Prop) : Prop := vJ mX5_measureFor 3 75 197 none 0 [(0, .ref 129), (1, .int l1), (2, .ref a2)] [] 197 SH m (vPv P)
def J_X5_measureFor_7 (l1 : Int32) (a2 : Nat) (n2 : Nat) (l3 : Int32) (m : vM) (P : vM → Prop) : Prop := vJ mX5_measureFor 3 75 197 none 7 [(0, .ref 129), (1, .int l1), (2, .ref a2), (3, .int l3)] [] 197 SH m (vPv P)
def wp_X5_measureFor_0 (l1 : Int32) (a2 : Nat) (n2 : Nat) (m : vM) (P : vM → Prop) : Prop :=
  ∀ m1 : vM, m1 = fillA m a2 n2 (0 : Int32) →
  J_X5_measureFor_7 l1 a2 n2 (1 : Int32) m1 P
set_option maxRecDepth 20000 in
set_option maxHeartbeats 4000000 in
theorem b_X5_measureFor_0 {l1 : Int32} {a2 : Nat} {n2 : Nat} {m : vM} {P : vM → Prop} (ha2 : SH a2 = (0, n2, vz)) (hw2 : a2 < 197) (h : wp_X5_measureFor_0 l1 a2 n2 m P) : J_X5_measureFor_0 l1 a2 n2 m P := by
  show vJ mX5_measureFor 3 75 197 none 0 [(0, .ref 129), (1, .int l1), (2, .ref a2)] [] 197 SH m (vPv P)
  unfold wp_X5_measureFor_0 at h
  refine vJ.aload_n dX5_measureFor_0 rfl rfl ?_
  refine vJ.iconst dX5_measureFor_1 ci_0 ?_
  refine vJ.callS (Yc := mJ7_fill_53178) (frc := 0) (loc := 0) (as := [.ref a2, .int (0 : Int32)]) dX5_measureFor_2 rfl ml_RX5_45 st_yJ7_fill_53178 co_J7_fill_53178 in_java_util_Arrays pl_J7_fill_53178 (Nat.le_of_ble_eq_true rfl) (Nat.le_of_ble_eq_true rfl) (Nat.le_of_ble_eq_true rfl) ?_
  refine ev_fill (a := a2) (v := (0 : Int32)) ha2 hw2 (fun m1 em1 => ?_)
  replace h := h m1 em1
  refine vJ.iconst dX5_measureFor_5 ci_1 ?_
  refine vJ.istore_n (ls2 := [(0, .ref 129), (1, .int l1), (2, .ref a2), (3, .int (1 : Int32))]) dX5_measureFor_6 rfl (Nat.le_of_ble_eq_true rfl) rfl ?_
  exact h
def EI_X5_measureFor (l1 : Int32) (a2 : Nat) (n2 : Nat) (m : vM) (P : vM → Prop) : Prop := Ev mX5_measureFor 3 75 197 [.ref 129, .int l1, .ref a2] 197 SH m (vPv P)
theorem f_X5_measureFor {l1 : Int32} {a2 : Nat} {n2 : Nat} {m : vM} {P : vM → Prop} (h : J_X5_measureFor_0 l1 a2 n2 m P) : EI_X5_measureFor l1 a2 n2 m P := Ev.of pn_X5_measureFor (Nat.le_of_ble_eq_true rfl) h
def J_X5_measureFor_29 (l1 : Int32) (a2 : Nat) (n2 : Nat) (l3 : Int32) (l4 : Int32) (m : vM) (P : vM → Prop) : Prop := vJ mX5_measureFor 3 75 197 none 29 [(0, .ref 129), (1, .int l1), (2, .ref a2), (3, .int l3), (4, .int l4)] [] 197 SH m (vPv P)
def wp_X5_measureFor_7 (l1 : Int32) (a2 : Nat) (n2 : Nat) (l3 : Int32) (m : vM) (P : vM → Prop) : Prop :=
  (((m.1 1 1) < l3 →
    P m) ∧
  (¬ (m.1 1 1) < l3 →
    ∀ m1 : vM, m1 = fillA m 136 6 (0 : Int32) →
    J_X5_measureFor_29 l1 a2 n2 l3 (0 : Int32) m1 P))
set_option maxRecDepth 20000 in
set_option maxHeartbeats 4000000 in
theorem b_X5_measureFor_7 {l1 : Int32} {a2 : Nat} {n2 : Nat} {l3 : Int32} {m : vM} {P : vM → Prop} (ha2 : SH a2 = (0, n2, vz)) (hw2 : a2 < 197) (h : wp_X5_measureFor_7 l1 a2 n2 l3 m P) : J_X5_measureFor_7 l1 a2 n2 l3 m P := by
  show vJ mX5_measureFor 3 75 197 none 7 [(0, .ref 129), (1, .int l1), (2, .ref a2), (3, .int l3)] [] 197 SH m (vPv P)
  unfold wp_X5_measureFor_7 at h
  refine vJ.iload_n dX5_measureFor_7 rfl rfl ?_
  refine vJ.aload_n dX5_measureFor_8 rfl rfl ?_
  refine vJ.getR (ci := 5) (k := 3) (j := 1) dX5_measureFor_9 sh_129 (Nat.le_of_ble_eq_true rfl) rfl inX5 (Nat.le_of_ble_eq_true rfl) rfl fl_RX5_37 ?_
  refine vJ.getI (ci := 1) (k := 1) dX5_measureFor_12 sh_1 (Nat.le_of_ble_eq_true rfl) rfl inX1 (Nat.le_of_ble_eq_true rfl) rfl fl_RX5_61 ?_
  refine vJ.icmp_gt (tgt := 110) dX5_measureFor_15 (by decide) (fun hc2 => ?_) (fun hc2 => ?_)
  · replace h := h.1 hc2
    exact vJ.vreturn dX5_measureFor_110 rfl rfl ⟨rfl, rfl, h⟩
  · replace h := h.2 hc2
    refine vJ.aload_n dX5_measureFor_18 rfl rfl ?_
    refine vJ.getR (ci := 5) (k := 6) (j := 136) dX5_measureFor_19 sh_129 (Nat.le_of_ble_eq_true rfl) rfl inX5 (Nat.le_of_ble_eq_true rfl) rfl fl_RX5_28 ?_
    refine vJ.iconst dX5_measureFor_22 ci_0 ?_
    refine vJ.callS (Yc := mJ7_fill_53178) (frc := 0) (loc := 0) (as := [.ref 136, .int (0 : Int32)]) dX5_measureFor_23 rfl ml_RX5_45 st_yJ7_fill_53178 co_J7_fill_53178 in_java_util_Arrays pl_J7_fill_53178 (Nat.le_of_ble_eq_true rfl) (Nat.le_of_ble_eq_true rfl) (Nat.le_of_ble_eq_true rfl) ?_
    refine ev_fill (a := 136) (v := (0 : Int32)) sh_136 (Nat.le_of_ble_eq_true rfl) (fun m1 em1 => ?_)
    replace h := h m1 em1
    refine vJ.iconst dX5_measureFor_26 ci_0 ?_
    refine vJ.istore (ls2 := [(0, .ref 129), (1, .int l1), (2, .ref a2), (3, .int l3), (4, .int (0 : Int32))]) dX5_measureFor_27 (Nat.le_of_ble_eq_true rfl) rfl ?_
    exact h
def wp_X5_measureFor_29 (l1 : Int32) (a2 : Nat) (n2 : Nat) (l3 : Int32) (l4 : Int32) (m : vM) (P : vM → Prop) : Prop :=
  (((m.1 1 3) ≤ l4 →
    EI_X5_addTo a2 n2 136 6 m (fun m1 =>
      J_X5_measureFor_7 l1 a2 n2 (l3 + (1 : Int32)) m1 P)) ∧
  (¬ (m.1 1 3) ≤ l4 →
    wp_X1_present l4 m (fun o11 m2 =>
      ((o11 = none →
        J_X5_measureFor_29 l1 a2 n2 l3 (l4 + (1 : Int32)) m2 P) ∧
      (∀ i3 : Nat, i3 < 40 → o11 = some i3 →
        (((m2.1 (cA i3) 4) = l3 →
          wp_X0_wanted i3 l1 m2 (fun r6 m5 =>
            EI_X1_spanOf i3 a2 n2 m5 (fun r8 m7 =>
              EI_X5_noteLack i3 (r6 - r8) m7 (fun m9 =>
                J_X5_measureFor_29 l1 a2 n2 l3 (l4 + (1 : Int32)) m9 P)))) ∧
        (¬ (m2.1 (cA i3) 4) = l3 →
          J_X5_measureFor_29 l1 a2 n2 l3 (l4 + (1 : Int32)) m2 P)))))))
set_option maxRecDepth 20000 in
set_option maxHeartbeats 4000000 in
theorem b_X5_measureFor_29 {l1 : Int32} {a2 : Nat} {n2 : Nat} {l3 : Int32} {l4 : Int32} {m : vM} {P : vM → Prop} (ha2 : SH a2 = (0, n2, vz)) (hw2 : a2 < 197) (h : wp_X5_measureFor_29 l1 a2 n2 l3 l4 m P) : J_X5_measureFor_29 l1 a2 n2 l3 l4 m P := by
  show vJ mX5_measureFor 3 75 197 none 29 [(0, .ref 129), (1, .int l1), (2, .ref a2), (3, .int l3), (4, .int l4)] [] 197 SH m (vPv P)
  unfold wp_X5_measureFor_29 at h
  refine vJ.iload dX5_measureFor_29 rfl ?_
  refine vJ.aload_n dX5_measureFor_31 rfl rfl ?_
  refine vJ.getR (ci := 5) (k := 3) (j := 1) dX5_measureFor_32 sh_129 (Nat.le_of_ble_eq_true rfl) rfl inX5 (Nat.le_of_ble_eq_true rfl) rfl fl_RX5_37 ?_
  refine vJ.getI (ci := 1) (k := 3) dX5_measureFor_35 sh_1 (Nat.le_of_ble_eq_true rfl) rfl inX1 (Nat.le_of_ble_eq_true rfl) rfl fl_RX5_67 ?_
  refine vJ.icmp_ge (tgt := 95) dX5_measureFor_38 (by decide) (fun hc12 => ?_) (fun hc12 => ?_)
  · replace h := h.1 hc12
    refine vJ.aload_n dX5_measureFor_95 rfl rfl ?_
    refine vJ.aload_n dX5_measureFor_96 rfl rfl ?_
    refine vJ.aload_n dX5_measureFor_97 rfl rfl ?_
    refine vJ.getR (ci := 5) (k := 6) (j := 136) dX5_measureFor_98 sh_129 (Nat.le_of_ble_eq_true rfl) rfl inX5 (Nat.le_of_ble_eq_true rfl) rfl fl_RX5_28 ?_
    refine vJ.callV (ci := 5) (Yc := mX5_addTo) (frc := 0) (loc := 0) (as := [.ref a2, .ref 136]) dX5_measureFor_101 rfl sh_129 (Nat.le_of_ble_eq_true rfl) rfl ml_RX5_91 im_yX5_addTo se_yX5_addTo co_X5_addTo in_TableSetter_Widths pl_X5_addTo (Nat.le_of_ble_eq_true rfl) (Nat.le_of_ble_eq_true rfl) (Nat.le_of_ble_eq_true rfl) ?_
    refine Ev.gv h (fun m1 h => ?_)
    refine vJ.iinc (v := l3 + (1 : Int32)) (ls2 := [(0, .ref 129), (1, .int l1), (2, .ref a2), (3, .int (l3 + (1 : Int32))), (4, .int l4)]) dX5_measureFor_104 rfl (congrArg (l3 + ·) ci_1) (Nat.le_of_ble_eq_true rfl) rfl ?_
    refine vJ.goto (tgt := 7) dX5_measureFor_107 (by decide) ?_
    refine vJ.sub [0, 1, 2, 3] rfl ?_
    exact h
  · replace h := h.2 hc12
    refine vJ.aload_n dX5_measureFor_41 rfl rfl ?_
    refine vJ.getR (ci := 5) (k := 3) (j := 1) dX5_measureFor_42 sh_129 (Nat.le_of_ble_eq_true rfl) rfl inX5 (Nat.le_of_ble_eq_true rfl) rfl fl_RX5_37 ?_
    refine vJ.iload dX5_measureFor_45 rfl ?_
    refine vJ.callV (ci := 1) (Yc := mX1_present) (frc := 1) (loc := 21) (as := [.int l4]) dX5_measureFor_47 rfl sh_1 (Nat.le_of_ble_eq_true rfl) rfl ml_RX5_70 im_yX1_present se_yX1_present co_X1_present in_TableSetter_Grid pl_X1_present (Nat.le_of_ble_eq_true rfl) (Nat.le_of_ble_eq_true rfl) (Nat.le_of_ble_eq_true rfl) ?_
    refine Ev.gc (e_X1_present  h) (fun m2 h => ?_) (fun i3 m2 hi4 h => ?_)
    · replace h := h.1 rfl
      refine vJ.astoreN (ls2 := [(0, .ref 129), (1, .int l1), (2, .ref a2), (3, .int l3), (4, .int l4), (5, .null)]) dX5_measureFor_50 (Nat.le_of_ble_eq_true rfl) rfl ?_
      refine vJ.aloadN dX5_measureFor_52 rfl ?_
      refine vJ.ifnullN (tgt := 89) dX5_measureFor_54 (by decide) ?_
      refine vJ.iinc (v := l4 + (1 : Int32)) (ls2 := [(0, .ref 129), (1, .int l1), (2, .ref a2), (3, .int l3), (4, .int (l4 + (1 : Int32))), (5, .null)]) dX5_measureFor_89 rfl (congrArg (l4 + ·) ci_1) (Nat.le_of_ble_eq_true rfl) rfl ?_
      refine vJ.goto (tgt := 29) dX5_measureFor_92 (by decide) ?_
      refine vJ.sub [0, 1, 2, 3, 4] rfl ?_
      exact h
    · replace h := h.2 i3 hi4 rfl
      refine vJ.astore (ls2 := [(0, .ref 129), (1, .int l1), (2, .ref a2), (3, .int l3), (4, .int l4), (5, .ref (cA i3))]) dX5_measureFor_50 (Nat.le_of_ble_eq_true rfl) rfl ?_
      refine vJ.aload dX5_measureFor_52 rfl ?_
      refine vJ.ifnull dX5_measureFor_54 ?_
      refine vJ.aload dX5_measureFor_57 rfl ?_
      refine vJ.getI (ci := 0) (k := 4) dX5_measureFor_59 (sh_C hi4) (lt_C hi4) rfl inX0 (Nat.le_of_ble_eq_true rfl) rfl fl_RX5_74 ?_
      refine vJ.iload_n dX5_measureFor_62 rfl rfl ?_
      refine vJ.icmp_ne (tgt := 89) dX5_measureFor_63 (by decide) (fun hc10 => ?_) (fun hc10 => ?_)
      · replace h := h.2 hc10
        refine vJ.iinc (v := l4 + (1 : Int32)) (ls2 := [(0, .ref 129), (1, .int l1), (2, .ref a2), (3, .int l3), (4, .int (l4 + (1 : Int32))), (5, .ref (cA i3))]) dX5_measureFor_89 rfl (congrArg (l4 + ·) ci_1) (Nat.le_of_ble_eq_true rfl) rfl ?_
        refine vJ.goto (tgt := 29) dX5_measureFor_92 (by decide) ?_
        refine vJ.sub [0, 1, 2, 3, 4] rfl ?_
        exact h
      · replace h := h.1 hc10
        refine vJ.aload_n dX5_measureFor_66 rfl rfl ?_
        refine vJ.aload dX5_measureFor_67 rfl ?_
        refine vJ.aload dX5_measureFor_69 rfl ?_
        refine vJ.iload_n dX5_measureFor_71 rfl rfl ?_
        refine vJ.callV (ci := 0) (Yc := mX0_wanted) (frc := 2) (loc := 43) (as := [.int l1]) dX5_measureFor_72 rfl (sh_C hi4) (lt_C hi4) rfl ml_RX5_79 im_yX0_wanted se_yX0_wanted co_X0_wanted in_TableSetter_Cell pl_X0_wanted (Nat.le_of_ble_eq_true rfl) (Nat.le_of_ble_eq_true rfl) (Nat.le_of_ble_eq_true rfl) ?_
        refine Ev.gi (e_X0_wanted hi4 h) (fun r6 m5 h => ?_)
        refine vJ.aload_n dX5_measureFor_75 rfl rfl ?_
        refine vJ.getR (ci := 5) (k := 3) (j := 1) dX5_measureFor_76 sh_129 (Nat.le_of_ble_eq_true rfl) rfl inX5 (Nat.le_of_ble_eq_true rfl) rfl fl_RX5_37 ?_
        refine vJ.aload dX5_measureFor_79 rfl ?_
        refine vJ.aload_n dX5_measureFor_81 rfl rfl ?_
        refine vJ.callV (ci := 1) (Yc := mX1_spanOf) (frc := 1) (loc := 21) (as := [.ref (cA i3), .ref a2]) dX5_measureFor_82 rfl sh_1 (Nat.le_of_ble_eq_true rfl) rfl ml_RX5_83 im_yX1_spanOf se_yX1_spanOf co_X1_spanOf in_TableSetter_Grid pl_X1_spanOf (Nat.le_of_ble_eq_true rfl) (Nat.le_of_ble_eq_true rfl) (Nat.le_of_ble_eq_true rfl) ?_
        refine Ev.gi h (fun r8 m7 h => ?_)
        refine vJ.isub dX5_measureFor_85 ?_
        refine vJ.callV (ci := 5) (Yc := mX5_noteLack) (frc := 2) (loc := 52) (as := [.ref (cA i3), .int (r6 - r8)]) dX5_measureFor_86 rfl sh_129 (Nat.le_of_ble_eq_true rfl) rfl ml_RX5_87 im_yX5_noteLack se_yX5_noteLack co_X5_noteLack in_TableSetter_Widths pl_X5_noteLack (Nat.le_of_ble_eq_true rfl) (Nat.le_of_ble_eq_true rfl) (Nat.le_of_ble_eq_true rfl) ?_
        refine Ev.gv h (fun m9 h => ?_)
        refine vJ.iinc (v := l4 + (1 : Int32)) (ls2 := [(0, .ref 129), (1, .int l1), (2, .ref a2), (3, .int l3), (4, .int (l4 + (1 : Int32))), (5, .ref (cA i3))]) dX5_measureFor_89 rfl (congrArg (l4 + ·) ci_1) (Nat.le_of_ble_eq_true rfl) rfl ?_
        refine vJ.goto (tgt := 29) dX5_measureFor_92 (by decide) ?_
        refine vJ.sub [0, 1, 2, 3, 4] rfl ?_
        exact h
def J_X5_measure_0  (m : vM) (P : vM → Prop) : Prop := vJ mX5_measure 4 100 197 none 0 [(0, .ref 129)] [] 197 SH m (vPv P)
def J_X5_measure_20 (l1 : Int32) (m : vM) (P : vM → Prop) : Prop := vJ mX5_measure 4 100 197 none 20 [(0, .ref 129), (1, .int l1)] [] 197 SH m (vPv P)
def wp_X5_measure_0  (m : vM) (P : vM → Prop) : Prop :=
  EI_X5_measureFor (0 : Int32) 131 6 m (fun m1 =>
    EI_X5_measureFor (1 : Int32) 132 6 m1 (fun m2 =>
      J_X5_measure_20 (0 : Int32) m2 P))
set_option maxRecDepth 20000 in
set_option maxHeartbeats 4000000 in
theorem b_X5_measure_0  {m : vM} {P : vM → Prop}  (h : wp_X5_measure_0  m P) : J_X5_measure_0  m P := by
  show vJ mX5_measure 4 100 197 none 0 [(0, .ref 129)] [] 197 SH m (vPv P)
  unfold wp_X5_measure_0 at h
  refine vJ.aload_n dX5_measure_0 rfl rfl ?_
  refine vJ.iconst dX5_measure_1 ci_0 ?_
  refine vJ.aload_n dX5_measure_2 rfl rfl ?_
  refine vJ.getR (ci := 5) (k := 1) (j := 131) dX5_measure_3 sh_129 (Nat.le_of_ble_eq_true rfl) rfl inX5 (Nat.le_of_ble_eq_true rfl) rfl fl_RX5_15 ?_
  refine vJ.callV (ci := 5) (Yc := mX5_measureFor) (frc := 3) (loc := 75) (as := [.int (0 : Int32), .ref 131]) dX5_measure_6 rfl sh_129 (Nat.le_of_ble_eq_true rfl) rfl ml_RX5_51 im_yX5_measureFor se_yX5_measureFor co_X5_measureFor in_TableSetter_Widths pl_X5_measureFor (Nat.le_of_ble_eq_true rfl) (Nat.le_of_ble_eq_true rfl) (Nat.le_of_ble_eq_true rfl) ?_
  refine Ev.gv h (fun m1 h => ?_)
  refine vJ.aload_n dX5_measure_9 rfl rfl ?_
  refine vJ.iconst dX5_measure_10 ci_1 ?_
  refine vJ.aload_n dX5_measure_11 rfl rfl ?_
  refine vJ.getR (ci := 5) (k := 2) (j := 132) dX5_measure_12 sh_129 (Nat.le_of_ble_eq_true rfl) rfl inX5 (Nat.le_of_ble_eq_true rfl) rfl fl_RX5_18 ?_
  refine vJ.callV (ci := 5) (Yc := mX5_measureFor) (frc := 3) (loc := 75) (as := [.int (1 : Int32), .ref 132]) dX5_measure_15 rfl sh_129 (Nat.le_of_ble_eq_true rfl) rfl ml_RX5_51 im_yX5_measureFor se_yX5_measureFor co_X5_measureFor in_TableSetter_Widths pl_X5_measureFor (Nat.le_of_ble_eq_true rfl) (Nat.le_of_ble_eq_true rfl) (Nat.le_of_ble_eq_true rfl) ?_
  refine Ev.gv h (fun m2 h => ?_)
  refine vJ.iconst dX5_measure_18 ci_0 ?_
  refine vJ.istore_n (ls2 := [(0, .ref 129), (1, .int (0 : Int32))]) dX5_measure_19 rfl (Nat.le_of_ble_eq_true rfl) rfl ?_
  exact h
def EI_X5_measure  (m : vM) (P : vM → Prop) : Prop := Ev mX5_measure 4 100 197 [.ref 129] 197 SH m (vPv P)
theorem f_X5_measure  {m : vM} {P : vM → Prop} (h : J_X5_measure_0  m P) : EI_X5_measure  m P := Ev.of pn_X5_measure (Nat.le_of_ble_eq_true rfl) h
def wp_X5_measure_20 (l1 : Int32) (m : vM) (P : vM → Prop) : Prop :=
  (((6 : Int32) ≤ l1 →
    P m) ∧
  (¬ (6 : Int32) ≤ l1 →
    vp_in l1 6 ∧
    vp_in l1 6 ∧
    vp_in l1 6 ∧
    ∀ m4 : vM, m4 = upI m 132 (Int32.toNatClampNeg l1) (if (m.1 132 (Int32.toNatClampNeg l1)) < (m.1 131 (Int32.toNatClampNeg l1)) then (m.1 131 (Int32.toNatClampNeg l1)) else (m.1 132 (Int32.toNatClampNeg l1))) →
    J_X5_measure_20 (l1 + (1 : Int32)) m4 P))
set_option maxRecDepth 20000 in
set_option maxHeartbeats 4000000 in
theorem b_X5_measure_20 {l1 : Int32} {m : vM} {P : vM → Prop}  (h : wp_X5_measure_20 l1 m P) : J_X5_measure_20 l1 m P := by
  show vJ mX5_measure 4 100 197 none 20 [(0, .ref 129), (1, .int l1)] [] 197 SH m (vPv P)
  unfold wp_X5_measure_20 at h
  refine vJ.iload_n dX5_measure_20 rfl rfl ?_
  refine vJ.bipush dX5_measure_21 cb_6 ?_
  refine vJ.icmp_ge (tgt := 53) dX5_measure_23 (by decide) (fun hc5 => ?_) (fun hc5 => ?_)
  · replace h := h.1 hc5
    exact vJ.vreturn dX5_measure_53 rfl rfl ⟨rfl, rfl, h⟩
  · replace h := h.2 hc5
    refine vJ.aload_n dX5_measure_26 rfl rfl ?_
    refine vJ.getR (ci := 5) (k := 2) (j := 132) dX5_measure_27 sh_129 (Nat.le_of_ble_eq_true rfl) rfl inX5 (Nat.le_of_ble_eq_true rfl) rfl fl_RX5_18 ?_
    refine vJ.iload_n dX5_measure_30 rfl rfl ?_
    refine vJ.aload_n dX5_measure_31 rfl rfl ?_
    refine vJ.getR (ci := 5) (k := 2) (j := 132) dX5_measure_32 sh_129 (Nat.le_of_ble_eq_true rfl) rfl inX5 (Nat.le_of_ble_eq_true rfl) rfl fl_RX5_18 ?_
    refine vJ.iload_n dX5_measure_35 rfl rfl ?_
    obtain ⟨hb1, h⟩ := h
    refine vJ.iald dX5_measure_36 sh_132 (Nat.le_of_ble_eq_true rfl) hb1 ?_
    refine vJ.aload_n dX5_measure_37 rfl rfl ?_
    refine vJ.getR (ci := 5) (k := 1) (j := 131) dX5_measure_38 sh_129 (Nat.le_of_ble_eq_true rfl) rfl inX5 (Nat.le_of_ble_eq_true rfl) rfl fl_RX5_15 ?_
    refine vJ.iload_n dX5_measure_41 rfl rfl ?_
    obtain ⟨hb2, h⟩ := h
    refine vJ.iald dX5_measure_42 sh_131 (Nat.le_of_ble_eq_true rfl) hb2 ?_
    refine vJ.mmax dX5_measure_43 ml_RX5_55 st_Lib_Math_max_name in_java_lang_Math co_Math_max (Nat.le_of_ble_eq_true rfl) (Nat.le_of_ble_eq_true rfl) ?_
    obtain ⟨hb3, h⟩ := h
    refine vJ.iast dX5_measure_46 sh_132 (Nat.le_of_ble_eq_true rfl) hb3 ?_
    refine vJ.topm (fun m4 em4 => ?_)
    replace h := h m4 em4
    refine vJ.iinc (v := l1 + (1 : Int32)) (ls2 := [(0, .ref 129), (1, .int (l1 + (1 : Int32)))]) dX5_measure_47 rfl (congrArg (l1 + ·) ci_1) (Nat.le_of_ble_eq_true rfl) rfl ?_
    refine vJ.goto (tgt := 20) dX5_measure_50 (by decide) ?_
    exact h
def J_X5_sumOf_0 (a1 : Nat) (n1 : Nat) (m : vM) (P : Int32 → vM → Prop) : Prop := vJ mX5_sumOf 0 0 197 none 0 [(0, .ref 129), (1, .ref a1)] [] 197 SH m (vPi P)
def J_X5_sumOf_4 (a1 : Nat) (n1 : Nat) (l2 : Int32) (l3 : Int32) (m : vM) (P : Int32 → vM → Prop) : Prop := vJ mX5_sumOf 0 0 197 none 4 [(0, .ref 129), (1, .ref a1), (2, .int l2), (3, .int l3)] [] 197 SH m (vPi P)
def wp_X5_sumOf_0 (a1 : Nat) (n1 : Nat) (m : vM) (P : Int32 → vM → Prop) : Prop :=
  J_X5_sumOf_4 a1 n1 (0 : Int32) (0 : Int32) m P
set_option maxRecDepth 20000 in
set_option maxHeartbeats 4000000 in
theorem b_X5_sumOf_0 {a1 : Nat} {n1 : Nat} {m : vM} {P : Int32 → vM → Prop} (ha1 : SH a1 = (0, n1, vz)) (hw1 : a1 < 197) (h : wp_X5_sumOf_0 a1 n1 m P) : J_X5_sumOf_0 a1 n1 m P := by
  show vJ mX5_sumOf 0 0 197 none 0 [(0, .ref 129), (1, .ref a1)] [] 197 SH m (vPi P)
  unfold wp_X5_sumOf_0 at h
  refine vJ.iconst dX5_sumOf_0 ci_0 ?_
  refine vJ.istore_n (ls2 := [(0, .ref 129), (1, .ref a1), (2, .int (0 : Int32))]) dX5_sumOf_1 rfl (Nat.le_of_ble_eq_true rfl) rfl ?_
  refine vJ.iconst dX5_sumOf_2 ci_0 ?_
  refine vJ.istore_n (ls2 := [(0, .ref 129), (1, .ref a1), (2, .int (0 : Int32)), (3, .int (0 : Int32))]) dX5_sumOf_3 rfl (Nat.le_of_ble_eq_true rfl) rfl ?_
  exact h
def EI_X5_sumOf (a1 : Nat) (n1 : Nat) (m : vM) (P : Int32 → vM → Prop) : Prop := Ev mX5_sumOf 0 0 197 [.ref 129, .ref a1] 197 SH m (vPi P)
theorem f_X5_sumOf {a1 : Nat} {n1 : Nat} {m : vM} {P : Int32 → vM → Prop} (h : J_X5_sumOf_0 a1 n1 m P) : EI_X5_sumOf a1 n1 m P := Ev.of pn_X5_sumOf (Nat.le_of_ble_eq_true rfl) h
def wp_X5_sumOf_4 (a1 : Nat) (n1 : Nat) (l2 : Int32) (l3 : Int32) (m : vM) (P : Int32 → vM → Prop) : Prop :=
  (((m.1 1 1) ≤ l3 →
    P l2 m) ∧
  (¬ (m.1 1 1) ≤ l3 →
    (((nI n1) ≤ l3 →
      P l2 m) ∧
    (¬ (nI n1) ≤ l3 →
      vp_in l3 n1 ∧
      ∀ v2 : Int32, v2 = (l2 + (m.1 a1 (Int32.toNatClampNeg l3))) →
      J_X5_sumOf_4 a1 n1 v2 (l3 + (1 : Int32)) m P))))
set_option maxRecDepth 20000 in
set_option maxHeartbeats 4000000 in
theorem b_X5_sumOf_4 {a1 : Nat} {n1 : Nat} {l2 : Int32} {l3 : Int32} {m : vM} {P : Int32 → vM → Prop} (ha1 : SH a1 = (0, n1, vz)) (hw1 : a1 < 197) (h : wp_X5_sumOf_4 a1 n1 l2 l3 m P) : J_X5_sumOf_4 a1 n1 l2 l3 m P := by
  show vJ mX5_sumOf 0 0 197 none 4 [(0, .ref 129), (1, .ref a1), (2, .int l2), (3, .int l3)] [] 197 SH m (vPi P)
  unfold wp_X5_sumOf_4 at h
  refine vJ.iload_n dX5_sumOf_4 rfl rfl ?_
  refine vJ.aload_n dX5_sumOf_5 rfl rfl ?_
  refine vJ.getR (ci := 5) (k := 3) (j := 1) dX5_sumOf_6 sh_129 (Nat.le_of_ble_eq_true rfl) rfl inX5 (Nat.le_of_ble_eq_true rfl) rfl fl_RX5_37 ?_
  refine vJ.getI (ci := 1) (k := 1) dX5_sumOf_9 sh_1 (Nat.le_of_ble_eq_true rfl) rfl inX1 (Nat.le_of_ble_eq_true rfl) rfl fl_RX5_61 ?_
  refine vJ.icmp_ge (tgt := 33) dX5_sumOf_12 (by decide) (fun hc4 => ?_) (fun hc4 => ?_)
  · replace h := h.1 hc4
    refine vJ.iload_n dX5_sumOf_33 rfl rfl ?_
    exact vJ.ireturn dX5_sumOf_34 rfl rfl rfl ⟨rfl, _, rfl, h⟩
  · replace h := h.2 hc4
    refine vJ.iload_n dX5_sumOf_15 rfl rfl ?_
    refine vJ.aload_n dX5_sumOf_16 rfl rfl ?_
    refine vJ.alen0 (v := (nI n1)) dX5_sumOf_17 ha1 hw1 rfl ?_
    refine vJ.icmp_ge (tgt := 33) dX5_sumOf_18 (by decide) (fun hc3 => ?_) (fun hc3 => ?_)
    · replace h := h.1 hc3
      refine vJ.iload_n dX5_sumOf_33 rfl rfl ?_
      exact vJ.ireturn dX5_sumOf_34 rfl rfl rfl ⟨rfl, _, rfl, h⟩
    · replace h := h.2 hc3
      refine vJ.iload_n dX5_sumOf_21 rfl rfl ?_
      refine vJ.aload_n dX5_sumOf_22 rfl rfl ?_
      refine vJ.iload_n dX5_sumOf_23 rfl rfl ?_
      obtain ⟨hb1, h⟩ := h
      refine vJ.iald dX5_sumOf_24 ha1 hw1 hb1 ?_
      refine vJ.iadd dX5_sumOf_25 ?_
      refine vJ.topi (fun v2 ev2 => ?_)
      replace h := h v2 ev2
      refine vJ.istore_n (ls2 := [(0, .ref 129), (1, .ref a1), (2, .int v2), (3, .int l3)]) dX5_sumOf_26 rfl (Nat.le_of_ble_eq_true rfl) rfl ?_
      refine vJ.iinc (v := l3 + (1 : Int32)) (ls2 := [(0, .ref 129), (1, .ref a1), (2, .int v2), (3, .int (l3 + (1 : Int32)))]) dX5_sumOf_27 rfl (congrArg (l3 + ·) ci_1) (Nat.le_of_ble_eq_true rfl) rfl ?_
      refine vJ.goto (tgt := 4) dX5_sumOf_30 (by decide) ?_
      exact h
def J_X5_spareOf_0 (l1 : Int32) (m : vM) (P : Int32 → vM → Prop) : Prop := vJ mX5_spareOf 1 23 197 none 0 [(0, .ref 129), (1, .int l1)] [] 197 SH m (vPi P)
def wp_X5_spareOf (l1 : Int32) (m : vM) (P : Int32 → vM → Prop) : Prop :=
  wp_X1_gaps m (fun r2 m1 =>
    EI_X5_sumOf 131 6 m1 (fun r4 m3 =>
      P ((l1 - r2) - r4) m3))
set_option maxRecDepth 20000 in
set_option maxHeartbeats 4000000 in
theorem b_X5_spareOf {l1 : Int32} {m : vM} {P : Int32 → vM → Prop}  (h : wp_X5_spareOf l1 m P) : J_X5_spareOf_0 l1 m P := by
  show vJ mX5_spareOf 1 23 197 none 0 [(0, .ref 129), (1, .int l1)] [] 197 SH m (vPi P)
  unfold wp_X5_spareOf at h
  refine vJ.iload_n dX5_spareOf_0 rfl rfl ?_
  refine vJ.aload_n dX5_spareOf_1 rfl rfl ?_
  refine vJ.getR (ci := 5) (k := 3) (j := 1) dX5_spareOf_2 sh_129 (Nat.le_of_ble_eq_true rfl) rfl inX5 (Nat.le_of_ble_eq_true rfl) rfl fl_RX5_37 ?_
  refine vJ.callV (ci := 1) (Yc := mX1_gaps) (frc := 0) (loc := 0) (as := []) dX5_spareOf_5 rfl sh_1 (Nat.le_of_ble_eq_true rfl) rfl ml_RX5_108 im_yX1_gaps se_yX1_gaps co_X1_gaps in_TableSetter_Grid pl_X1_gaps (Nat.le_of_ble_eq_true rfl) (Nat.le_of_ble_eq_true rfl) (Nat.le_of_ble_eq_true rfl) ?_
  refine Ev.gi (e_X1_gaps  h) (fun r2 m1 h => ?_)
  refine vJ.isub dX5_spareOf_8 ?_
  refine vJ.aload_n dX5_spareOf_9 rfl rfl ?_
  refine vJ.aload_n dX5_spareOf_10 rfl rfl ?_
  refine vJ.getR (ci := 5) (k := 1) (j := 131) dX5_spareOf_11 sh_129 (Nat.le_of_ble_eq_true rfl) rfl inX5 (Nat.le_of_ble_eq_true rfl) rfl fl_RX5_15 ?_
  refine vJ.callV (ci := 5) (Yc := mX5_sumOf) (frc := 0) (loc := 0) (as := [.ref 131]) dX5_spareOf_14 rfl sh_129 (Nat.le_of_ble_eq_true rfl) rfl ml_RX5_112 im_yX5_sumOf se_yX5_sumOf co_X5_sumOf in_TableSetter_Widths pl_X5_sumOf (Nat.le_of_ble_eq_true rfl) (Nat.le_of_ble_eq_true rfl) (Nat.le_of_ble_eq_true rfl) ?_
  refine Ev.gi h (fun r4 m3 h => ?_)
  refine vJ.isub dX5_spareOf_17 ?_
  exact vJ.ireturn dX5_spareOf_18 rfl rfl rfl ⟨rfl, _, rfl, h⟩
def EI_X5_spareOf (l1 : Int32) (m : vM) (P : Int32 → vM → Prop) : Prop := Ev mX5_spareOf 1 23 197 [.ref 129, .int l1] 197 SH m (vPi P)
theorem f_X5_spareOf {l1 : Int32} {m : vM} {P : Int32 → vM → Prop} (h : J_X5_spareOf_0 l1 m P) : EI_X5_spareOf l1 m P := Ev.of pn_X5_spareOf (Nat.le_of_ble_eq_true rfl) h
theorem e_X5_spareOf {l1 : Int32} {m : vM} {P : Int32 → vM → Prop}  (h : wp_X5_spareOf l1 m P) : EI_X5_spareOf l1 m P := f_X5_spareOf (b_X5_spareOf  h)
def J_X5_spread_0 (l1 : Int32) (m : vM) (P : vM → Prop) : Prop := vJ mX5_spread 2 52 197 none 0 [(0, .ref 129), (1, .int l1)] [] 197 SH m (vPv P)
def J_X5_spread_67 (l1 : Int32) (l3 : Int32) (m : vM) (P : vM → Prop) : Prop := vJ mX5_spread 2 52 197 none 67 [(0, .ref 129), (1, .int l1), (3, .int l3)] [] 197 SH m (vPv P)
def wp_X5_spread_0 (l1 : Int32) (m : vM) (P : vM → Prop) : Prop :=
  EI_X5_sumOf 132 6 m (fun r2 m1 =>
    EI_X5_sumOf 131 6 m1 (fun r4 m3 =>
      ∀ v5 : Int32, v5 = (l1 - (r2 - r4)) →
      ((v5 ≤ (0 : Int32) →
        J_X5_spread_67 l1 (0 : Int32) m3 P) ∧
      (¬ v5 ≤ (0 : Int32) →
        EI_X4_divide v5 2 6 (0 : Int32) (m3.1 1 1) m3 (fun m6 =>
          (¬ (0 : Int32) < 0) ∧ (¬ (0 : Int32) < 0) ∧ (¬ (6 : Int32) < 0) ∧ ((Int32.toNatClampNeg (0 : Int32)) + (Int32.toNatClampNeg (6 : Int32)) ≤ 6) ∧ ((Int32.toNatClampNeg (0 : Int32)) + (Int32.toNatClampNeg (6 : Int32)) ≤ 6) ∧
          ∀ m12 : vM, m12 = upA m6 130 (va_cpy (m6.1 132) (m6.1 130) (Int32.toNatClampNeg (0 : Int32)) (Int32.toNatClampNeg (0 : Int32)) (Int32.toNatClampNeg (6 : Int32))) →
          EI_X5_addTo 130 6 134 6 m12 (fun m13 =>
            P m13))))))
set_option maxRecDepth 20000 in
set_option maxHeartbeats 4000000 in
theorem b_X5_spread_0 {l1 : Int32} {m : vM} {P : vM → Prop}  (h : wp_X5_spread_0 l1 m P) : J_X5_spread_0 l1 m P := by
  show vJ mX5_spread 2 52 197 none 0 [(0, .ref 129), (1, .int l1)] [] 197 SH m (vPv P)
  unfold wp_X5_spread_0 at h
  refine vJ.iload_n dX5_spread_0 rfl rfl ?_
  refine vJ.aload_n dX5_spread_1 rfl rfl ?_
  refine vJ.aload_n dX5_spread_2 rfl rfl ?_
  refine vJ.getR (ci := 5) (k := 2) (j := 132) dX5_spread_3 sh_129 (Nat.le_of_ble_eq_true rfl) rfl inX5 (Nat.le_of_ble_eq_true rfl) rfl fl_RX5_18 ?_
  refine vJ.callV (ci := 5) (Yc := mX5_sumOf) (frc := 0) (loc := 0) (as := [.ref 132]) dX5_spread_6 rfl sh_129 (Nat.le_of_ble_eq_true rfl) rfl ml_RX5_112 im_yX5_sumOf se_yX5_sumOf co_X5_sumOf in_TableSetter_Widths pl_X5_sumOf (Nat.le_of_ble_eq_true rfl) (Nat.le_of_ble_eq_true rfl) (Nat.le_of_ble_eq_true rfl) ?_
  refine Ev.gi h (fun r2 m1 h => ?_)
  refine vJ.aload_n dX5_spread_9 rfl rfl ?_
  refine vJ.aload_n dX5_spread_10 rfl rfl ?_
  refine vJ.getR (ci := 5) (k := 1) (j := 131) dX5_spread_11 sh_129 (Nat.le_of_ble_eq_true rfl) rfl inX5 (Nat.le_of_ble_eq_true rfl) rfl fl_RX5_15 ?_
  refine vJ.callV (ci := 5) (Yc := mX5_sumOf) (frc := 0) (loc := 0) (as := [.ref 131]) dX5_spread_14 rfl sh_129 (Nat.le_of_ble_eq_true rfl) rfl ml_RX5_112 im_yX5_sumOf se_yX5_sumOf co_X5_sumOf in_TableSetter_Widths pl_X5_sumOf (Nat.le_of_ble_eq_true rfl) (Nat.le_of_ble_eq_true rfl) (Nat.le_of_ble_eq_true rfl) ?_
  refine Ev.gi h (fun r4 m3 h => ?_)
  refine vJ.isub dX5_spread_17 ?_
  refine vJ.isub dX5_spread_18 ?_
  refine vJ.topi (fun v5 ev5 => ?_)
  replace h := h v5 ev5
  refine vJ.istore_n (ls2 := [(0, .ref 129), (1, .int l1), (2, .int v5)]) dX5_spread_19 rfl (Nat.le_of_ble_eq_true rfl) rfl ?_
  refine vJ.iload_n dX5_spread_20 rfl rfl ?_
  refine vJ.if_le (tgt := 65) dX5_spread_21 (by decide) (fun hc14 => ?_) (fun hc14 => ?_)
  · replace h := h.1 hc14
    refine vJ.iconst dX5_spread_65 ci_0 ?_
    refine vJ.istore_n (ls2 := [(0, .ref 129), (1, .int l1), (2, .int v5), (3, .int (0 : Int32))]) dX5_spread_66 rfl (Nat.le_of_ble_eq_true rfl) rfl ?_
    refine vJ.sub [0, 1, 3] rfl ?_
    exact h
  · replace h := h.2 hc14
    refine vJ.aload_n dX5_spread_24 rfl rfl ?_
    refine vJ.getR (ci := 5) (k := 5) (j := 133) dX5_spread_25 sh_129 (Nat.le_of_ble_eq_true rfl) rfl inX5 (Nat.le_of_ble_eq_true rfl) rfl fl_RX5_24 ?_
    refine vJ.iload_n dX5_spread_28 rfl rfl ?_
    refine vJ.aload_n dX5_spread_29 rfl rfl ?_
    refine vJ.getR (ci := 5) (k := 3) (j := 1) dX5_spread_30 sh_129 (Nat.le_of_ble_eq_true rfl) rfl inX5 (Nat.le_of_ble_eq_true rfl) rfl fl_RX5_37 ?_
    refine vJ.getR (ci := 1) (k := 4) (j := 2) dX5_spread_33 sh_1 (Nat.le_of_ble_eq_true rfl) rfl inX1 (Nat.le_of_ble_eq_true rfl) rfl fl_RX5_95 ?_
    refine vJ.iconst dX5_spread_36 ci_0 ?_
    refine vJ.aload_n dX5_spread_37 rfl rfl ?_
    refine vJ.getR (ci := 5) (k := 3) (j := 1) dX5_spread_38 sh_129 (Nat.le_of_ble_eq_true rfl) rfl inX5 (Nat.le_of_ble_eq_true rfl) rfl fl_RX5_37 ?_
    refine vJ.getI (ci := 1) (k := 1) dX5_spread_41 sh_1 (Nat.le_of_ble_eq_true rfl) rfl inX1 (Nat.le_of_ble_eq_true rfl) rfl fl_RX5_61 ?_
    refine vJ.callV (ci := 4) (Yc := mX4_divide) (frc := 1) (loc := 24) (as := [.int v5, .ref 2, .int (0 : Int32), .int (m3.1 1 1)]) dX5_spread_44 rfl sh_133 (Nat.le_of_ble_eq_true rfl) rfl ml_RX5_101 im_yX4_divide se_yX4_divide co_X4_divide in_TableSetter_Share pl_X4_divide (Nat.le_of_ble_eq_true rfl) (Nat.le_of_ble_eq_true rfl) (Nat.le_of_ble_eq_true rfl) ?_
    refine Ev.gv h (fun m6 h => ?_)
    refine vJ.aload_n dX5_spread_47 rfl rfl ?_
    refine vJ.getR (ci := 5) (k := 2) (j := 132) dX5_spread_48 sh_129 (Nat.le_of_ble_eq_true rfl) rfl inX5 (Nat.le_of_ble_eq_true rfl) rfl fl_RX5_18 ?_
    refine vJ.iconst dX5_spread_51 ci_0 ?_
    refine vJ.aload_n dX5_spread_52 rfl rfl ?_
    refine vJ.getR (ci := 5) (k := 0) (j := 130) dX5_spread_53 sh_129 (Nat.le_of_ble_eq_true rfl) rfl inX5 (Nat.le_of_ble_eq_true rfl) rfl fl_RX5_9 ?_
    refine vJ.iconst dX5_spread_56 ci_0 ?_
    refine vJ.bipush dX5_spread_57 cb_6 ?_
    obtain ⟨hq7, hq8, hq9, hq10, hq11, h⟩ := h
    refine vJ.acopy dX5_spread_59 sh_130 sh_132 (Nat.le_of_ble_eq_true rfl) (Nat.le_of_ble_eq_true rfl) hq7 hq8 hq9 hq10 hq11 ml_RX5_116 na_arraycopyName st_arraycopyName in_java_lang_System (Nat.le_of_ble_eq_true rfl) (Nat.le_of_ble_eq_true rfl) ?_
    refine vJ.topm (fun m12 em12 => ?_)
    replace h := h m12 em12
    refine vJ.goto (tgt := 154) dX5_spread_62 (by decide) ?_
    refine vJ.aload_n dX5_spread_154 rfl rfl ?_
    refine vJ.aload_n dX5_spread_155 rfl rfl ?_
    refine vJ.getR (ci := 5) (k := 0) (j := 130) dX5_spread_156 sh_129 (Nat.le_of_ble_eq_true rfl) rfl inX5 (Nat.le_of_ble_eq_true rfl) rfl fl_RX5_9 ?_
    refine vJ.aload_n dX5_spread_159 rfl rfl ?_
    refine vJ.getR (ci := 5) (k := 5) (j := 133) dX5_spread_160 sh_129 (Nat.le_of_ble_eq_true rfl) rfl inX5 (Nat.le_of_ble_eq_true rfl) rfl fl_RX5_24 ?_
    refine vJ.getR (ci := 4) (k := 0) (j := 134) dX5_spread_163 sh_133 (Nat.le_of_ble_eq_true rfl) rfl inX4 (Nat.le_of_ble_eq_true rfl) rfl fl_RX5_105 ?_
    refine vJ.callV (ci := 5) (Yc := mX5_addTo) (frc := 0) (loc := 0) (as := [.ref 130, .ref 134]) dX5_spread_166 rfl sh_129 (Nat.le_of_ble_eq_true rfl) rfl ml_RX5_91 im_yX5_addTo se_yX5_addTo co_X5_addTo in_TableSetter_Widths pl_X5_addTo (Nat.le_of_ble_eq_true rfl) (Nat.le_of_ble_eq_true rfl) (Nat.le_of_ble_eq_true rfl) ?_
    refine Ev.gv h (fun m13 h => ?_)
    exact vJ.vreturn dX5_spread_169 rfl rfl ⟨rfl, rfl, h⟩
def EI_X5_spread (l1 : Int32) (m : vM) (P : vM → Prop) : Prop := Ev mX5_spread 2 52 197 [.ref 129, .int l1] 197 SH m (vPv P)
theorem f_X5_spread {l1 : Int32} {m : vM} {P : vM → Prop} (h : J_X5_spread_0 l1 m P) : EI_X5_spread l1 m P := Ev.of pn_X5_spread (Nat.le_of_ble_eq_true rfl) h
def wp_X5_spread_67 (l1 : Int32) (l3 : Int32) (m : vM) (P : vM → Prop) : Prop :=
  (((6 : Int32) ≤ l3 →
    EI_X5_sumOf 137 6 m (fun r2 m1 =>
      ((r2 ≤ (0 : Int32) →
        EI_X4_divide l1 2 6 (0 : Int32) (m1.1 1 1) m1 (fun m3 =>
          (¬ (0 : Int32) < 0) ∧ (¬ (0 : Int32) < 0) ∧ (¬ (6 : Int32) < 0) ∧ ((Int32.toNatClampNeg (0 : Int32)) + (Int32.toNatClampNeg (6 : Int32)) ≤ 6) ∧ ((Int32.toNatClampNeg (0 : Int32)) + (Int32.toNatClampNeg (6 : Int32)) ≤ 6) ∧
          ∀ m9 : vM, m9 = upA m3 130 (va_cpy (m3.1 131) (m3.1 130) (Int32.toNatClampNeg (0 : Int32)) (Int32.toNatClampNeg (0 : Int32)) (Int32.toNatClampNeg (6 : Int32))) →
          EI_X5_addTo 130 6 134 6 m9 (fun m10 =>
            P m10))) ∧
      (¬ r2 ≤ (0 : Int32) →
        EI_X4_divide l1 137 6 (0 : Int32) (m1.1 1 1) m1 (fun m11 =>
          (¬ (0 : Int32) < 0) ∧ (¬ (0 : Int32) < 0) ∧ (¬ (6 : Int32) < 0) ∧ ((Int32.toNatClampNeg (0 : Int32)) + (Int32.toNatClampNeg (6 : Int32)) ≤ 6) ∧ ((Int32.toNatClampNeg (0 : Int32)) + (Int32.toNatClampNeg (6 : Int32)) ≤ 6) ∧
          ∀ m17 : vM, m17 = upA m11 130 (va_cpy (m11.1 131) (m11.1 130) (Int32.toNatClampNeg (0 : Int32)) (Int32.toNatClampNeg (0 : Int32)) (Int32.toNatClampNeg (6 : Int32))) →
          EI_X5_addTo 130 6 134 6 m17 (fun m18 =>
            P m18)))))) ∧
  (¬ (6 : Int32) ≤ l3 →
    vp_in l3 6 ∧
    vp_in l3 6 ∧
    vp_in l3 6 ∧
    ∀ m23 : vM, m23 = upI m 137 (Int32.toNatClampNeg l3) ((m.1 132 (Int32.toNatClampNeg l3)) - (m.1 131 (Int32.toNatClampNeg l3))) →
    J_X5_spread_67 l1 (l3 + (1 : Int32)) m23 P))
set_option maxRecDepth 20000 in
set_option maxHeartbeats 4000000 in
theorem b_X5_spread_67 {l1 : Int32} {l3 : Int32} {m : vM} {P : vM → Prop}  (h : wp_X5_spread_67 l1 l3 m P) : J_X5_spread_67 l1 l3 m P := by
  show vJ mX5_spread 2 52 197 none 67 [(0, .ref 129), (1, .int l1), (3, .int l3)] [] 197 SH m (vPv P)
  unfold wp_X5_spread_67 at h
  refine vJ.iload_n dX5_spread_67 rfl rfl ?_
  refine vJ.bipush dX5_spread_68 cb_6 ?_
  refine vJ.icmp_ge (tgt := 98) dX5_spread_70 (by decide) (fun hc24 => ?_) (fun hc24 => ?_)
  · replace h := h.1 hc24
    refine vJ.aload_n dX5_spread_98 rfl rfl ?_
    refine vJ.getR (ci := 5) (k := 5) (j := 133) dX5_spread_99 sh_129 (Nat.le_of_ble_eq_true rfl) rfl inX5 (Nat.le_of_ble_eq_true rfl) rfl fl_RX5_24 ?_
    refine vJ.iload_n dX5_spread_102 rfl rfl ?_
    refine vJ.aload_n dX5_spread_103 rfl rfl ?_
    refine vJ.aload_n dX5_spread_104 rfl rfl ?_
    refine vJ.getR (ci := 5) (k := 7) (j := 137) dX5_spread_105 sh_129 (Nat.le_of_ble_eq_true rfl) rfl inX5 (Nat.le_of_ble_eq_true rfl) rfl fl_RX5_31 ?_
    refine vJ.callV (ci := 5) (Yc := mX5_sumOf) (frc := 0) (loc := 0) (as := [.ref 137]) dX5_spread_108 rfl sh_129 (Nat.le_of_ble_eq_true rfl) rfl ml_RX5_112 im_yX5_sumOf se_yX5_sumOf co_X5_sumOf in_TableSetter_Widths pl_X5_sumOf (Nat.le_of_ble_eq_true rfl) (Nat.le_of_ble_eq_true rfl) (Nat.le_of_ble_eq_true rfl) ?_
    refine Ev.gi h (fun r2 m1 h => ?_)
    refine vJ.if_le (tgt := 121) dX5_spread_111 (by decide) (fun hc19 => ?_) (fun hc19 => ?_)
    · replace h := h.1 hc19
      refine vJ.aload_n dX5_spread_121 rfl rfl ?_
      refine vJ.getR (ci := 5) (k := 3) (j := 1) dX5_spread_122 sh_129 (Nat.le_of_ble_eq_true rfl) rfl inX5 (Nat.le_of_ble_eq_true rfl) rfl fl_RX5_37 ?_
      refine vJ.getR (ci := 1) (k := 4) (j := 2) dX5_spread_125 sh_1 (Nat.le_of_ble_eq_true rfl) rfl inX1 (Nat.le_of_ble_eq_true rfl) rfl fl_RX5_95 ?_
      refine vJ.iconst dX5_spread_128 ci_0 ?_
      refine vJ.aload_n dX5_spread_129 rfl rfl ?_
      refine vJ.getR (ci := 5) (k := 3) (j := 1) dX5_spread_130 sh_129 (Nat.le_of_ble_eq_true rfl) rfl inX5 (Nat.le_of_ble_eq_true rfl) rfl fl_RX5_37 ?_
      refine vJ.getI (ci := 1) (k := 1) dX5_spread_133 sh_1 (Nat.le_of_ble_eq_true rfl) rfl inX1 (Nat.le_of_ble_eq_true rfl) rfl fl_RX5_61 ?_
      refine vJ.callV (ci := 4) (Yc := mX4_divide) (frc := 1) (loc := 24) (as := [.int l1, .ref 2, .int (0 : Int32), .int (m1.1 1 1)]) dX5_spread_136 rfl sh_133 (Nat.le_of_ble_eq_true rfl) rfl ml_RX5_101 im_yX4_divide se_yX4_divide co_X4_divide in_TableSetter_Share pl_X4_divide (Nat.le_of_ble_eq_true rfl) (Nat.le_of_ble_eq_true rfl) (Nat.le_of_ble_eq_true rfl) ?_
      refine Ev.gv h (fun m3 h => ?_)
      refine vJ.aload_n dX5_spread_139 rfl rfl ?_
      refine vJ.getR (ci := 5) (k := 1) (j := 131) dX5_spread_140 sh_129 (Nat.le_of_ble_eq_true rfl) rfl inX5 (Nat.le_of_ble_eq_true rfl) rfl fl_RX5_15 ?_
      refine vJ.iconst dX5_spread_143 ci_0 ?_
      refine vJ.aload_n dX5_spread_144 rfl rfl ?_
      refine vJ.getR (ci := 5) (k := 0) (j := 130) dX5_spread_145 sh_129 (Nat.le_of_ble_eq_true rfl) rfl inX5 (Nat.le_of_ble_eq_true rfl) rfl fl_RX5_9 ?_
      refine vJ.iconst dX5_spread_148 ci_0 ?_
      refine vJ.bipush dX5_spread_149 cb_6 ?_
      obtain ⟨hq4, hq5, hq6, hq7, hq8, h⟩ := h
      refine vJ.acopy dX5_spread_151 sh_130 sh_131 (Nat.le_of_ble_eq_true rfl) (Nat.le_of_ble_eq_true rfl) hq4 hq5 hq6 hq7 hq8 ml_RX5_116 na_arraycopyName st_arraycopyName in_java_lang_System (Nat.le_of_ble_eq_true rfl) (Nat.le_of_ble_eq_true rfl) ?_
      refine vJ.topm (fun m9 em9 => ?_)
      replace h := h m9 em9
      refine vJ.aload_n dX5_spread_154 rfl rfl ?_
      refine vJ.aload_n dX5_spread_155 rfl rfl ?_
      refine vJ.getR (ci := 5) (k := 0) (j := 130) dX5_spread_156 sh_129 (Nat.le_of_ble_eq_true rfl) rfl inX5 (Nat.le_of_ble_eq_true rfl) rfl fl_RX5_9 ?_
      refine vJ.aload_n dX5_spread_159 rfl rfl ?_
      refine vJ.getR (ci := 5) (k := 5) (j := 133) dX5_spread_160 sh_129 (Nat.le_of_ble_eq_true rfl) rfl inX5 (Nat.le_of_ble_eq_true rfl) rfl fl_RX5_24 ?_
      refine vJ.getR (ci := 4) (k := 0) (j := 134) dX5_spread_163 sh_133 (Nat.le_of_ble_eq_true rfl) rfl inX4 (Nat.le_of_ble_eq_true rfl) rfl fl_RX5_105 ?_
      refine vJ.callV (ci := 5) (Yc := mX5_addTo) (frc := 0) (loc := 0) (as := [.ref 130, .ref 134]) dX5_spread_166 rfl sh_129 (Nat.le_of_ble_eq_true rfl) rfl ml_RX5_91 im_yX5_addTo se_yX5_addTo co_X5_addTo in_TableSetter_Widths pl_X5_addTo (Nat.le_of_ble_eq_true rfl) (Nat.le_of_ble_eq_true rfl) (Nat.le_of_ble_eq_true rfl) ?_
      refine Ev.gv h (fun m10 h => ?_)
      exact vJ.vreturn dX5_spread_169 rfl rfl ⟨rfl, rfl, h⟩
    · replace h := h.2 hc19
      refine vJ.aload_n dX5_spread_114 rfl rfl ?_
      refine vJ.getR (ci := 5) (k := 7) (j := 137) dX5_spread_115 sh_129 (Nat.le_of_ble_eq_true rfl) rfl inX5 (Nat.le_of_ble_eq_true rfl) rfl fl_RX5_31 ?_
      refine vJ.goto (tgt := 128) dX5_spread_118 (by decide) ?_
      refine vJ.iconst dX5_spread_128 ci_0 ?_
      refine vJ.aload_n dX5_spread_129 rfl rfl ?_
      refine vJ.getR (ci := 5) (k := 3) (j := 1) dX5_spread_130 sh_129 (Nat.le_of_ble_eq_true rfl) rfl inX5 (Nat.le_of_ble_eq_true rfl) rfl fl_RX5_37 ?_
      refine vJ.getI (ci := 1) (k := 1) dX5_spread_133 sh_1 (Nat.le_of_ble_eq_true rfl) rfl inX1 (Nat.le_of_ble_eq_true rfl) rfl fl_RX5_61 ?_
      refine vJ.callV (ci := 4) (Yc := mX4_divide) (frc := 1) (loc := 24) (as := [.int l1, .ref 137, .int (0 : Int32), .int (m1.1 1 1)]) dX5_spread_136 rfl sh_133 (Nat.le_of_ble_eq_true rfl) rfl ml_RX5_101 im_yX4_divide se_yX4_divide co_X4_divide in_TableSetter_Share pl_X4_divide (Nat.le_of_ble_eq_true rfl) (Nat.le_of_ble_eq_true rfl) (Nat.le_of_ble_eq_true rfl) ?_
      refine Ev.gv h (fun m11 h => ?_)
      refine vJ.aload_n dX5_spread_139 rfl rfl ?_
      refine vJ.getR (ci := 5) (k := 1) (j := 131) dX5_spread_140 sh_129 (Nat.le_of_ble_eq_true rfl) rfl inX5 (Nat.le_of_ble_eq_true rfl) rfl fl_RX5_15 ?_
      refine vJ.iconst dX5_spread_143 ci_0 ?_
      refine vJ.aload_n dX5_spread_144 rfl rfl ?_
      refine vJ.getR (ci := 5) (k := 0) (j := 130) dX5_spread_145 sh_129 (Nat.le_of_ble_eq_true rfl) rfl inX5 (Nat.le_of_ble_eq_true rfl) rfl fl_RX5_9 ?_
      refine vJ.iconst dX5_spread_148 ci_0 ?_
      refine vJ.bipush dX5_spread_149 cb_6 ?_
      obtain ⟨hq12, hq13, hq14, hq15, hq16, h⟩ := h
      refine vJ.acopy dX5_spread_151 sh_130 sh_131 (Nat.le_of_ble_eq_true rfl) (Nat.le_of_ble_eq_true rfl) hq12 hq13 hq14 hq15 hq16 ml_RX5_116 na_arraycopyName st_arraycopyName in_java_lang_System (Nat.le_of_ble_eq_true rfl) (Nat.le_of_ble_eq_true rfl) ?_
      refine vJ.topm (fun m17 em17 => ?_)
      replace h := h m17 em17
      refine vJ.aload_n dX5_spread_154 rfl rfl ?_
      refine vJ.aload_n dX5_spread_155 rfl rfl ?_
      refine vJ.getR (ci := 5) (k := 0) (j := 130) dX5_spread_156 sh_129 (Nat.le_of_ble_eq_true rfl) rfl inX5 (Nat.le_of_ble_eq_true rfl) rfl fl_RX5_9 ?_
      refine vJ.aload_n dX5_spread_159 rfl rfl ?_
      refine vJ.getR (ci := 5) (k := 5) (j := 133) dX5_spread_160 sh_129 (Nat.le_of_ble_eq_true rfl) rfl inX5 (Nat.le_of_ble_eq_true rfl) rfl fl_RX5_24 ?_
      refine vJ.getR (ci := 4) (k := 0) (j := 134) dX5_spread_163 sh_133 (Nat.le_of_ble_eq_true rfl) rfl inX4 (Nat.le_of_ble_eq_true rfl) rfl fl_RX5_105 ?_
      refine vJ.callV (ci := 5) (Yc := mX5_addTo) (frc := 0) (loc := 0) (as := [.ref 130, .ref 134]) dX5_spread_166 rfl sh_129 (Nat.le_of_ble_eq_true rfl) rfl ml_RX5_91 im_yX5_addTo se_yX5_addTo co_X5_addTo in_TableSetter_Widths pl_X5_addTo (Nat.le_of_ble_eq_true rfl) (Nat.le_of_ble_eq_true rfl) (Nat.le_of_ble_eq_true rfl) ?_
      refine Ev.gv h (fun m18 h => ?_)
      exact vJ.vreturn dX5_spread_169 rfl rfl ⟨rfl, rfl, h⟩
  · replace h := h.2 hc24
    refine vJ.aload_n dX5_spread_73 rfl rfl ?_
    refine vJ.getR (ci := 5) (k := 7) (j := 137) dX5_spread_74 sh_129 (Nat.le_of_ble_eq_true rfl) rfl inX5 (Nat.le_of_ble_eq_true rfl) rfl fl_RX5_31 ?_
    refine vJ.iload_n dX5_spread_77 rfl rfl ?_
    refine vJ.aload_n dX5_spread_78 rfl rfl ?_
    refine vJ.getR (ci := 5) (k := 2) (j := 132) dX5_spread_79 sh_129 (Nat.le_of_ble_eq_true rfl) rfl inX5 (Nat.le_of_ble_eq_true rfl) rfl fl_RX5_18 ?_
    refine vJ.iload_n dX5_spread_82 rfl rfl ?_
    obtain ⟨hb20, h⟩ := h
    refine vJ.iald dX5_spread_83 sh_132 (Nat.le_of_ble_eq_true rfl) hb20 ?_
    refine vJ.aload_n dX5_spread_84 rfl rfl ?_
    refine vJ.getR (ci := 5) (k := 1) (j := 131) dX5_spread_85 sh_129 (Nat.le_of_ble_eq_true rfl) rfl inX5 (Nat.le_of_ble_eq_true rfl) rfl fl_RX5_15 ?_
    refine vJ.iload_n dX5_spread_88 rfl rfl ?_
    obtain ⟨hb21, h⟩ := h
    refine vJ.iald dX5_spread_89 sh_131 (Nat.le_of_ble_eq_true rfl) hb21 ?_
    refine vJ.isub dX5_spread_90 ?_
    obtain ⟨hb22, h⟩ := h
    refine vJ.iast dX5_spread_91 sh_137 (Nat.le_of_ble_eq_true rfl) hb22 ?_
    refine vJ.topm (fun m23 em23 => ?_)
    replace h := h m23 em23
    refine vJ.iinc (v := l3 + (1 : Int32)) (ls2 := [(0, .ref 129), (1, .int l1), (3, .int (l3 + (1 : Int32)))]) dX5_spread_92 rfl (congrArg (l3 + ·) ci_1) (Nat.le_of_ble_eq_true rfl) rfl ?_
    refine vJ.goto (tgt := 67) dX5_spread_95 (by decide) ?_
    exact h
def J_X5_addToLast_0 (l1 : Int32) (m : vM) (P : vM → Prop) : Prop := vJ mX5_addToLast 0 0 197 none 0 [(0, .ref 129), (1, .int l1)] [] 197 SH m (vPv P)
def wp_X5_addToLast (l1 : Int32) (m : vM) (P : vM → Prop) : Prop :=
  ∀ v1 : Int32, v1 = ((m.1 1 1) - (1 : Int32)) →
  ((v1 < (0 : Int32) →
    P m) ∧
  (¬ v1 < (0 : Int32) →
    (((6 : Int32) ≤ v1 →
      P m) ∧
    (¬ (6 : Int32) ≤ v1 →
      vp_in v1 6 ∧
      vp_in v1 6 ∧
      ∀ m4 : vM, m4 = upI m 138 (Int32.toNatClampNeg v1) ((m.1 138 (Int32.toNatClampNeg v1)) + l1) →
      P m4))))
set_option maxRecDepth 20000 in
set_option maxHeartbeats 4000000 in
theorem b_X5_addToLast {l1 : Int32} {m : vM} {P : vM → Prop}  (h : wp_X5_addToLast l1 m P) : J_X5_addToLast_0 l1 m P := by
  show vJ mX5_addToLast 0 0 197 none 0 [(0, .ref 129), (1, .int l1)] [] 197 SH m (vPv P)
  unfold wp_X5_addToLast at h
  refine vJ.aload_n dX5_addToLast_0 rfl rfl ?_
  refine vJ.getR (ci := 5) (k := 3) (j := 1) dX5_addToLast_1 sh_129 (Nat.le_of_ble_eq_true rfl) rfl inX5 (Nat.le_of_ble_eq_true rfl) rfl fl_RX5_37 ?_
  refine vJ.getI (ci := 1) (k := 1) dX5_addToLast_4 sh_1 (Nat.le_of_ble_eq_true rfl) rfl inX1 (Nat.le_of_ble_eq_true rfl) rfl fl_RX5_61 ?_
  refine vJ.iconst dX5_addToLast_7 ci_1 ?_
  refine vJ.isub dX5_addToLast_8 ?_
  refine vJ.topi (fun v1 ev1 => ?_)
  replace h := h v1 ev1
  refine vJ.istore_n (ls2 := [(0, .ref 129), (1, .int l1), (2, .int v1)]) dX5_addToLast_9 rfl (Nat.le_of_ble_eq_true rfl) rfl ?_
  refine vJ.iload_n dX5_addToLast_10 rfl rfl ?_
  refine vJ.if_lt (tgt := 33) dX5_addToLast_11 (by decide) (fun hc6 => ?_) (fun hc6 => ?_)
  · replace h := h.1 hc6
    exact vJ.vreturn dX5_addToLast_33 rfl rfl ⟨rfl, rfl, h⟩
  · replace h := h.2 hc6
    refine vJ.iload_n dX5_addToLast_14 rfl rfl ?_
    refine vJ.aload_n dX5_addToLast_15 rfl rfl ?_
    refine vJ.getR (ci := 5) (k := 8) (j := 138) dX5_addToLast_16 sh_129 (Nat.le_of_ble_eq_true rfl) rfl inX5 (Nat.le_of_ble_eq_true rfl) rfl fl_RX5_34 ?_
    refine vJ.alen0 (v := (6 : Int32)) dX5_addToLast_19 sh_138 (Nat.le_of_ble_eq_true rfl) rfl ?_
    refine vJ.icmp_ge (tgt := 33) dX5_addToLast_20 (by decide) (fun hc5 => ?_) (fun hc5 => ?_)
    · replace h := h.1 hc5
      exact vJ.vreturn dX5_addToLast_33 rfl rfl ⟨rfl, rfl, h⟩
    · replace h := h.2 hc5
      refine vJ.aload_n dX5_addToLast_23 rfl rfl ?_
      refine vJ.getR (ci := 5) (k := 8) (j := 138) dX5_addToLast_24 sh_129 (Nat.le_of_ble_eq_true rfl) rfl inX5 (Nat.le_of_ble_eq_true rfl) rfl fl_RX5_34 ?_
      refine vJ.iload_n dX5_addToLast_27 rfl rfl ?_
      refine vJ.dup2 dX5_addToLast_28 rfl rfl ?_
      obtain ⟨hb2, h⟩ := h
      refine vJ.iald dX5_addToLast_29 sh_138 (Nat.le_of_ble_eq_true rfl) hb2 ?_
      refine vJ.iload_n dX5_addToLast_30 rfl rfl ?_
      refine vJ.iadd dX5_addToLast_31 ?_
      obtain ⟨hb3, h⟩ := h
      refine vJ.iast dX5_addToLast_32 sh_138 (Nat.le_of_ble_eq_true rfl) hb3 ?_
      refine vJ.topm (fun m4 em4 => ?_)
      replace h := h m4 em4
      exact vJ.vreturn dX5_addToLast_33 rfl rfl ⟨rfl, rfl, h⟩
def EI_X5_addToLast (l1 : Int32) (m : vM) (P : vM → Prop) : Prop := Ev mX5_addToLast 0 0 197 [.ref 129, .int l1] 197 SH m (vPv P)
theorem f_X5_addToLast {l1 : Int32} {m : vM} {P : vM → Prop} (h : J_X5_addToLast_0 l1 m P) : EI_X5_addToLast l1 m P := Ev.of pn_X5_addToLast (Nat.le_of_ble_eq_true rfl) h
theorem e_X5_addToLast {l1 : Int32} {m : vM} {P : vM → Prop}  (h : wp_X5_addToLast l1 m P) : EI_X5_addToLast l1 m P := f_X5_addToLast (b_X5_addToLast  h)
def J_X5_tryNext_0  (m : vM) (P : vM → Prop) : Prop := vJ mX5_tryNext 1 22 197 none 0 [(0, .ref 129)] [] 197 SH m (vPv P)
def J_X5_tryNext_15 (l1 : Int32) (m : vM) (P : vM → Prop) : Prop := vJ mX5_tryNext 1 22 197 none 15 [(0, .ref 129), (1, .int l1)] [] 197 SH m (vPv P)
def wp_X5_tryNext_0  (m : vM) (P : vM → Prop) : Prop :=
  ∀ v1 : Int32, v1 = ((if (6 : Int32) < (m.1 1 1) then (6 : Int32) else (m.1 1 1)) - (1 : Int32)) →
  J_X5_tryNext_15 v1 m P
set_option maxRecDepth 20000 in
set_option maxHeartbeats 4000000 in
theorem b_X5_tryNext_0  {m : vM} {P : vM → Prop}  (h : wp_X5_tryNext_0  m P) : J_X5_tryNext_0  m P := by
  show vJ mX5_tryNext 1 22 197 none 0 [(0, .ref 129)] [] 197 SH m (vPv P)
  unfold wp_X5_tryNext_0 at h
  refine vJ.aload_n dX5_tryNext_0 rfl rfl ?_
  refine vJ.getR (ci := 5) (k := 3) (j := 1) dX5_tryNext_1 sh_129 (Nat.le_of_ble_eq_true rfl) rfl inX5 (Nat.le_of_ble_eq_true rfl) rfl fl_RX5_37 ?_
  refine vJ.getI (ci := 1) (k := 1) dX5_tryNext_4 sh_1 (Nat.le_of_ble_eq_true rfl) rfl inX1 (Nat.le_of_ble_eq_true rfl) rfl fl_RX5_61 ?_
  refine vJ.bipush dX5_tryNext_7 cb_6 ?_
  refine vJ.mmin dX5_tryNext_9 ml_RX5_137 st_Lib_Math_min_name in_java_lang_Math co_Math_min (Nat.le_of_ble_eq_true rfl) (Nat.le_of_ble_eq_true rfl) ?_
  refine vJ.iconst dX5_tryNext_12 ci_1 ?_
  refine vJ.isub dX5_tryNext_13 ?_
  refine vJ.topi (fun v1 ev1 => ?_)
  replace h := h v1 ev1
  refine vJ.istore_n (ls2 := [(0, .ref 129), (1, .int v1)]) dX5_tryNext_14 rfl (Nat.le_of_ble_eq_true rfl) rfl ?_
  exact h
def EI_X5_tryNext  (m : vM) (P : vM → Prop) : Prop := Ev mX5_tryNext 1 22 197 [.ref 129] 197 SH m (vPv P)
theorem f_X5_tryNext  {m : vM} {P : vM → Prop} (h : J_X5_tryNext_0  m P) : EI_X5_tryNext  m P := Ev.of pn_X5_tryNext (Nat.le_of_ble_eq_true rfl) h
def J_X5_tryNext_40 (l1 : Int32) (m : vM) (P : vM → Prop) : Prop := vJ mX5_tryNext 1 22 197 none 40 [(0, .ref 129), (1, .int l1)] [] 197 SH m (vPv P)
def wp_X5_tryNext_15 (l1 : Int32) (m : vM) (P : vM → Prop) : Prop :=
  ((l1 ≤ (0 : Int32) →
    J_X5_tryNext_40 l1 m P) ∧
  (¬ l1 ≤ (0 : Int32) →
    vp_in l1 6 ∧
    vp_in l1 6 ∧
    (((m.1 138 (Int32.toNatClampNeg l1)) = (m.1 131 (Int32.toNatClampNeg l1)) →
      J_X5_tryNext_15 (l1 + (-1 : Int32)) m P) ∧
    (¬ (m.1 138 (Int32.toNatClampNeg l1)) = (m.1 131 (Int32.toNatClampNeg l1)) →
      J_X5_tryNext_40 l1 m P))))
set_option maxRecDepth 20000 in
set_option maxHeartbeats 4000000 in
theorem b_X5_tryNext_15 {l1 : Int32} {m : vM} {P : vM → Prop}  (h : wp_X5_tryNext_15 l1 m P) : J_X5_tryNext_15 l1 m P := by
  show vJ mX5_tryNext 1 22 197 none 15 [(0, .ref 129), (1, .int l1)] [] 197 SH m (vPv P)
  unfold wp_X5_tryNext_15 at h
  refine vJ.iload_n dX5_tryNext_15 rfl rfl ?_
  refine vJ.if_le (tgt := 40) dX5_tryNext_16 (by decide) (fun hc4 => ?_) (fun hc4 => ?_)
  · replace h := h.1 hc4
    exact h
  · replace h := h.2 hc4
    refine vJ.aload_n dX5_tryNext_19 rfl rfl ?_
    refine vJ.getR (ci := 5) (k := 8) (j := 138) dX5_tryNext_20 sh_129 (Nat.le_of_ble_eq_true rfl) rfl inX5 (Nat.le_of_ble_eq_true rfl) rfl fl_RX5_34 ?_
    refine vJ.iload_n dX5_tryNext_23 rfl rfl ?_
    obtain ⟨hb1, h⟩ := h
    refine vJ.iald dX5_tryNext_24 sh_138 (Nat.le_of_ble_eq_true rfl) hb1 ?_
    refine vJ.aload_n dX5_tryNext_25 rfl rfl ?_
    refine vJ.getR (ci := 5) (k := 1) (j := 131) dX5_tryNext_26 sh_129 (Nat.le_of_ble_eq_true rfl) rfl inX5 (Nat.le_of_ble_eq_true rfl) rfl fl_RX5_15 ?_
    refine vJ.iload_n dX5_tryNext_29 rfl rfl ?_
    obtain ⟨hb2, h⟩ := h
    refine vJ.iald dX5_tryNext_30 sh_131 (Nat.le_of_ble_eq_true rfl) hb2 ?_
    refine vJ.icmp_ne (tgt := 40) dX5_tryNext_31 (by decide) (fun hc3 => ?_) (fun hc3 => ?_)
    · replace h := h.2 hc3
      exact h
    · replace h := h.1 hc3
      refine vJ.iinc (v := l1 + (-1 : Int32)) (ls2 := [(0, .ref 129), (1, .int (l1 + (-1 : Int32)))]) dX5_tryNext_34 rfl (congrArg (l1 + ·) ci_m1) (Nat.le_of_ble_eq_true rfl) rfl ?_
      refine vJ.goto (tgt := 15) dX5_tryNext_37 (by decide) ?_
      exact h
def wp_X5_tryNext_40 (l1 : Int32) (m : vM) (P : vM → Prop) : Prop :=
  (((1 : Int32) ≤ l1 →
    vp_in l1 6 ∧
    vp_in l1 6 ∧
    ∀ v3 : Int32, v3 = ((m.1 138 (Int32.toNatClampNeg l1)) - (m.1 131 (Int32.toNatClampNeg l1))) →
    vp_in l1 6 ∧
    vp_in l1 6 ∧
    ∀ m6 : vM, m6 = upI m 138 (Int32.toNatClampNeg l1) (m.1 131 (Int32.toNatClampNeg l1)) →
    vp_in (l1 - (1 : Int32)) 6 ∧
    vp_in (l1 - (1 : Int32)) 6 ∧
    ∀ m9 : vM, m9 = upI m6 138 (Int32.toNatClampNeg (l1 - (1 : Int32))) ((m6.1 138 (Int32.toNatClampNeg (l1 - (1 : Int32)))) + (1 : Int32)) →
    wp_X5_addToLast (v3 - (1 : Int32)) m9 (fun m10 =>
      P m10)) ∧
  (¬ (1 : Int32) ≤ l1 →
    P m))
set_option maxRecDepth 20000 in
set_option maxHeartbeats 4000000 in
theorem b_X5_tryNext_40 {l1 : Int32} {m : vM} {P : vM → Prop}  (h : wp_X5_tryNext_40 l1 m P) : J_X5_tryNext_40 l1 m P := by
  show vJ mX5_tryNext 1 22 197 none 40 [(0, .ref 129), (1, .int l1)] [] 197 SH m (vPv P)
  unfold wp_X5_tryNext_40 at h
  refine vJ.iload_n dX5_tryNext_40 rfl rfl ?_
  refine vJ.iconst dX5_tryNext_41 ci_1 ?_
  refine vJ.icmp_ge (tgt := 46) dX5_tryNext_42 (by decide) (fun hc11 => ?_) (fun hc11 => ?_)
  · replace h := h.1 hc11
    refine vJ.aload_n dX5_tryNext_46 rfl rfl ?_
    refine vJ.getR (ci := 5) (k := 8) (j := 138) dX5_tryNext_47 sh_129 (Nat.le_of_ble_eq_true rfl) rfl inX5 (Nat.le_of_ble_eq_true rfl) rfl fl_RX5_34 ?_
    refine vJ.iload_n dX5_tryNext_50 rfl rfl ?_
    obtain ⟨hb1, h⟩ := h
    refine vJ.iald dX5_tryNext_51 sh_138 (Nat.le_of_ble_eq_true rfl) hb1 ?_
    refine vJ.aload_n dX5_tryNext_52 rfl rfl ?_
    refine vJ.getR (ci := 5) (k := 1) (j := 131) dX5_tryNext_53 sh_129 (Nat.le_of_ble_eq_true rfl) rfl inX5 (Nat.le_of_ble_eq_true rfl) rfl fl_RX5_15 ?_
    refine vJ.iload_n dX5_tryNext_56 rfl rfl ?_
    obtain ⟨hb2, h⟩ := h
    refine vJ.iald dX5_tryNext_57 sh_131 (Nat.le_of_ble_eq_true rfl) hb2 ?_
    refine vJ.isub dX5_tryNext_58 ?_
    refine vJ.topi (fun v3 ev3 => ?_)
    replace h := h v3 ev3
    refine vJ.istore_n (ls2 := [(0, .ref 129), (1, .int l1), (2, .int v3)]) dX5_tryNext_59 rfl (Nat.le_of_ble_eq_true rfl) rfl ?_
    refine vJ.aload_n dX5_tryNext_60 rfl rfl ?_
    refine vJ.getR (ci := 5) (k := 8) (j := 138) dX5_tryNext_61 sh_129 (Nat.le_of_ble_eq_true rfl) rfl inX5 (Nat.le_of_ble_eq_true rfl) rfl fl_RX5_34 ?_
    refine vJ.iload_n dX5_tryNext_64 rfl rfl ?_
    refine vJ.aload_n dX5_tryNext_65 rfl rfl ?_
    refine vJ.getR (ci := 5) (k := 1) (j := 131) dX5_tryNext_66 sh_129 (Nat.le_of_ble_eq_true rfl) rfl inX5 (Nat.le_of_ble_eq_true rfl) rfl fl_RX5_15 ?_
    refine vJ.iload_n dX5_tryNext_69 rfl rfl ?_
    obtain ⟨hb4, h⟩ := h
    refine vJ.iald dX5_tryNext_70 sh_131 (Nat.le_of_ble_eq_true rfl) hb4 ?_
    obtain ⟨hb5, h⟩ := h
    refine vJ.iast dX5_tryNext_71 sh_138 (Nat.le_of_ble_eq_true rfl) hb5 ?_
    refine vJ.topm (fun m6 em6 => ?_)
    replace h := h m6 em6
    refine vJ.aload_n dX5_tryNext_72 rfl rfl ?_
    refine vJ.getR (ci := 5) (k := 8) (j := 138) dX5_tryNext_73 sh_129 (Nat.le_of_ble_eq_true rfl) rfl inX5 (Nat.le_of_ble_eq_true rfl) rfl fl_RX5_34 ?_
    refine vJ.iload_n dX5_tryNext_76 rfl rfl ?_
    refine vJ.iconst dX5_tryNext_77 ci_1 ?_
    refine vJ.isub dX5_tryNext_78 ?_
    refine vJ.dup2 dX5_tryNext_79 rfl rfl ?_
    obtain ⟨hb7, h⟩ := h
    refine vJ.iald dX5_tryNext_80 sh_138 (Nat.le_of_ble_eq_true rfl) hb7 ?_
    refine vJ.iconst dX5_tryNext_81 ci_1 ?_
    refine vJ.iadd dX5_tryNext_82 ?_
    obtain ⟨hb8, h⟩ := h
    refine vJ.iast dX5_tryNext_83 sh_138 (Nat.le_of_ble_eq_true rfl) hb8 ?_
    refine vJ.topm (fun m9 em9 => ?_)
    replace h := h m9 em9
    refine vJ.aload_n dX5_tryNext_84 rfl rfl ?_
    refine vJ.iload_n dX5_tryNext_85 rfl rfl ?_
    refine vJ.iconst dX5_tryNext_86 ci_1 ?_
    refine vJ.isub dX5_tryNext_87 ?_
    refine vJ.callV (ci := 5) (Yc := mX5_addToLast) (frc := 0) (loc := 0) (as := [.int (v3 - (1 : Int32))]) dX5_tryNext_88 rfl sh_129 (Nat.le_of_ble_eq_true rfl) rfl ml_RX5_122 im_yX5_addToLast se_yX5_addToLast co_X5_addToLast in_TableSetter_Widths pl_X5_addToLast (Nat.le_of_ble_eq_true rfl) (Nat.le_of_ble_eq_true rfl) (Nat.le_of_ble_eq_true rfl) ?_
    refine Ev.gv (e_X5_addToLast  h) (fun m10 h => ?_)
    exact vJ.vreturn dX5_tryNext_91 rfl rfl ⟨rfl, rfl, h⟩
  · replace h := h.2 hc11
    exact vJ.vreturn dX5_tryNext_45 rfl rfl ⟨rfl, rfl, h⟩
def J_X5_tighten_0 (l1 : Int32) (l2 : Int32) (m : vM) (P : Int32 → vM → Prop) : Prop := vJ mX5_tighten 3 72 197 none 0 [(0, .ref 129), (1, .int l1), (2, .int l2)] [] 197 SH m (vPi P)
def J_X5_tighten_32 (l2 : Int32) (l3 : Int32) (l4 : Int32) (m : vM) (P : Int32 → vM → Prop) : Prop := vJ mX5_tighten 3 72 197 none 32 [(0, .ref 129), (2, .int l2), (3, .int l3), (4, .int l4)] [] 197 SH m (vPi P)
def wp_X5_tighten_0 (l1 : Int32) (l2 : Int32) (m : vM) (P : Int32 → vM → Prop) : Prop :=
  (¬ (0 : Int32) < 0) ∧ (¬ (0 : Int32) < 0) ∧ (¬ (6 : Int32) < 0) ∧ ((Int32.toNatClampNeg (0 : Int32)) + (Int32.toNatClampNeg (6 : Int32)) ≤ 6) ∧ ((Int32.toNatClampNeg (0 : Int32)) + (Int32.toNatClampNeg (6 : Int32)) ≤ 6) ∧
  ∀ m6 : vM, m6 = upA m 138 (va_cpy (m.1 131) (m.1 138) (Int32.toNatClampNeg (0 : Int32)) (Int32.toNatClampNeg (0 : Int32)) (Int32.toNatClampNeg (6 : Int32))) →
  wp_X5_addToLast l1 m6 (fun m7 =>
    EI_X2_sortCells m7 (fun m8 =>
      J_X5_tighten_32 l2 (0 : Int32) (0 : Int32) m8 P))
set_option maxRecDepth 20000 in
set_option maxHeartbeats 4000000 in
theorem b_X5_tighten_0 {l1 : Int32} {l2 : Int32} {m : vM} {P : Int32 → vM → Prop}  (h : wp_X5_tighten_0 l1 l2 m P) : J_X5_tighten_0 l1 l2 m P := by
  show vJ mX5_tighten 3 72 197 none 0 [(0, .ref 129), (1, .int l1), (2, .int l2)] [] 197 SH m (vPi P)
  unfold wp_X5_tighten_0 at h
  refine vJ.aload_n dX5_tighten_0 rfl rfl ?_
  refine vJ.getR (ci := 5) (k := 1) (j := 131) dX5_tighten_1 sh_129 (Nat.le_of_ble_eq_true rfl) rfl inX5 (Nat.le_of_ble_eq_true rfl) rfl fl_RX5_15 ?_
  refine vJ.iconst dX5_tighten_4 ci_0 ?_
  refine vJ.aload_n dX5_tighten_5 rfl rfl ?_
  refine vJ.getR (ci := 5) (k := 8) (j := 138) dX5_tighten_6 sh_129 (Nat.le_of_ble_eq_true rfl) rfl inX5 (Nat.le_of_ble_eq_true rfl) rfl fl_RX5_34 ?_
  refine vJ.iconst dX5_tighten_9 ci_0 ?_
  refine vJ.bipush dX5_tighten_10 cb_6 ?_
  obtain ⟨hq1, hq2, hq3, hq4, hq5, h⟩ := h
  refine vJ.acopy dX5_tighten_12 sh_138 sh_131 (Nat.le_of_ble_eq_true rfl) (Nat.le_of_ble_eq_true rfl) hq1 hq2 hq3 hq4 hq5 ml_RX5_116 na_arraycopyName st_arraycopyName in_java_lang_System (Nat.le_of_ble_eq_true rfl) (Nat.le_of_ble_eq_true rfl) ?_
  refine vJ.topm (fun m6 em6 => ?_)
  replace h := h m6 em6
  refine vJ.aload_n dX5_tighten_15 rfl rfl ?_
  refine vJ.iload_n dX5_tighten_16 rfl rfl ?_
  refine vJ.callV (ci := 5) (Yc := mX5_addToLast) (frc := 0) (loc := 0) (as := [.int l1]) dX5_tighten_17 rfl sh_129 (Nat.le_of_ble_eq_true rfl) rfl ml_RX5_122 im_yX5_addToLast se_yX5_addToLast co_X5_addToLast in_TableSetter_Widths pl_X5_addToLast (Nat.le_of_ble_eq_true rfl) (Nat.le_of_ble_eq_true rfl) (Nat.le_of_ble_eq_true rfl) ?_
  refine Ev.gv (e_X5_addToLast  h) (fun m7 h => ?_)
  refine vJ.aload_n dX5_tighten_20 rfl rfl ?_
  refine vJ.getR (ci := 5) (k := 4) (j := 125) dX5_tighten_21 sh_129 (Nat.le_of_ble_eq_true rfl) rfl inX5 (Nat.le_of_ble_eq_true rfl) rfl fl_RX5_41 ?_
  refine vJ.callV (ci := 2) (Yc := mX2_sortCells) (frc := 2) (loc := 43) (as := []) dX5_tighten_24 rfl sh_125 (Nat.le_of_ble_eq_true rfl) rfl ml_RX5_126 im_yX2_sortCells se_yX2_sortCells co_X2_sortCells in_TableSetter_Heights pl_X2_sortCells (Nat.le_of_ble_eq_true rfl) (Nat.le_of_ble_eq_true rfl) (Nat.le_of_ble_eq_true rfl) ?_
  refine Ev.gv h (fun m8 h => ?_)
  refine vJ.iconst dX5_tighten_27 ci_0 ?_
  refine vJ.istore_n (ls2 := [(0, .ref 129), (1, .int l1), (2, .int l2), (3, .int (0 : Int32))]) dX5_tighten_28 rfl (Nat.le_of_ble_eq_true rfl) rfl ?_
  refine vJ.iconst dX5_tighten_29 ci_0 ?_
  refine vJ.istore (ls2 := [(0, .ref 129), (1, .int l1), (2, .int l2), (3, .int (0 : Int32)), (4, .int (0 : Int32))]) dX5_tighten_30 (Nat.le_of_ble_eq_true rfl) rfl ?_
  refine vJ.sub [0, 2, 3, 4] rfl ?_
  exact h
def EI_X5_tighten (l1 : Int32) (l2 : Int32) (m : vM) (P : Int32 → vM → Prop) : Prop := Ev mX5_tighten 3 72 197 [.ref 129, .int l1, .int l2] 197 SH m (vPi P)
theorem f_X5_tighten {l1 : Int32} {l2 : Int32} {m : vM} {P : Int32 → vM → Prop} (h : J_X5_tighten_0 l1 l2 m P) : EI_X5_tighten l1 l2 m P := Ev.of pn_X5_tighten (Nat.le_of_ble_eq_true rfl) h
def wp_X5_tighten_32 (l2 : Int32) (l3 : Int32) (l4 : Int32) (m : vM) (P : Int32 → vM → Prop) : Prop :=
  ((l2 ≤ l4 →
    P l3 m) ∧
  (¬ l2 ≤ l4 →
    EI_X2_measure 138 6 m (fun r2 m1 =>
      ((l4 = (0 : Int32) →
        (¬ (0 : Int32) < 0) ∧ (¬ (0 : Int32) < 0) ∧ (¬ (6 : Int32) < 0) ∧ ((Int32.toNatClampNeg (0 : Int32)) + (Int32.toNatClampNeg (6 : Int32)) ≤ 6) ∧ ((Int32.toNatClampNeg (0 : Int32)) + (Int32.toNatClampNeg (6 : Int32)) ≤ 6) ∧
        ∀ m8 : vM, m8 = upA m1 130 (va_cpy (m1.1 138) (m1.1 130) (Int32.toNatClampNeg (0 : Int32)) (Int32.toNatClampNeg (0 : Int32)) (Int32.toNatClampNeg (6 : Int32))) →
        EI_X5_tryNext m8 (fun m9 =>
          J_X5_tighten_32 l2 r2 (l4 + (1 : Int32)) m9 P)) ∧
      (¬ l4 = (0 : Int32) →
        ((l3 ≤ r2 →
          EI_X5_tryNext m1 (fun m10 =>
            J_X5_tighten_32 l2 l3 (l4 + (1 : Int32)) m10 P)) ∧
        (¬ l3 ≤ r2 →
          (¬ (0 : Int32) < 0) ∧ (¬ (0 : Int32) < 0) ∧ (¬ (6 : Int32) < 0) ∧ ((Int32.toNatClampNeg (0 : Int32)) + (Int32.toNatClampNeg (6 : Int32)) ≤ 6) ∧ ((Int32.toNatClampNeg (0 : Int32)) + (Int32.toNatClampNeg (6 : Int32)) ≤ 6) ∧
          ∀ m16 : vM, m16 = upA m1 130 (va_cpy (m1.1 138) (m1.1 130) (Int32.toNatClampNeg (0 : Int32)) (Int32.toNatClampNeg (0 : Int32)) (Int32.toNatClampNeg (6 : Int32))) →
          EI_X5_tryNext m16 (fun m17 =>
            J_X5_tighten_32 l2 r2 (l4 + (1 : Int32)) m17 P))))))))
set_option maxRecDepth 20000 in
set_option maxHeartbeats 4000000 in
theorem b_X5_tighten_32 {l2 : Int32} {l3 : Int32} {l4 : Int32} {m : vM} {P : Int32 → vM → Prop}  (h : wp_X5_tighten_32 l2 l3 l4 m P) : J_X5_tighten_32 l2 l3 l4 m P := by
  show vJ mX5_tighten 3 72 197 none 32 [(0, .ref 129), (2, .int l2), (3, .int l3), (4, .int l4)] [] 197 SH m (vPi P)
  unfold wp_X5_tighten_32 at h
  refine vJ.iload dX5_tighten_32 rfl ?_
  refine vJ.iload_n dX5_tighten_34 rfl rfl ?_
  refine vJ.icmp_ge (tgt := 90) dX5_tighten_35 (by decide) (fun hc20 => ?_) (fun hc20 => ?_)
  · replace h := h.1 hc20
    refine vJ.iload_n dX5_tighten_90 rfl rfl ?_
    exact vJ.ireturn dX5_tighten_91 rfl rfl rfl ⟨rfl, _, rfl, h⟩
  · replace h := h.2 hc20
    refine vJ.aload_n dX5_tighten_38 rfl rfl ?_
    refine vJ.getR (ci := 5) (k := 4) (j := 125) dX5_tighten_39 sh_129 (Nat.le_of_ble_eq_true rfl) rfl inX5 (Nat.le_of_ble_eq_true rfl) rfl fl_RX5_41 ?_
    refine vJ.aload_n dX5_tighten_42 rfl rfl ?_
    refine vJ.getR (ci := 5) (k := 8) (j := 138) dX5_tighten_43 sh_129 (Nat.le_of_ble_eq_true rfl) rfl inX5 (Nat.le_of_ble_eq_true rfl) rfl fl_RX5_34 ?_
    refine vJ.callV (ci := 2) (Yc := mX2_measure) (frc := 2) (loc := 48) (as := [.ref 138]) dX5_tighten_46 rfl sh_125 (Nat.le_of_ble_eq_true rfl) rfl ml_RX5_131 im_yX2_measure se_yX2_measure co_X2_measure in_TableSetter_Heights pl_X2_measure (Nat.le_of_ble_eq_true rfl) (Nat.le_of_ble_eq_true rfl) (Nat.le_of_ble_eq_true rfl) ?_
    refine Ev.gi h (fun r2 m1 h => ?_)
    refine vJ.istore (ls2 := [(0, .ref 129), (2, .int l2), (3, .int l3), (4, .int l4), (5, .int r2)]) dX5_tighten_49 (Nat.le_of_ble_eq_true rfl) rfl ?_
    refine vJ.iload dX5_tighten_51 rfl ?_
    refine vJ.if_eq (tgt := 62) dX5_tighten_53 (by decide) (fun hc19 => ?_) (fun hc19 => ?_)
    · replace h := h.1 hc19
      refine vJ.iload dX5_tighten_62 rfl ?_
      refine vJ.istore_n (ls2 := [(0, .ref 129), (2, .int l2), (3, .int r2), (4, .int l4), (5, .int r2)]) dX5_tighten_64 rfl (Nat.le_of_ble_eq_true rfl) rfl ?_
      refine vJ.aload_n dX5_tighten_65 rfl rfl ?_
      refine vJ.getR (ci := 5) (k := 8) (j := 138) dX5_tighten_66 sh_129 (Nat.le_of_ble_eq_true rfl) rfl inX5 (Nat.le_of_ble_eq_true rfl) rfl fl_RX5_34 ?_
      refine vJ.iconst dX5_tighten_69 ci_0 ?_
      refine vJ.aload_n dX5_tighten_70 rfl rfl ?_
      refine vJ.getR (ci := 5) (k := 0) (j := 130) dX5_tighten_71 sh_129 (Nat.le_of_ble_eq_true rfl) rfl inX5 (Nat.le_of_ble_eq_true rfl) rfl fl_RX5_9 ?_
      refine vJ.iconst dX5_tighten_74 ci_0 ?_
      refine vJ.bipush dX5_tighten_75 cb_6 ?_
      obtain ⟨hq3, hq4, hq5, hq6, hq7, h⟩ := h
      refine vJ.acopy dX5_tighten_77 sh_130 sh_138 (Nat.le_of_ble_eq_true rfl) (Nat.le_of_ble_eq_true rfl) hq3 hq4 hq5 hq6 hq7 ml_RX5_116 na_arraycopyName st_arraycopyName in_java_lang_System (Nat.le_of_ble_eq_true rfl) (Nat.le_of_ble_eq_true rfl) ?_
      refine vJ.topm (fun m8 em8 => ?_)
      replace h := h m8 em8
      refine vJ.aload_n dX5_tighten_80 rfl rfl ?_
      refine vJ.callV (ci := 5) (Yc := mX5_tryNext) (frc := 1) (loc := 22) (as := []) dX5_tighten_81 rfl sh_129 (Nat.le_of_ble_eq_true rfl) rfl ml_RX5_134 im_yX5_tryNext se_yX5_tryNext co_X5_tryNext in_TableSetter_Widths pl_X5_tryNext (Nat.le_of_ble_eq_true rfl) (Nat.le_of_ble_eq_true rfl) (Nat.le_of_ble_eq_true rfl) ?_
      refine Ev.gv h (fun m9 h => ?_)
      refine vJ.iinc (v := l4 + (1 : Int32)) (ls2 := [(0, .ref 129), (2, .int l2), (3, .int r2), (4, .int (l4 + (1 : Int32))), (5, .int r2)]) dX5_tighten_84 rfl (congrArg (l4 + ·) ci_1) (Nat.le_of_ble_eq_true rfl) rfl ?_
      refine vJ.goto (tgt := 32) dX5_tighten_87 (by decide) ?_
      refine vJ.sub [0, 1, 2, 3] rfl ?_
      exact h
    · replace h := h.2 hc19
      refine vJ.iload dX5_tighten_56 rfl ?_
      refine vJ.iload_n dX5_tighten_58 rfl rfl ?_
      refine vJ.icmp_ge (tgt := 80) dX5_tighten_59 (by decide) (fun hc18 => ?_) (fun hc18 => ?_)
      · replace h := h.1 hc18
        refine vJ.aload_n dX5_tighten_80 rfl rfl ?_
        refine vJ.callV (ci := 5) (Yc := mX5_tryNext) (frc := 1) (loc := 22) (as := []) dX5_tighten_81 rfl sh_129 (Nat.le_of_ble_eq_true rfl) rfl ml_RX5_134 im_yX5_tryNext se_yX5_tryNext co_X5_tryNext in_TableSetter_Widths pl_X5_tryNext (Nat.le_of_ble_eq_true rfl) (Nat.le_of_ble_eq_true rfl) (Nat.le_of_ble_eq_true rfl) ?_
        refine Ev.gv h (fun m10 h => ?_)
        refine vJ.iinc (v := l4 + (1 : Int32)) (ls2 := [(0, .ref 129), (2, .int l2), (3, .int l3), (4, .int (l4 + (1 : Int32))), (5, .int r2)]) dX5_tighten_84 rfl (congrArg (l4 + ·) ci_1) (Nat.le_of_ble_eq_true rfl) rfl ?_
        refine vJ.goto (tgt := 32) dX5_tighten_87 (by decide) ?_
        refine vJ.sub [0, 1, 2, 3] rfl ?_
        exact h
      · replace h := h.2 hc18
        refine vJ.iload dX5_tighten_62 rfl ?_
        refine vJ.istore_n (ls2 := [(0, .ref 129), (2, .int l2), (3, .int r2), (4, .int l4), (5, .int r2)]) dX5_tighten_64 rfl (Nat.le_of_ble_eq_true rfl) rfl ?_
        refine vJ.aload_n dX5_tighten_65 rfl rfl ?_
        refine vJ.getR (ci := 5) (k := 8) (j := 138) dX5_tighten_66 sh_129 (Nat.le_of_ble_eq_true rfl) rfl inX5 (Nat.le_of_ble_eq_true rfl) rfl fl_RX5_34 ?_
        refine vJ.iconst dX5_tighten_69 ci_0 ?_
        refine vJ.aload_n dX5_tighten_70 rfl rfl ?_
        refine vJ.getR (ci := 5) (k := 0) (j := 130) dX5_tighten_71 sh_129 (Nat.le_of_ble_eq_true rfl) rfl inX5 (Nat.le_of_ble_eq_true rfl) rfl fl_RX5_9 ?_
        refine vJ.iconst dX5_tighten_74 ci_0 ?_
        refine vJ.bipush dX5_tighten_75 cb_6 ?_
        obtain ⟨hq11, hq12, hq13, hq14, hq15, h⟩ := h
        refine vJ.acopy dX5_tighten_77 sh_130 sh_138 (Nat.le_of_ble_eq_true rfl) (Nat.le_of_ble_eq_true rfl) hq11 hq12 hq13 hq14 hq15 ml_RX5_116 na_arraycopyName st_arraycopyName in_java_lang_System (Nat.le_of_ble_eq_true rfl) (Nat.le_of_ble_eq_true rfl) ?_
        refine vJ.topm (fun m16 em16 => ?_)
        replace h := h m16 em16
        refine vJ.aload_n dX5_tighten_80 rfl rfl ?_
        refine vJ.callV (ci := 5) (Yc := mX5_tryNext) (frc := 1) (loc := 22) (as := []) dX5_tighten_81 rfl sh_129 (Nat.le_of_ble_eq_true rfl) rfl ml_RX5_134 im_yX5_tryNext se_yX5_tryNext co_X5_tryNext in_TableSetter_Widths pl_X5_tryNext (Nat.le_of_ble_eq_true rfl) (Nat.le_of_ble_eq_true rfl) (Nat.le_of_ble_eq_true rfl) ?_
        refine Ev.gv h (fun m17 h => ?_)
        refine vJ.iinc (v := l4 + (1 : Int32)) (ls2 := [(0, .ref 129), (2, .int l2), (3, .int r2), (4, .int (l4 + (1 : Int32))), (5, .int r2)]) dX5_tighten_84 rfl (congrArg (l4 + ·) ci_1) (Nat.le_of_ble_eq_true rfl) rfl ?_
        refine vJ.goto (tgt := 32) dX5_tighten_87 (by decide) ?_
        refine vJ.sub [0, 1, 2, 3] rfl ?_
        exact h
def J_X5_waysToSpread_0 (l1 : Int32) (m : vM) (P : Int64 → vM → Prop) : Prop := vJ mX5_waysToSpread 0 0 197 none 0 [(0, .ref 129), (1, .int l1)] [] 197 SH m (vPl P)
def J_X5_waysToSpread_5 (l1 : Int32) (l2 : Int64) (l4 : Int32) (m : vM) (P : Int64 → vM → Prop) : Prop := vJ mX5_waysToSpread 0 0 197 none 5 [(0, .ref 129), (1, .int l1), (2, .long l2), (4, .int l4)] [] 197 SH m (vPl P)
def wp_X5_waysToSpread_0 (l1 : Int32) (m : vM) (P : Int64 → vM → Prop) : Prop :=
  J_X5_waysToSpread_5 l1 (1 : Int64) (1 : Int32) m P
set_option maxRecDepth 20000 in
set_option maxHeartbeats 4000000 in
theorem b_X5_waysToSpread_0 {l1 : Int32} {m : vM} {P : Int64 → vM → Prop}  (h : wp_X5_waysToSpread_0 l1 m P) : J_X5_waysToSpread_0 l1 m P := by
  show vJ mX5_waysToSpread 0 0 197 none 0 [(0, .ref 129), (1, .int l1)] [] 197 SH m (vPl P)
  unfold wp_X5_waysToSpread_0 at h
  refine vJ.lconst dX5_waysToSpread_0 cl_1 ?_
  refine vJ.lstore_n (ls2 := [(0, .ref 129), (1, .int l1), (2, .long (1 : Int64))]) dX5_waysToSpread_1 rfl (Nat.le_of_ble_eq_true rfl) rfl ?_
  refine vJ.iconst dX5_waysToSpread_2 ci_1 ?_
  refine vJ.istore (ls2 := [(0, .ref 129), (1, .int l1), (2, .long (1 : Int64)), (4, .int (1 : Int32))]) dX5_waysToSpread_3 (Nat.le_of_ble_eq_true rfl) rfl ?_
  exact h
def EI_X5_waysToSpread (l1 : Int32) (m : vM) (P : Int64 → vM → Prop) : Prop := Ev mX5_waysToSpread 0 0 197 [.ref 129, .int l1] 197 SH m (vPl P)
theorem f_X5_waysToSpread {l1 : Int32} {m : vM} {P : Int64 → vM → Prop} (h : J_X5_waysToSpread_0 l1 m P) : EI_X5_waysToSpread l1 m P := Ev.of pn_X5_waysToSpread (Nat.le_of_ble_eq_true rfl) h
def wp_X5_waysToSpread_5 (l1 : Int32) (l2 : Int64) (l4 : Int32) (m : vM) (P : Int64 → vM → Prop) : Prop :=
  (((m.1 1 1) ≤ l4 →
    P l2 m) ∧
  (¬ (m.1 1 1) ≤ l4 →
    (¬ (Int32.toInt64 l4) = 0) ∧
    ∀ v2 : Int64, v2 = ((l2 * (Int32.toInt64 (l1 + l4))) / (Int32.toInt64 l4)) →
    J_X5_waysToSpread_5 l1 v2 (l4 + (1 : Int32)) m P))
set_option maxRecDepth 20000 in
set_option maxHeartbeats 4000000 in
theorem b_X5_waysToSpread_5 {l1 : Int32} {l2 : Int64} {l4 : Int32} {m : vM} {P : Int64 → vM → Prop}  (h : wp_X5_waysToSpread_5 l1 l2 l4 m P) : J_X5_waysToSpread_5 l1 l2 l4 m P := by
  show vJ mX5_waysToSpread 0 0 197 none 5 [(0, .ref 129), (1, .int l1), (2, .long l2), (4, .int l4)] [] 197 SH m (vPl P)
  unfold wp_X5_waysToSpread_5 at h
  refine vJ.iload dX5_waysToSpread_5 rfl ?_
  refine vJ.aload_n dX5_waysToSpread_7 rfl rfl ?_
  refine vJ.getR (ci := 5) (k := 3) (j := 1) dX5_waysToSpread_8 sh_129 (Nat.le_of_ble_eq_true rfl) rfl inX5 (Nat.le_of_ble_eq_true rfl) rfl fl_RX5_37 ?_
  refine vJ.getI (ci := 1) (k := 1) dX5_waysToSpread_11 sh_1 (Nat.le_of_ble_eq_true rfl) rfl inX1 (Nat.le_of_ble_eq_true rfl) rfl fl_RX5_61 ?_
  refine vJ.icmp_ge (tgt := 35) dX5_waysToSpread_14 (by decide) (fun hc3 => ?_) (fun hc3 => ?_)
  · replace h := h.1 hc3
    refine vJ.lload_n dX5_waysToSpread_35 rfl rfl ?_
    exact vJ.lreturn dX5_waysToSpread_36 rfl rfl ⟨rfl, _, rfl, h⟩
  · replace h := h.2 hc3
    refine vJ.lload_n dX5_waysToSpread_17 rfl rfl ?_
    refine vJ.iload_n dX5_waysToSpread_18 rfl rfl ?_
    refine vJ.iload dX5_waysToSpread_19 rfl ?_
    refine vJ.iadd dX5_waysToSpread_21 ?_
    refine vJ.i2l dX5_waysToSpread_22 ?_
    refine vJ.lmul dX5_waysToSpread_23 ?_
    refine vJ.iload dX5_waysToSpread_24 rfl ?_
    refine vJ.i2l dX5_waysToSpread_26 ?_
    obtain ⟨hz1, h⟩ := h
    refine vJ.ldiv dX5_waysToSpread_27 hz1 ?_
    refine vJ.topl (fun v2 ev2 => ?_)
    replace h := h v2 ev2
    refine vJ.lstore_n (ls2 := [(0, .ref 129), (1, .int l1), (2, .long v2), (4, .int l4)]) dX5_waysToSpread_28 rfl (Nat.le_of_ble_eq_true rfl) rfl ?_
    refine vJ.iinc (v := l4 + (1 : Int32)) (ls2 := [(0, .ref 129), (1, .int l1), (2, .long v2), (4, .int (l4 + (1 : Int32)))]) dX5_waysToSpread_29 rfl (congrArg (l4 + ·) ci_1) (Nat.le_of_ble_eq_true rfl) rfl ?_
    refine vJ.goto (tgt := 5) dX5_waysToSpread_32 (by decide) ?_
    exact h
