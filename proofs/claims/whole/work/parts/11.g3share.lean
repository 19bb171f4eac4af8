def J_X4_giveOne_0 (l1 : Int32) (l2 : Int32) (m : vM) (P : vM → Prop) : Prop := vJ mX4_giveOne 0 0 197 none 0 [(0, .ref 133), (1, .int l1), (2, .int l2)] [] 197 SH m (vPv P)
def J_X4_giveOne_5 (l2 : Int32) (l3 : Int32) (l4 : Int32) (m : vM) (P : vM → Prop) : Prop := vJ mX4_giveOne 0 0 197 none 5 [(0, .ref 133), (2, .int l2), (3, .int l3), (4, .int l4)] [] 197 SH m (vPv P)
def wp_X4_giveOne_0 (l1 : Int32) (l2 : Int32) (m : vM) (P : vM → Prop) : Prop :=
  J_X4_giveOne_5 l2 l1 l1 m P
set_option maxRecDepth 20000 in
set_option maxHeartbeats 4000000 in
theorem b_X4_giveOne_0 {l1 : Int32} {l2 : Int32} {m : vM} {P : vM → Prop}  (h : wp_X4_giveOne_0 l1 l2 m P) : J_X4_giveOne_0 l1 l2 m P := by
  show vJ mX4_giveOne 0 0 197 none 0 [(0, .ref 133), (1, .int l1), (2, .int l2)] [] 197 SH m (vPv P)
  unfold wp_X4_giveOne_0 at h
  refine vJ.iload_n dX4_giveOne_0 rfl rfl ?_
  refine vJ.istore_n (ls2 := [(0, .ref 133), (1, .int l1), (2, .int l2), (3, .int l1)]) dX4_giveOne_1 rfl (Nat.le_of_ble_eq_true rfl) rfl ?_
  refine vJ.iload_n dX4_giveOne_2 rfl rfl ?_
  refine vJ.istore (ls2 := [(0, .ref 133), (1, .int l1), (2, .int l2), (3, .int l1), (4, .int l1)]) dX4_giveOne_3 (Nat.le_of_ble_eq_true rfl) rfl ?_
  refine vJ.sub [0, 2, 3, 4] rfl ?_
  exact h
def EI_X4_giveOne (l1 : Int32) (l2 : Int32) (m : vM) (P : vM → Prop) : Prop := Ev mX4_giveOne 0 0 197 [.ref 133, .int l1, .int l2] 197 SH m (vPv P)
theorem f_X4_giveOne {l1 : Int32} {l2 : Int32} {m : vM} {P : vM → Prop} (h : J_X4_giveOne_0 l1 l2 m P) : EI_X4_giveOne l1 l2 m P := Ev.of pn_X4_giveOne (Nat.le_of_ble_eq_true rfl) h
def wp_X4_giveOne_5 (l2 : Int32) (l3 : Int32) (l4 : Int32) (m : vM) (P : vM → Prop) : Prop :=
  ((l2 ≤ l4 →
    vp_in l3 6 ∧
    vp_in l3 6 ∧
    ∀ m3 : vM, m3 = upI m 134 (Int32.toNatClampNeg l3) ((m.1 134 (Int32.toNatClampNeg l3)) + (1 : Int32)) →
    vp_in l3 6 ∧
    ∀ m5 : vM, m5 = upI m3 135 (Int32.toNatClampNeg l3) (-1 : Int32) →
    P m5) ∧
  (¬ l2 ≤ l4 →
    vp_in l4 6 ∧
    vp_in l3 6 ∧
    (((m.1 135 (Int32.toNatClampNeg l4)) ≤ (m.1 135 (Int32.toNatClampNeg l3)) →
      J_X4_giveOne_5 l2 l3 (l4 + (1 : Int32)) m P) ∧
    (¬ (m.1 135 (Int32.toNatClampNeg l4)) ≤ (m.1 135 (Int32.toNatClampNeg l3)) →
      J_X4_giveOne_5 l2 l4 (l4 + (1 : Int32)) m P))))
set_option maxRecDepth 20000 in
set_option maxHeartbeats 4000000 in
theorem b_X4_giveOne_5 {l2 : Int32} {l3 : Int32} {l4 : Int32} {m : vM} {P : vM → Prop}  (h : wp_X4_giveOne_5 l2 l3 l4 m P) : J_X4_giveOne_5 l2 l3 l4 m P := by
  show vJ mX4_giveOne 0 0 197 none 5 [(0, .ref 133), (2, .int l2), (3, .int l3), (4, .int l4)] [] 197 SH m (vPv P)
  unfold wp_X4_giveOne_5 at h
  refine vJ.iload dX4_giveOne_5 rfl ?_
  refine vJ.iload_n dX4_giveOne_7 rfl rfl ?_
  refine vJ.icmp_ge (tgt := 36) dX4_giveOne_8 (by decide) (fun hc9 => ?_) (fun hc9 => ?_)
  · replace h := h.1 hc9
    refine vJ.aload_n dX4_giveOne_36 rfl rfl ?_
    refine vJ.getR (ci := 4) (k := 0) (j := 134) dX4_giveOne_37 sh_133 (Nat.le_of_ble_eq_true rfl) rfl inX4 (Nat.le_of_ble_eq_true rfl) rfl fl_RX4_9 ?_
    refine vJ.iload_n dX4_giveOne_40 rfl rfl ?_
    refine vJ.dup2 dX4_giveOne_41 rfl rfl ?_
    obtain ⟨hb1, h⟩ := h
    refine vJ.iald dX4_giveOne_42 sh_134 (Nat.le_of_ble_eq_true rfl) hb1 ?_
    refine vJ.iconst dX4_giveOne_43 ci_1 ?_
    refine vJ.iadd dX4_giveOne_44 ?_
    obtain ⟨hb2, h⟩ := h
    refine vJ.iast dX4_giveOne_45 sh_134 (Nat.le_of_ble_eq_true rfl) hb2 ?_
    refine vJ.topm (fun m3 em3 => ?_)
    replace h := h m3 em3
    refine vJ.aload_n dX4_giveOne_46 rfl rfl ?_
    refine vJ.getR (ci := 4) (k := 1) (j := 135) dX4_giveOne_47 sh_133 (Nat.le_of_ble_eq_true rfl) rfl inX4 (Nat.le_of_ble_eq_true rfl) rfl fl_RX4_15 ?_
    refine vJ.iload_n dX4_giveOne_50 rfl rfl ?_
    refine vJ.iconst dX4_giveOne_51 ci_m1 ?_
    obtain ⟨hb4, h⟩ := h
    refine vJ.iast dX4_giveOne_52 sh_135 (Nat.le_of_ble_eq_true rfl) hb4 ?_
    refine vJ.topm (fun m5 em5 => ?_)
    replace h := h m5 em5
    exact vJ.vreturn dX4_giveOne_53 rfl rfl ⟨rfl, rfl, h⟩
  · replace h := h.2 hc9
    refine vJ.aload_n dX4_giveOne_11 rfl rfl ?_
    refine vJ.getR (ci := 4) (k := 1) (j := 135) dX4_giveOne_12 sh_133 (Nat.le_of_ble_eq_true rfl) rfl inX4 (Nat.le_of_ble_eq_true rfl) rfl fl_RX4_15 ?_
    refine vJ.iload dX4_giveOne_15 rfl ?_
    obtain ⟨hb6, h⟩ := h
    refine vJ.iald dX4_giveOne_17 sh_135 (Nat.le_of_ble_eq_true rfl) hb6 ?_
    refine vJ.aload_n dX4_giveOne_18 rfl rfl ?_
    refine vJ.getR (ci := 4) (k := 1) (j := 135) dX4_giveOne_19 sh_133 (Nat.le_of_ble_eq_true rfl) rfl inX4 (Nat.le_of_ble_eq_true rfl) rfl fl_RX4_15 ?_
    refine vJ.iload_n dX4_giveOne_22 rfl rfl ?_
    obtain ⟨hb7, h⟩ := h
    refine vJ.iald dX4_giveOne_23 sh_135 (Nat.le_of_ble_eq_true rfl) hb7 ?_
    refine vJ.icmp_le (tgt := 30) dX4_giveOne_24 (by decide) (fun hc8 => ?_) (fun hc8 => ?_)
    · replace h := h.1 hc8
      refine vJ.iinc (v := l4 + (1 : Int32)) (ls2 := [(0, .ref 133), (2, .int l2), (3, .int l3), (4, .int (l4 + (1 : Int32)))]) dX4_giveOne_30 rfl (congrArg (l4 + ·) ci_1) (Nat.le_of_ble_eq_true rfl) rfl ?_
      refine vJ.goto (tgt := 5) dX4_giveOne_33 (by decide) ?_
      exact h
    · replace h := h.2 hc8
      refine vJ.iload dX4_giveOne_27 rfl ?_
      refine vJ.istore_n (ls2 := [(0, .ref 133), (2, .int l2), (3, .int l4), (4, .int l4)]) dX4_giveOne_29 rfl (Nat.le_of_ble_eq_true rfl) rfl ?_
      refine vJ.iinc (v := l4 + (1 : Int32)) (ls2 := [(0, .ref 133), (2, .int l2), (3, .int l4), (4, .int (l4 + (1 : Int32)))]) dX4_giveOne_30 rfl (congrArg (l4 + ·) ci_1) (Nat.le_of_ble_eq_true rfl) rfl ?_
      refine vJ.goto (tgt := 5) dX4_giveOne_33 (by decide) ?_
      exact h
def J_X4_divide_0 (l1 : Int32) (a2 : Nat) (n2 : Nat) (l3 : Int32) (l4 : Int32) (m : vM) (P : vM → Prop) : Prop := vJ mX4_divide 1 24 197 none 0 [(0, .ref 133), (1, .int l1), (2, .ref a2), (3, .int l3), (4, .int l4)] [] 197 SH m (vPv P)
def J_X4_divide_31 (l1 : Int32) (a2 : Nat) (n2 : Nat) (l3 : Int32) (l5 : Int32) (l6 : Int32) (l7 : Int32) (m : vM) (P : vM → Prop) : Prop := vJ mX4_divide 1 24 197 none 31 [(0, .ref 133), (1, .int l1), (2, .ref a2), (3, .int l3), (5, .int l5), (6, .int l6), (7, .int l7)] [] 197 SH m (vPv P)
def wp_X4_divide_0 (l1 : Int32) (a2 : Nat) (n2 : Nat) (l3 : Int32) (l4 : Int32) (m : vM) (P : vM → Prop) : Prop :=
  ∀ m1 : vM, m1 = fillA m 134 6 (0 : Int32) →
  ∀ v2 : Int32, v2 = (if (if (nI n2) < (6 : Int32) then (nI n2) else (6 : Int32)) < l4 then (if (nI n2) < (6 : Int32) then (nI n2) else (6 : Int32)) else l4) →
  J_X4_divide_31 l1 a2 n2 l3 v2 (0 : Int32) l3 m1 P
set_option maxRecDepth 20000 in
set_option maxHeartbeats 4000000 in
theorem b_X4_divide_0 {l1 : Int32} {a2 : Nat} {n2 : Nat} {l3 : Int32} {l4 : Int32} {m : vM} {P : vM → Prop} (ha2 : SH a2 = (0, n2, vz)) (hw2 : a2 < 197) (h : wp_X4_divide_0 l1 a2 n2 l3 l4 m P) : J_X4_divide_0 l1 a2 n2 l3 l4 m P := by
  show vJ mX4_divide 1 24 197 none 0 [(0, .ref 133), (1, .int l1), (2, .ref a2), (3, .int l3), (4, .int l4)] [] 197 SH m (vPv P)
  unfold wp_X4_divide_0 at h
  refine vJ.aload_n dX4_divide_0 rfl rfl ?_
  refine vJ.getR (ci := 4) (k := 0) (j := 134) dX4_divide_1 sh_133 (Nat.le_of_ble_eq_true rfl) rfl inX4 (Nat.le_of_ble_eq_true rfl) rfl fl_RX4_9 ?_
  refine vJ.iconst dX4_divide_4 ci_0 ?_
  refine vJ.callS (Yc := mJ7_fill_53178) (frc := 0) (loc := 0) (as := [.ref 134, .int (0 : Int32)]) dX4_divide_5 rfl ml_RX4_18 st_yJ7_fill_53178 co_J7_fill_53178 in_java_util_Arrays pl_J7_fill_53178 (Nat.le_of_ble_eq_true rfl) (Nat.le_of_ble_eq_true rfl) (Nat.le_of_ble_eq_true rfl) ?_
  refine ev_fill (a := 134) (v := (0 : Int32)) sh_134 (Nat.le_of_ble_eq_true rfl) (fun m1 em1 => ?_)
  replace h := h m1 em1
  refine vJ.iload dX4_divide_8 rfl ?_
  refine vJ.aload_n dX4_divide_10 rfl rfl ?_
  refine vJ.getR (ci := 4) (k := 0) (j := 134) dX4_divide_11 sh_133 (Nat.le_of_ble_eq_true rfl) rfl inX4 (Nat.le_of_ble_eq_true rfl) rfl fl_RX4_9 ?_
  refine vJ.alen0 (v := (6 : Int32)) dX4_divide_14 sh_134 (Nat.le_of_ble_eq_true rfl) rfl ?_
  refine vJ.aload_n dX4_divide_15 rfl rfl ?_
  refine vJ.alen0 (v := (nI n2)) dX4_divide_16 ha2 hw2 rfl ?_
  refine vJ.mmin dX4_divide_17 ml_RX4_24 st_Lib_Math_min_name in_java_lang_Math co_Math_min (Nat.le_of_ble_eq_true rfl) (Nat.le_of_ble_eq_true rfl) ?_
  refine vJ.mmin dX4_divide_20 ml_RX4_24 st_Lib_Math_min_name in_java_lang_Math co_Math_min (Nat.le_of_ble_eq_true rfl) (Nat.le_of_ble_eq_true rfl) ?_
  refine vJ.topi (fun v2 ev2 => ?_)
  replace h := h v2 ev2
  refine vJ.istore (ls2 := [(0, .ref 133), (1, .int l1), (2, .ref a2), (3, .int l3), (4, .int l4), (5, .int v2)]) dX4_divide_23 (Nat.le_of_ble_eq_true rfl) rfl ?_
  refine vJ.iconst dX4_divide_25 ci_0 ?_
  refine vJ.istore (ls2 := [(0, .ref 133), (1, .int l1), (2, .ref a2), (3, .int l3), (4, .int l4), (5, .int v2), (6, .int (0 : Int32))]) dX4_divide_26 (Nat.le_of_ble_eq_true rfl) rfl ?_
  refine vJ.iload_n dX4_divide_28 rfl rfl ?_
  refine vJ.istore (ls2 := [(0, .ref 133), (1, .int l1), (2, .ref a2), (3, .int l3), (4, .int l4), (5, .int v2), (6, .int (0 : Int32)), (7, .int l3)]) dX4_divide_29 (Nat.le_of_ble_eq_true rfl) rfl ?_
  refine vJ.sub [0, 1, 2, 3, 5, 6, 7] rfl ?_
  exact h
def EI_X4_divide (l1 : Int32) (a2 : Nat) (n2 : Nat) (l3 : Int32) (l4 : Int32) (m : vM) (P : vM → Prop) : Prop := Ev mX4_divide 1 24 197 [.ref 133, .int l1, .ref a2, .int l3, .int l4] 197 SH m (vPv P)
theorem f_X4_divide {l1 : Int32} {a2 : Nat} {n2 : Nat} {l3 : Int32} {l4 : Int32} {m : vM} {P : vM → Prop} (h : J_X4_divide_0 l1 a2 n2 l3 l4 m P) : EI_X4_divide l1 a2 n2 l3 l4 m P := Ev.of pn_X4_divide (Nat.le_of_ble_eq_true rfl) h
def J_X4_divide_70 (l1 : Int32) (a2 : Nat) (n2 : Nat) (l3 : Int32) (l5 : Int32) (l6 : Int32) (l7 : Int32) (l8 : Int32) (m : vM) (P : vM → Prop) : Prop := vJ mX4_divide 1 24 197 none 70 [(0, .ref 133), (1, .int l1), (2, .ref a2), (3, .int l3), (5, .int l5), (6, .int l6), (7, .int l7), (8, .int l8)] [] 197 SH m (vPv P)
def wp_X4_divide_31 (l1 : Int32) (a2 : Nat) (n2 : Nat) (l3 : Int32) (l5 : Int32) (l6 : Int32) (l7 : Int32) (m : vM) (P : vM → Prop) : Prop :=
  ((l5 ≤ l7 →
    ((l6 < (1 : Int32) →
      P m) ∧
    (¬ l6 < (1 : Int32) →
      (((0 : Int32) ≤ l3 →
        J_X4_divide_70 l1 a2 n2 l3 l5 l6 l1 l3 m P) ∧
      (¬ (0 : Int32) ≤ l3 →
        P m))))) ∧
  (¬ l5 ≤ l7 →
    vp_in l7 n2 ∧
    ∀ v4 : Int32, v4 = (l6 + (m.1 a2 (Int32.toNatClampNeg l7))) →
    J_X4_divide_31 l1 a2 n2 l3 l5 v4 (l7 + (1 : Int32)) m P))
set_option maxRecDepth 20000 in
set_option maxHeartbeats 4000000 in
theorem b_X4_divide_31 {l1 : Int32} {a2 : Nat} {n2 : Nat} {l3 : Int32} {l5 : Int32} {l6 : Int32} {l7 : Int32} {m : vM} {P : vM → Prop} (ha2 : SH a2 = (0, n2, vz)) (hw2 : a2 < 197) (h : wp_X4_divide_31 l1 a2 n2 l3 l5 l6 l7 m P) : J_X4_divide_31 l1 a2 n2 l3 l5 l6 l7 m P := by
  show vJ mX4_divide 1 24 197 none 31 [(0, .ref 133), (1, .int l1), (2, .ref a2), (3, .int l3), (5, .int l5), (6, .int l6), (7, .int l7)] [] 197 SH m (vPv P)
  unfold wp_X4_divide_31 at h
  refine vJ.iload dX4_divide_31 rfl ?_
  refine vJ.iload dX4_divide_33 rfl ?_
  refine vJ.icmp_ge (tgt := 53) dX4_divide_35 (by decide) (fun hc5 => ?_) (fun hc5 => ?_)
  · replace h := h.1 hc5
    refine vJ.iload dX4_divide_53 rfl ?_
    refine vJ.iconst dX4_divide_55 ci_1 ?_
    refine vJ.icmp_lt (tgt := 63) dX4_divide_56 (by decide) (fun hc2 => ?_) (fun hc2 => ?_)
    · replace h := h.1 hc2
      exact vJ.vreturn dX4_divide_63 rfl rfl ⟨rfl, rfl, h⟩
    · replace h := h.2 hc2
      refine vJ.iload_n dX4_divide_59 rfl rfl ?_
      refine vJ.if_ge (tgt := 64) dX4_divide_60 (by decide) (fun hc1 => ?_) (fun hc1 => ?_)
      · replace h := h.1 hc1
        refine vJ.iload_n dX4_divide_64 rfl rfl ?_
        refine vJ.istore (ls2 := [(0, .ref 133), (1, .int l1), (2, .ref a2), (3, .int l3), (5, .int l5), (6, .int l6), (7, .int l1)]) dX4_divide_65 (Nat.le_of_ble_eq_true rfl) rfl ?_
        refine vJ.iload_n dX4_divide_67 rfl rfl ?_
        refine vJ.istore (ls2 := [(0, .ref 133), (1, .int l1), (2, .ref a2), (3, .int l3), (5, .int l5), (6, .int l6), (7, .int l1), (8, .int l3)]) dX4_divide_68 (Nat.le_of_ble_eq_true rfl) rfl ?_
        exact h
      · replace h := h.2 hc1
        exact vJ.vreturn dX4_divide_63 rfl rfl ⟨rfl, rfl, h⟩
  · replace h := h.2 hc5
    refine vJ.iload dX4_divide_38 rfl ?_
    refine vJ.aload_n dX4_divide_40 rfl rfl ?_
    refine vJ.iload dX4_divide_41 rfl ?_
    obtain ⟨hb3, h⟩ := h
    refine vJ.iald dX4_divide_43 ha2 hw2 hb3 ?_
    refine vJ.iadd dX4_divide_44 ?_
    refine vJ.topi (fun v4 ev4 => ?_)
    replace h := h v4 ev4
    refine vJ.istore (ls2 := [(0, .ref 133), (1, .int l1), (2, .ref a2), (3, .int l3), (5, .int l5), (6, .int v4), (7, .int l7)]) dX4_divide_45 (Nat.le_of_ble_eq_true rfl) rfl ?_
    refine vJ.iinc (v := l7 + (1 : Int32)) (ls2 := [(0, .ref 133), (1, .int l1), (2, .ref a2), (3, .int l3), (5, .int l5), (6, .int v4), (7, .int (l7 + (1 : Int32)))]) dX4_divide_47 rfl (congrArg (l7 + ·) ci_1) (Nat.le_of_ble_eq_true rfl) rfl ?_
    refine vJ.goto (tgt := 31) dX4_divide_50 (by decide) ?_
    exact h
def J_X4_divide_130 (l3 : Int32) (l5 : Int32) (l7 : Int32) (l8 : Int32) (m : vM) (P : vM → Prop) : Prop := vJ mX4_divide 1 24 197 none 130 [(0, .ref 133), (3, .int l3), (5, .int l5), (7, .int l7), (8, .int l8)] [] 197 SH m (vPv P)
def wp_X4_divide_70 (l1 : Int32) (a2 : Nat) (n2 : Nat) (l3 : Int32) (l5 : Int32) (l6 : Int32) (l7 : Int32) (l8 : Int32) (m : vM) (P : vM → Prop) : Prop :=
  ((l5 ≤ l8 →
    J_X4_divide_130 l3 l5 l7 (0 : Int32) m P) ∧
  (¬ l5 ≤ l8 →
    vp_in l8 n2 ∧
    (¬ l6 = 0) ∧
    vp_in l8 6 ∧
    ∀ m4 : vM, m4 = upI m 134 (Int32.toNatClampNeg l8) ((l1 * (m.1 a2 (Int32.toNatClampNeg l8))) / l6) →
    vp_in l8 n2 ∧
    (¬ l6 = 0) ∧
    vp_in l8 6 ∧
    ∀ m8 : vM, m8 = upI m4 135 (Int32.toNatClampNeg l8) ((l1 * (m4.1 a2 (Int32.toNatClampNeg l8))) - (l1 * (m4.1 a2 (Int32.toNatClampNeg l8))) / l6 * l6) →
    vp_in l8 6 ∧
    ∀ v10 : Int32, v10 = (l7 - (m8.1 134 (Int32.toNatClampNeg l8))) →
    J_X4_divide_70 l1 a2 n2 l3 l5 l6 v10 (l8 + (1 : Int32)) m8 P))
set_option maxRecDepth 20000 in
set_option maxHeartbeats 4000000 in
theorem b_X4_divide_70 {l1 : Int32} {a2 : Nat} {n2 : Nat} {l3 : Int32} {l5 : Int32} {l6 : Int32} {l7 : Int32} {l8 : Int32} {m : vM} {P : vM → Prop} (ha2 : SH a2 = (0, n2, vz)) (hw2 : a2 < 197) (h : wp_X4_divide_70 l1 a2 n2 l3 l5 l6 l7 l8 m P) : J_X4_divide_70 l1 a2 n2 l3 l5 l6 l7 l8 m P := by
  show vJ mX4_divide 1 24 197 none 70 [(0, .ref 133), (1, .int l1), (2, .ref a2), (3, .int l3), (5, .int l5), (6, .int l6), (7, .int l7), (8, .int l8)] [] 197 SH m (vPv P)
  unfold wp_X4_divide_70 at h
  refine vJ.iload dX4_divide_70 rfl ?_
  refine vJ.iload dX4_divide_72 rfl ?_
  refine vJ.icmp_ge (tgt := 127) dX4_divide_74 (by decide) (fun hc11 => ?_) (fun hc11 => ?_)
  · replace h := h.1 hc11
    refine vJ.iconst dX4_divide_127 ci_0 ?_
    refine vJ.istore (ls2 := [(0, .ref 133), (1, .int l1), (2, .ref a2), (3, .int l3), (5, .int l5), (6, .int l6), (7, .int l7), (8, .int (0 : Int32))]) dX4_divide_128 (Nat.le_of_ble_eq_true rfl) rfl ?_
    refine vJ.sub [0, 3, 4, 6, 7] rfl ?_
    exact h
  · replace h := h.2 hc11
    refine vJ.aload_n dX4_divide_77 rfl rfl ?_
    refine vJ.getR (ci := 4) (k := 0) (j := 134) dX4_divide_78 sh_133 (Nat.le_of_ble_eq_true rfl) rfl inX4 (Nat.le_of_ble_eq_true rfl) rfl fl_RX4_9 ?_
    refine vJ.iload dX4_divide_81 rfl ?_
    refine vJ.iload_n dX4_divide_83 rfl rfl ?_
    refine vJ.aload_n dX4_divide_84 rfl rfl ?_
    refine vJ.iload dX4_divide_85 rfl ?_
    obtain ⟨hb1, h⟩ := h
    refine vJ.iald dX4_divide_87 ha2 hw2 hb1 ?_
    refine vJ.imul dX4_divide_88 ?_
    refine vJ.iload dX4_divide_89 rfl ?_
    obtain ⟨hz2, h⟩ := h
    refine vJ.idiv dX4_divide_91 hz2 ?_
    obtain ⟨hb3, h⟩ := h
    refine vJ.iast dX4_divide_92 sh_134 (Nat.le_of_ble_eq_true rfl) hb3 ?_
    refine vJ.topm (fun m4 em4 => ?_)
    replace h := h m4 em4
    refine vJ.aload_n dX4_divide_93 rfl rfl ?_
    refine vJ.getR (ci := 4) (k := 1) (j := 135) dX4_divide_94 sh_133 (Nat.le_of_ble_eq_true rfl) rfl inX4 (Nat.le_of_ble_eq_true rfl) rfl fl_RX4_15 ?_
    refine vJ.iload dX4_divide_97 rfl ?_
    refine vJ.iload_n dX4_divide_99 rfl rfl ?_
    refine vJ.aload_n dX4_divide_100 rfl rfl ?_
    refine vJ.iload dX4_divide_101 rfl ?_
    obtain ⟨hb5, h⟩ := h
    refine vJ.iald dX4_divide_103 ha2 hw2 hb5 ?_
    refine vJ.imul dX4_divide_104 ?_
    refine vJ.iload dX4_divide_105 rfl ?_
    obtain ⟨hz6, h⟩ := h
    refine vJ.irem dX4_divide_107 hz6 ?_
    obtain ⟨hb7, h⟩ := h
    refine vJ.iast dX4_divide_108 sh_135 (Nat.le_of_ble_eq_true rfl) hb7 ?_
    refine vJ.topm (fun m8 em8 => ?_)
    replace h := h m8 em8
    refine vJ.iload dX4_divide_109 rfl ?_
    refine vJ.aload_n dX4_divide_111 rfl rfl ?_
    refine vJ.getR (ci := 4) (k := 0) (j := 134) dX4_divide_112 sh_133 (Nat.le_of_ble_eq_true rfl) rfl inX4 (Nat.le_of_ble_eq_true rfl) rfl fl_RX4_9 ?_
    refine vJ.iload dX4_divide_115 rfl ?_
    obtain ⟨hb9, h⟩ := h
    refine vJ.iald dX4_divide_117 sh_134 (Nat.le_of_ble_eq_true rfl) hb9 ?_
    refine vJ.isub dX4_divide_118 ?_
    refine vJ.topi (fun v10 ev10 => ?_)
    replace h := h v10 ev10
    refine vJ.istore (ls2 := [(0, .ref 133), (1, .int l1), (2, .ref a2), (3, .int l3), (5, .int l5), (6, .int l6), (7, .int v10), (8, .int l8)]) dX4_divide_119 (Nat.le_of_ble_eq_true rfl) rfl ?_
    refine vJ.iinc (v := l8 + (1 : Int32)) (ls2 := [(0, .ref 133), (1, .int l1), (2, .ref a2), (3, .int l3), (5, .int l5), (6, .int l6), (7, .int v10), (8, .int (l8 + (1 : Int32)))]) dX4_divide_121 rfl (congrArg (l8 + ·) ci_1) (Nat.le_of_ble_eq_true rfl) rfl ?_
    refine vJ.goto (tgt := 70) dX4_divide_124 (by decide) ?_
    exact h
def wp_X4_divide_130 (l3 : Int32) (l5 : Int32) (l7 : Int32) (l8 : Int32) (m : vM) (P : vM → Prop) : Prop :=
  ((l7 ≤ l8 →
    P m) ∧
  (¬ l7 ≤ l8 →
    (((6 : Int32) ≤ l8 →
      P m) ∧
    (¬ (6 : Int32) ≤ l8 →
      EI_X4_giveOne l3 l5 m (fun m1 =>
        J_X4_divide_130 l3 l5 l7 (l8 + (1 : Int32)) m1 P)))))
set_option maxRecDepth 20000 in
set_option maxHeartbeats 4000000 in
theorem b_X4_divide_130 {l3 : Int32} {l5 : Int32} {l7 : Int32} {l8 : Int32} {m : vM} {P : vM → Prop}  (h : wp_X4_divide_130 l3 l5 l7 l8 m P) : J_X4_divide_130 l3 l5 l7 l8 m P := by
  show vJ mX4_divide 1 24 197 none 130 [(0, .ref 133), (3, .int l3), (5, .int l5), (7, .int l7), (8, .int l8)] [] 197 SH m (vPv P)
  unfold wp_X4_divide_130 at h
  refine vJ.iload dX4_divide_130 rfl ?_
  refine vJ.iload dX4_divide_132 rfl ?_
  refine vJ.icmp_ge (tgt := 157) dX4_divide_134 (by decide) (fun hc3 => ?_) (fun hc3 => ?_)
  · replace h := h.1 hc3
    exact vJ.vreturn dX4_divide_157 rfl rfl ⟨rfl, rfl, h⟩
  · replace h := h.2 hc3
    refine vJ.iload dX4_divide_137 rfl ?_
    refine vJ.bipush dX4_divide_139 cb_6 ?_
    refine vJ.icmp_ge (tgt := 157) dX4_divide_141 (by decide) (fun hc2 => ?_) (fun hc2 => ?_)
    · replace h := h.1 hc2
      exact vJ.vreturn dX4_divide_157 rfl rfl ⟨rfl, rfl, h⟩
    · replace h := h.2 hc2
      refine vJ.aload_n dX4_divide_144 rfl rfl ?_
      refine vJ.iload_n dX4_divide_145 rfl rfl ?_
      refine vJ.iload dX4_divide_146 rfl ?_
      refine vJ.callV (ci := 4) (Yc := mX4_giveOne) (frc := 0) (loc := 0) (as := [.int l3, .int l5]) dX4_divide_148 rfl sh_133 (Nat.le_of_ble_eq_true rfl) rfl ml_RX4_30 im_yX4_giveOne se_yX4_giveOne co_X4_giveOne in_TableSetter_Share pl_X4_giveOne (Nat.le_of_ble_eq_true rfl) (Nat.le_of_ble_eq_true rfl) (Nat.le_of_ble_eq_true rfl) ?_
      refine Ev.gv h (fun m1 h => ?_)
      refine vJ.iinc (v := l8 + (1 : Int32)) (ls2 := [(0, .ref 133), (3, .int l3), (5, .int l5), (7, .int l7), (8, .int (l8 + (1 : Int32)))]) dX4_divide_151 rfl (congrArg (l8 + ·) ci_1) (Nat.le_of_ble_eq_true rfl) rfl ?_
      refine vJ.goto (tgt := 130) dX4_divide_154 (by decide) ?_
      exact h
