def J_X0_forgetLines_0 (i0 : Nat) (m : vM) (P : vM → Prop) : Prop := vJ mX0_forgetLines 1 23 197 none 0 [(0, .ref (cA i0))] [] 197 SH m (vPv P)
def wp_X0_forgetLines (i0 : Nat) (m : vM) (P : vM → Prop) : Prop :=
  ∀ m1 : vM, m1 = fillA m (cA i0 + 2) 252 (-1 : Int32) →
  P m1
set_option maxRecDepth 20000 in
set_option maxHeartbeats 4000000 in
theorem b_X0_forgetLines {i0 : Nat} {m : vM} {P : vM → Prop} (hi0 : i0 < 40) (h : wp_X0_forgetLines i0 m P) : J_X0_forgetLines_0 i0 m P := by
  show vJ mX0_forgetLines 1 23 197 none 0 [(0, .ref (cA i0))] [] 197 SH m (vPv P)
  unfold wp_X0_forgetLines at h
  refine vJ.aload_n dX0_forgetLines_0 rfl rfl ?_
  refine vJ.getR (ci := 0) (k := 10) (j := cA i0 + 2) dX0_forgetLines_1 (sh_C hi0) (lt_C hi0) rfl inX0 (Nat.le_of_ble_eq_true rfl) rfl fl_RX0_15 ?_
  refine vJ.iconst dX0_forgetLines_4 ci_m1 ?_
  refine vJ.callS (Yc := mJ7_fill_53178) (frc := 0) (loc := 0) (as := [.ref (cA i0 + 2), .int (-1 : Int32)]) dX0_forgetLines_5 rfl ml_RX0_51 st_yJ7_fill_53178 co_J7_fill_53178 in_java_util_Arrays pl_J7_fill_53178 (Nat.le_of_ble_eq_true rfl) (Nat.le_of_ble_eq_true rfl) (Nat.le_of_ble_eq_true rfl) ?_
  refine ev_fill (a := (cA i0 + 2)) (v := (-1 : Int32)) (sh_K hi0) (lt_K hi0) (fun m1 em1 => ?_)
  replace h := h m1 em1
  exact vJ.vreturn dX0_forgetLines_8 rfl rfl ⟨rfl, rfl, h⟩
def EI_X0_forgetLines (i0 : Nat) (m : vM) (P : vM → Prop) : Prop := Ev mX0_forgetLines 1 23 197 [.ref (cA i0)] 197 SH m (vPv P)
theorem f_X0_forgetLines {i0 : Nat} {m : vM} {P : vM → Prop} (h : J_X0_forgetLines_0 i0 m P) : EI_X0_forgetLines i0 m P := Ev.of pn_X0_forgetLines (Nat.le_of_ble_eq_true rfl) h
theorem e_X0_forgetLines {i0 : Nat} {m : vM} {P : vM → Prop} (hi0 : i0 < 40) (h : wp_X0_forgetLines i0 m P) : EI_X0_forgetLines i0 m P := f_X0_forgetLines (b_X0_forgetLines hi0 h)
def J_X0_fill_0 (i0 : Nat) (l1 : Int32) (m : vM) (P : vM → Prop) : Prop := vJ mX0_fill 2 43 197 none 0 [(0, .ref (cA i0)), (1, .int l1)] [] 197 SH m (vPv P)
def wp_X0_fill (i0 : Nat) (l1 : Int32) (m : vM) (P : vM → Prop) : Prop :=
  ∀ m1 : vM, m1 = upI m (cA i0) 7 l1 →
  ∀ m2 : vM, m2 = fillA m1 (cA i0 + 1) 12 (1 : Int32) →
  wp_X0_forgetLines i0 m2 (fun m3 =>
    P m3)
set_option maxRecDepth 20000 in
set_option maxHeartbeats 4000000 in
theorem b_X0_fill {i0 : Nat} {l1 : Int32} {m : vM} {P : vM → Prop} (hi0 : i0 < 40) (h : wp_X0_fill i0 l1 m P) : J_X0_fill_0 i0 l1 m P := by
  show vJ mX0_fill 2 43 197 none 0 [(0, .ref (cA i0)), (1, .int l1)] [] 197 SH m (vPv P)
  unfold wp_X0_fill at h
  refine vJ.aload_n dX0_fill_0 rfl rfl ?_
  refine vJ.iload_n dX0_fill_1 rfl rfl ?_
  refine vJ.putI (ci := 0) (k := 7) dX0_fill_2 (sh_C hi0) (lt_C hi0) rfl inX0 tyX0 tyX0_ok nmX0 (Nat.le_of_ble_eq_true rfl) rfl rfl fl_RX0_48 rfl rfl ?_
  refine vJ.topm (fun m1 em1 => ?_)
  replace h := h m1 em1
  refine vJ.aload_n dX0_fill_5 rfl rfl ?_
  refine vJ.getR (ci := 0) (k := 9) (j := cA i0 + 1) dX0_fill_6 (sh_C hi0) (lt_C hi0) rfl inX0 (Nat.le_of_ble_eq_true rfl) rfl fl_RX0_9 ?_
  refine vJ.iconst dX0_fill_9 ci_1 ?_
  refine vJ.callS (Yc := mJ7_fill_53178) (frc := 0) (loc := 0) (as := [.ref (cA i0 + 1), .int (1 : Int32)]) dX0_fill_10 rfl ml_RX0_51 st_yJ7_fill_53178 co_J7_fill_53178 in_java_util_Arrays pl_J7_fill_53178 (Nat.le_of_ble_eq_true rfl) (Nat.le_of_ble_eq_true rfl) (Nat.le_of_ble_eq_true rfl) ?_
  refine ev_fill (a := (cA i0 + 1)) (v := (1 : Int32)) (sh_L hi0) (lt_L hi0) (fun m2 em2 => ?_)
  replace h := h m2 em2
  refine vJ.aload_n dX0_fill_13 rfl rfl ?_
  refine vJ.callV (ci := 0) (Yc := mX0_forgetLines) (frc := 1) (loc := 23) (as := []) dX0_fill_14 rfl (sh_C hi0) (lt_C hi0) rfl ml_RX0_56 im_yX0_forgetLines se_yX0_forgetLines co_X0_forgetLines in_TableSetter_Cell pl_X0_forgetLines (Nat.le_of_ble_eq_true rfl) (Nat.le_of_ble_eq_true rfl) (Nat.le_of_ble_eq_true rfl) ?_
  refine Ev.gv (e_X0_forgetLines hi0 h) (fun m3 h => ?_)
  exact vJ.vreturn dX0_fill_17 rfl rfl ⟨rfl, rfl, h⟩
def EI_X0_fill (i0 : Nat) (l1 : Int32) (m : vM) (P : vM → Prop) : Prop := Ev mX0_fill 2 43 197 [.ref (cA i0), .int l1] 197 SH m (vPv P)
theorem f_X0_fill {i0 : Nat} {l1 : Int32} {m : vM} {P : vM → Prop} (h : J_X0_fill_0 i0 l1 m P) : EI_X0_fill i0 l1 m P := Ev.of pn_X0_fill (Nat.le_of_ble_eq_true rfl) h
theorem e_X0_fill {i0 : Nat} {l1 : Int32} {m : vM} {P : vM → Prop} (hi0 : i0 < 40) (h : wp_X0_fill i0 l1 m P) : EI_X0_fill i0 l1 m P := f_X0_fill (b_X0_fill hi0 h)
def J_X0_begin_0 (i0 : Nat) (l1 : Int32) (l2 : Int32) (l3 : Int32) (l4 : Int32) (l5 : Int32) (m : vM) (P : vM → Prop) : Prop := vJ mX0_begin 3 64 197 none 0 [(0, .ref (cA i0)), (1, .int l1), (2, .int l2), (3, .int l3), (4, .int l4), (5, .int l5)] [] 197 SH m (vPv P)
def wp_X0_begin (i0 : Nat) (l1 : Int32) (l2 : Int32) (l3 : Int32) (l4 : Int32) (l5 : Int32) (m : vM) (P : vM → Prop) : Prop :=
  ∀ m1 : vM, m1 = upI m (cA i0) 0 l1 →
  ∀ m2 : vM, m2 = upI m1 (cA i0) 1 l2 →
  ∀ m3 : vM, m3 = upI m2 (cA i0) 2 l3 →
  ∀ m4 : vM, m4 = upI m3 (cA i0) 3 l4 →
  ∀ m5 : vM, m5 = upI m4 (cA i0) 4 l5 →
  ∀ m6 : vM, m6 = upI m5 (cA i0) 5 (0 : Int32) →
  ∀ m7 : vM, m7 = upI m6 (cA i0) 6 (1 : Int32) →
  ∀ m8 : vM, m8 = upI m7 (cA i0) 8 (0 : Int32) →
  wp_X0_fill i0 (0 : Int32) m8 (fun m9 =>
    P m9)
set_option maxRecDepth 20000 in
set_option maxHeartbeats 4000000 in
theorem b_X0_begin {i0 : Nat} {l1 : Int32} {l2 : Int32} {l3 : Int32} {l4 : Int32} {l5 : Int32} {m : vM} {P : vM → Prop} (hi0 : i0 < 40) (h : wp_X0_begin i0 l1 l2 l3 l4 l5 m P) : J_X0_begin_0 i0 l1 l2 l3 l4 l5 m P := by
  show vJ mX0_begin 3 64 197 none 0 [(0, .ref (cA i0)), (1, .int l1), (2, .int l2), (3, .int l3), (4, .int l4), (5, .int l5)] [] 197 SH m (vPv P)
  unfold wp_X0_begin at h
  refine vJ.aload_n dX0_begin_0 rfl rfl ?_
  refine vJ.iload_n dX0_begin_1 rfl rfl ?_
  refine vJ.putI (ci := 0) (k := 0) dX0_begin_2 (sh_C hi0) (lt_C hi0) rfl inX0 tyX0 tyX0_ok nmX0 (Nat.le_of_ble_eq_true rfl) rfl rfl fl_RX0_18 rfl rfl ?_
  refine vJ.topm (fun m1 em1 => ?_)
  replace h := h m1 em1
  refine vJ.aload_n dX0_begin_5 rfl rfl ?_
  refine vJ.iload_n dX0_begin_6 rfl rfl ?_
  refine vJ.putI (ci := 0) (k := 1) dX0_begin_7 (sh_C hi0) (lt_C hi0) rfl inX0 tyX0 tyX0_ok nmX0 (Nat.le_of_ble_eq_true rfl) rfl rfl fl_RX0_22 rfl rfl ?_
  refine vJ.topm (fun m2 em2 => ?_)
  replace h := h m2 em2
  refine vJ.aload_n dX0_begin_10 rfl rfl ?_
  refine vJ.iload_n dX0_begin_11 rfl rfl ?_
  refine vJ.putI (ci := 0) (k := 2) dX0_begin_12 (sh_C hi0) (lt_C hi0) rfl inX0 tyX0 tyX0_ok nmX0 (Nat.le_of_ble_eq_true rfl) rfl rfl fl_RX0_25 rfl rfl ?_
  refine vJ.topm (fun m3 em3 => ?_)
  replace h := h m3 em3
  refine vJ.aload_n dX0_begin_15 rfl rfl ?_
  refine vJ.iload dX0_begin_16 rfl ?_
  refine vJ.putI (ci := 0) (k := 3) dX0_begin_18 (sh_C hi0) (lt_C hi0) rfl inX0 tyX0 tyX0_ok nmX0 (Nat.le_of_ble_eq_true rfl) rfl rfl fl_RX0_28 rfl rfl ?_
  refine vJ.topm (fun m4 em4 => ?_)
  replace h := h m4 em4
  refine vJ.aload_n dX0_begin_21 rfl rfl ?_
  refine vJ.iload dX0_begin_22 rfl ?_
  refine vJ.putI (ci := 0) (k := 4) dX0_begin_24 (sh_C hi0) (lt_C hi0) rfl inX0 tyX0 tyX0_ok nmX0 (Nat.le_of_ble_eq_true rfl) rfl rfl fl_RX0_31 rfl rfl ?_
  refine vJ.topm (fun m5 em5 => ?_)
  replace h := h m5 em5
  refine vJ.aload_n dX0_begin_27 rfl rfl ?_
  refine vJ.iconst dX0_begin_28 ci_0 ?_
  refine vJ.putI (ci := 0) (k := 5) dX0_begin_29 (sh_C hi0) (lt_C hi0) rfl inX0 tyX0 tyX0_ok nmX0 (Nat.le_of_ble_eq_true rfl) rfl rfl fl_RX0_34 rfl rfl ?_
  refine vJ.topm (fun m6 em6 => ?_)
  replace h := h m6 em6
  refine vJ.aload_n dX0_begin_32 rfl rfl ?_
  refine vJ.iconst dX0_begin_33 ci_1 ?_
  refine vJ.putI (ci := 0) (k := 6) dX0_begin_34 (sh_C hi0) (lt_C hi0) rfl inX0 tyX0 tyX0_ok nmX0 (Nat.le_of_ble_eq_true rfl) rfl rfl fl_RX0_37 rfl rfl ?_
  refine vJ.topm (fun m7 em7 => ?_)
  replace h := h m7 em7
  refine vJ.aload_n dX0_begin_37 rfl rfl ?_
  refine vJ.iconst dX0_begin_38 ci_0 ?_
  refine vJ.putI (ci := 0) (k := 8) dX0_begin_39 (sh_C hi0) (lt_C hi0) rfl inX0 tyX0 tyX0_ok nmX0 (Nat.le_of_ble_eq_true rfl) rfl rfl fl_RX0_40 (by decide) (by decide) ?_
  refine vJ.topm (fun m8 em8 => ?_)
  replace h := h m8 em8
  refine vJ.aload_n dX0_begin_42 rfl rfl ?_
  refine vJ.iconst dX0_begin_43 ci_0 ?_
  refine vJ.callV (ci := 0) (Yc := mX0_fill) (frc := 2) (loc := 43) (as := [.int (0 : Int32)]) dX0_begin_44 rfl (sh_C hi0) (lt_C hi0) rfl ml_RX0_44 im_yX0_fill se_yX0_fill co_X0_fill in_TableSetter_Cell pl_X0_fill (Nat.le_of_ble_eq_true rfl) (Nat.le_of_ble_eq_true rfl) (Nat.le_of_ble_eq_true rfl) ?_
  refine Ev.gv (e_X0_fill hi0 h) (fun m9 h => ?_)
  exact vJ.vreturn dX0_begin_47 rfl rfl ⟨rfl, rfl, h⟩
def EI_X0_begin (i0 : Nat) (l1 : Int32) (l2 : Int32) (l3 : Int32) (l4 : Int32) (l5 : Int32) (m : vM) (P : vM → Prop) : Prop := Ev mX0_begin 3 64 197 [.ref (cA i0), .int l1, .int l2, .int l3, .int l4, .int l5] 197 SH m (vPv P)
theorem f_X0_begin {i0 : Nat} {l1 : Int32} {l2 : Int32} {l3 : Int32} {l4 : Int32} {l5 : Int32} {m : vM} {P : vM → Prop} (h : J_X0_begin_0 i0 l1 l2 l3 l4 l5 m P) : EI_X0_begin i0 l1 l2 l3 l4 l5 m P := Ev.of pn_X0_begin (Nat.le_of_ble_eq_true rfl) h
theorem e_X0_begin {i0 : Nat} {l1 : Int32} {l2 : Int32} {l3 : Int32} {l4 : Int32} {l5 : Int32} {m : vM} {P : vM → Prop} (hi0 : i0 < 40) (h : wp_X0_begin i0 l1 l2 l3 l4 l5 m P) : EI_X0_begin i0 l1 l2 l3 l4 l5 m P := f_X0_begin (b_X0_begin hi0 h)
def J_X0_meets_0 (i0 : Nat) (l1 : Int32) (l2 : Int32) (l3 : Int32) (l4 : Int32) (m : vM) (P : Int32 → vM → Prop) : Prop := vJ mX0_meets 0 0 197 none 0 [(0, .ref (cA i0)), (1, .int l1), (2, .int l2), (3, .int l3), (4, .int l4)] [] 197 SH m (vPi P)
def wp_X0_meets (i0 : Nat) (l1 : Int32) (l2 : Int32) (l3 : Int32) (l4 : Int32) (m : vM) (P : Int32 → vM → Prop) : Prop :=
  ((((m.1 (cA i0) 1) + (m.1 (cA i0) 3)) ≤ l1 →
    P (0 : Int32) m) ∧
  (¬ ((m.1 (cA i0) 1) + (m.1 (cA i0) 3)) ≤ l1 →
    (((l1 + l3) ≤ (m.1 (cA i0) 1) →
      P (0 : Int32) m) ∧
    (¬ (l1 + l3) ≤ (m.1 (cA i0) 1) →
      ((((m.1 (cA i0) 2) + (m.1 (cA i0) 4)) ≤ l2 →
        P (0 : Int32) m) ∧
      (¬ ((m.1 (cA i0) 2) + (m.1 (cA i0) 4)) ≤ l2 →
        (((l2 + l4) ≤ (m.1 (cA i0) 2) →
          P (0 : Int32) m) ∧
        (¬ (l2 + l4) ≤ (m.1 (cA i0) 2) →
          P (1 : Int32) m))))))))
set_option maxRecDepth 20000 in
set_option maxHeartbeats 4000000 in
theorem b_X0_meets {i0 : Nat} {l1 : Int32} {l2 : Int32} {l3 : Int32} {l4 : Int32} {m : vM} {P : Int32 → vM → Prop} (hi0 : i0 < 40) (h : wp_X0_meets i0 l1 l2 l3 l4 m P) : J_X0_meets_0 i0 l1 l2 l3 l4 m P := by
  show vJ mX0_meets 0 0 197 none 0 [(0, .ref (cA i0)), (1, .int l1), (2, .int l2), (3, .int l3), (4, .int l4)] [] 197 SH m (vPi P)
  unfold wp_X0_meets at h
  refine vJ.iload_n dX0_meets_0 rfl rfl ?_
  refine vJ.aload_n dX0_meets_1 rfl rfl ?_
  refine vJ.getI (ci := 0) (k := 1) dX0_meets_2 (sh_C hi0) (lt_C hi0) rfl inX0 (Nat.le_of_ble_eq_true rfl) rfl fl_RX0_22 ?_
  refine vJ.aload_n dX0_meets_5 rfl rfl ?_
  refine vJ.getI (ci := 0) (k := 3) dX0_meets_6 (sh_C hi0) (lt_C hi0) rfl inX0 (Nat.le_of_ble_eq_true rfl) rfl fl_RX0_28 ?_
  refine vJ.iadd dX0_meets_9 ?_
  refine vJ.icmp_ge (tgt := 51) dX0_meets_10 (by decide) (fun hc4 => ?_) (fun hc4 => ?_)
  · replace h := h.1 hc4
    refine vJ.iconst dX0_meets_51 ci_0 ?_
    exact vJ.ireturn dX0_meets_52 rfl (by decide) rfl ⟨rfl, _, rfl, h⟩
  · replace h := h.2 hc4
    refine vJ.aload_n dX0_meets_13 rfl rfl ?_
    refine vJ.getI (ci := 0) (k := 1) dX0_meets_14 (sh_C hi0) (lt_C hi0) rfl inX0 (Nat.le_of_ble_eq_true rfl) rfl fl_RX0_22 ?_
    refine vJ.iload_n dX0_meets_17 rfl rfl ?_
    refine vJ.iload_n dX0_meets_18 rfl rfl ?_
    refine vJ.iadd dX0_meets_19 ?_
    refine vJ.icmp_ge (tgt := 51) dX0_meets_20 (by decide) (fun hc3 => ?_) (fun hc3 => ?_)
    · replace h := h.1 hc3
      refine vJ.iconst dX0_meets_51 ci_0 ?_
      exact vJ.ireturn dX0_meets_52 rfl (by decide) rfl ⟨rfl, _, rfl, h⟩
    · replace h := h.2 hc3
      refine vJ.iload_n dX0_meets_23 rfl rfl ?_
      refine vJ.aload_n dX0_meets_24 rfl rfl ?_
      refine vJ.getI (ci := 0) (k := 2) dX0_meets_25 (sh_C hi0) (lt_C hi0) rfl inX0 (Nat.le_of_ble_eq_true rfl) rfl fl_RX0_25 ?_
      refine vJ.aload_n dX0_meets_28 rfl rfl ?_
      refine vJ.getI (ci := 0) (k := 4) dX0_meets_29 (sh_C hi0) (lt_C hi0) rfl inX0 (Nat.le_of_ble_eq_true rfl) rfl fl_RX0_31 ?_
      refine vJ.iadd dX0_meets_32 ?_
      refine vJ.icmp_ge (tgt := 51) dX0_meets_33 (by decide) (fun hc2 => ?_) (fun hc2 => ?_)
      · replace h := h.1 hc2
        refine vJ.iconst dX0_meets_51 ci_0 ?_
        exact vJ.ireturn dX0_meets_52 rfl (by decide) rfl ⟨rfl, _, rfl, h⟩
      · replace h := h.2 hc2
        refine vJ.aload_n dX0_meets_36 rfl rfl ?_
        refine vJ.getI (ci := 0) (k := 2) dX0_meets_37 (sh_C hi0) (lt_C hi0) rfl inX0 (Nat.le_of_ble_eq_true rfl) rfl fl_RX0_25 ?_
        refine vJ.iload_n dX0_meets_40 rfl rfl ?_
        refine vJ.iload dX0_meets_41 rfl ?_
        refine vJ.iadd dX0_meets_43 ?_
        refine vJ.icmp_ge (tgt := 51) dX0_meets_44 (by decide) (fun hc1 => ?_) (fun hc1 => ?_)
        · replace h := h.1 hc1
          refine vJ.iconst dX0_meets_51 ci_0 ?_
          exact vJ.ireturn dX0_meets_52 rfl (by decide) rfl ⟨rfl, _, rfl, h⟩
        · replace h := h.2 hc1
          refine vJ.iconst dX0_meets_47 ci_1 ?_
          refine vJ.goto (tgt := 52) dX0_meets_48 (by decide) ?_
          exact vJ.ireturn dX0_meets_52 rfl (by decide) rfl ⟨rfl, _, rfl, h⟩
def EI_X0_meets (i0 : Nat) (l1 : Int32) (l2 : Int32) (l3 : Int32) (l4 : Int32) (m : vM) (P : Int32 → vM → Prop) : Prop := Ev mX0_meets 0 0 197 [.ref (cA i0), .int l1, .int l2, .int l3, .int l4] 197 SH m (vPi P)
theorem f_X0_meets {i0 : Nat} {l1 : Int32} {l2 : Int32} {l3 : Int32} {l4 : Int32} {m : vM} {P : Int32 → vM → Prop} (h : J_X0_meets_0 i0 l1 l2 l3 l4 m P) : EI_X0_meets i0 l1 l2 l3 l4 m P := Ev.of pn_X0_meets (Nat.le_of_ble_eq_true rfl) h
theorem e_X0_meets {i0 : Nat} {l1 : Int32} {l2 : Int32} {l3 : Int32} {l4 : Int32} {m : vM} {P : Int32 → vM → Prop} (hi0 : i0 < 40) (h : wp_X0_meets i0 l1 l2 l3 l4 m P) : EI_X0_meets i0 l1 l2 l3 l4 m P := f_X0_meets (b_X0_meets hi0 h)
def J_X0_fact_0 (i0 : Nat) (l1 : Int32) (m : vM) (P : Int32 → vM → Prop) : Prop := vJ mX0_fact 0 0 197 none 0 [(0, .ref (cA i0)), (1, .int l1)] [] 197 SH m (vPi P)
def wp_X0_fact (i0 : Nat) (l1 : Int32) (m : vM) (P : Int32 → vM → Prop) : Prop :=
  ((l1 = (0 : Int32) →
    P (m.1 (cA i0) 0) m) ∧
  (¬ l1 = (0 : Int32) →
    ((l1 = (1 : Int32) →
      P (m.1 (cA i0) 1) m) ∧
    (¬ l1 = (1 : Int32) →
      ((l1 = (2 : Int32) →
        P (m.1 (cA i0) 2) m) ∧
      (¬ l1 = (2 : Int32) →
        ((l1 = (3 : Int32) →
          P (m.1 (cA i0) 3) m) ∧
        (¬ l1 = (3 : Int32) →
          ((l1 = (4 : Int32) →
            P (m.1 (cA i0) 4) m) ∧
          (¬ l1 = (4 : Int32) →
            ((l1 = (5 : Int32) →
              P (m.1 (cA i0) 7) m) ∧
            (¬ l1 = (5 : Int32) →
              P (m.1 (cA i0) 5) m))))))))))))
set_option maxRecDepth 20000 in
set_option maxHeartbeats 4000000 in
theorem b_X0_fact {i0 : Nat} {l1 : Int32} {m : vM} {P : Int32 → vM → Prop} (hi0 : i0 < 40) (h : wp_X0_fact i0 l1 m P) : J_X0_fact_0 i0 l1 m P := by
  show vJ mX0_fact 0 0 197 none 0 [(0, .ref (cA i0)), (1, .int l1)] [] 197 SH m (vPi P)
  unfold wp_X0_fact at h
  refine vJ.iload_n dX0_fact_0 rfl rfl ?_
  by_cases hk0 : l1 = (0 : Int32)
  · replace h := h.1 hk0
    refine vJ.tabIn (tgt := 40) dX0_fact_1 (by rw [hk0]; decide) (by rw [hk0]; decide) (by rw [hk0]; rfl) (by decide) ?_
    refine vJ.aload_n dX0_fact_40 rfl rfl ?_
    refine vJ.getI (ci := 0) (k := 0) dX0_fact_41 (sh_C hi0) (lt_C hi0) rfl inX0 (Nat.le_of_ble_eq_true rfl) rfl fl_RX0_18 ?_
    exact vJ.ireturn dX0_fact_44 rfl rfl rfl ⟨rfl, _, rfl, h⟩
  · replace h := h.2 hk0
    by_cases hk1 : l1 = (1 : Int32)
    · replace h := h.1 hk1
      refine vJ.tabIn (tgt := 45) dX0_fact_1 (by rw [hk1]; decide) (by rw [hk1]; decide) (by rw [hk1]; rfl) (by decide) ?_
      refine vJ.aload_n dX0_fact_45 rfl rfl ?_
      refine vJ.getI (ci := 0) (k := 1) dX0_fact_46 (sh_C hi0) (lt_C hi0) rfl inX0 (Nat.le_of_ble_eq_true rfl) rfl fl_RX0_22 ?_
      exact vJ.ireturn dX0_fact_49 rfl rfl rfl ⟨rfl, _, rfl, h⟩
    · replace h := h.2 hk1
      by_cases hk2 : l1 = (2 : Int32)
      · replace h := h.1 hk2
        refine vJ.tabIn (tgt := 50) dX0_fact_1 (by rw [hk2]; decide) (by rw [hk2]; decide) (by rw [hk2]; rfl) (by decide) ?_
        refine vJ.aload_n dX0_fact_50 rfl rfl ?_
        refine vJ.getI (ci := 0) (k := 2) dX0_fact_51 (sh_C hi0) (lt_C hi0) rfl inX0 (Nat.le_of_ble_eq_true rfl) rfl fl_RX0_25 ?_
        exact vJ.ireturn dX0_fact_54 rfl rfl rfl ⟨rfl, _, rfl, h⟩
      · replace h := h.2 hk2
        by_cases hk3 : l1 = (3 : Int32)
        · replace h := h.1 hk3
          refine vJ.tabIn (tgt := 55) dX0_fact_1 (by rw [hk3]; decide) (by rw [hk3]; decide) (by rw [hk3]; rfl) (by decide) ?_
          refine vJ.aload_n dX0_fact_55 rfl rfl ?_
          refine vJ.getI (ci := 0) (k := 3) dX0_fact_56 (sh_C hi0) (lt_C hi0) rfl inX0 (Nat.le_of_ble_eq_true rfl) rfl fl_RX0_28 ?_
          exact vJ.ireturn dX0_fact_59 rfl rfl rfl ⟨rfl, _, rfl, h⟩
        · replace h := h.2 hk3
          by_cases hk4 : l1 = (4 : Int32)
          · replace h := h.1 hk4
            refine vJ.tabIn (tgt := 60) dX0_fact_1 (by rw [hk4]; decide) (by rw [hk4]; decide) (by rw [hk4]; rfl) (by decide) ?_
            refine vJ.aload_n dX0_fact_60 rfl rfl ?_
            refine vJ.getI (ci := 0) (k := 4) dX0_fact_61 (sh_C hi0) (lt_C hi0) rfl inX0 (Nat.le_of_ble_eq_true rfl) rfl fl_RX0_31 ?_
            exact vJ.ireturn dX0_fact_64 rfl rfl rfl ⟨rfl, _, rfl, h⟩
          · replace h := h.2 hk4
            by_cases hk5 : l1 = (5 : Int32)
            · replace h := h.1 hk5
              refine vJ.tabIn (tgt := 65) dX0_fact_1 (by rw [hk5]; decide) (by rw [hk5]; decide) (by rw [hk5]; rfl) (by decide) ?_
              refine vJ.aload_n dX0_fact_65 rfl rfl ?_
              refine vJ.getI (ci := 0) (k := 7) dX0_fact_66 (sh_C hi0) (lt_C hi0) rfl inX0 (Nat.le_of_ble_eq_true rfl) rfl fl_RX0_48 ?_
              exact vJ.ireturn dX0_fact_69 rfl rfl rfl ⟨rfl, _, rfl, h⟩
            · replace h := h.2 hk5
              refine vJ.tabOut (tgt := 70) dX0_fact_1 (tab_out6 hk0 hk1 hk2 hk3 hk4 hk5) (by decide) ?_
              refine vJ.aload_n dX0_fact_70 rfl rfl ?_
              refine vJ.getI (ci := 0) (k := 5) dX0_fact_71 (sh_C hi0) (lt_C hi0) rfl inX0 (Nat.le_of_ble_eq_true rfl) rfl fl_RX0_34 ?_
              exact vJ.ireturn dX0_fact_74 rfl rfl rfl ⟨rfl, _, rfl, h⟩
def EI_X0_fact (i0 : Nat) (l1 : Int32) (m : vM) (P : Int32 → vM → Prop) : Prop := Ev mX0_fact 0 0 197 [.ref (cA i0), .int l1] 197 SH m (vPi P)
theorem f_X0_fact {i0 : Nat} {l1 : Int32} {m : vM} {P : Int32 → vM → Prop} (h : J_X0_fact_0 i0 l1 m P) : EI_X0_fact i0 l1 m P := Ev.of pn_X0_fact (Nat.le_of_ble_eq_true rfl) h
theorem e_X0_fact {i0 : Nat} {l1 : Int32} {m : vM} {P : Int32 → vM → Prop} (hi0 : i0 < 40) (h : wp_X0_fact i0 l1 m P) : EI_X0_fact i0 l1 m P := f_X0_fact (b_X0_fact hi0 h)
def J_X0_exchange_0 (i0 : Nat) (l1 : Int32) (l2 : Int32) (m : vM) (P : Int32 → vM → Prop) : Prop := vJ mX0_exchange 2 43 197 none 0 [(0, .ref (cA i0)), (1, .int l1), (2, .int l2)] [] 197 SH m (vPi P)
def wp_X0_exchange (i0 : Nat) (l1 : Int32) (l2 : Int32) (m : vM) (P : Int32 → vM → Prop) : Prop :=
  ((l1 < (0 : Int32) →
    P (0 : Int32) m) ∧
  (¬ l1 < (0 : Int32) →
    ((l1 < (12 : Int32) →
      vp_in l1 12 ∧
      ∀ v2 : Int32, v2 = (m.1 (cA i0 + 1) (Int32.toNatClampNeg l1)) →
      vp_in l1 12 ∧
      ∀ m4 : vM, m4 = upI m (cA i0 + 1) (Int32.toNatClampNeg l1) l2 →
      wp_X0_forgetLines i0 m4 (fun m5 =>
        P v2 m5)) ∧
    (¬ l1 < (12 : Int32) →
      P (0 : Int32) m))))
set_option maxRecDepth 20000 in
set_option maxHeartbeats 4000000 in
theorem b_X0_exchange {i0 : Nat} {l1 : Int32} {l2 : Int32} {m : vM} {P : Int32 → vM → Prop} (hi0 : i0 < 40) (h : wp_X0_exchange i0 l1 l2 m P) : J_X0_exchange_0 i0 l1 l2 m P := by
  show vJ mX0_exchange 2 43 197 none 0 [(0, .ref (cA i0)), (1, .int l1), (2, .int l2)] [] 197 SH m (vPi P)
  unfold wp_X0_exchange at h
  refine vJ.iload_n dX0_exchange_0 rfl rfl ?_
  refine vJ.if_lt (tgt := 13) dX0_exchange_1 (by decide) (fun hc7 => ?_) (fun hc7 => ?_)
  · replace h := h.1 hc7
    refine vJ.iconst dX0_exchange_13 ci_0 ?_
    exact vJ.ireturn dX0_exchange_14 rfl rfl rfl ⟨rfl, _, rfl, h⟩
  · replace h := h.2 hc7
    refine vJ.iload_n dX0_exchange_4 rfl rfl ?_
    refine vJ.aload_n dX0_exchange_5 rfl rfl ?_
    refine vJ.getR (ci := 0) (k := 9) (j := cA i0 + 1) dX0_exchange_6 (sh_C hi0) (lt_C hi0) rfl inX0 (Nat.le_of_ble_eq_true rfl) rfl fl_RX0_9 ?_
    refine vJ.alen0 (v := (12 : Int32)) dX0_exchange_9 (sh_L hi0) (lt_L hi0) rfl ?_
    refine vJ.icmp_lt (tgt := 15) dX0_exchange_10 (by decide) (fun hc6 => ?_) (fun hc6 => ?_)
    · replace h := h.1 hc6
      refine vJ.aload_n dX0_exchange_15 rfl rfl ?_
      refine vJ.getR (ci := 0) (k := 9) (j := cA i0 + 1) dX0_exchange_16 (sh_C hi0) (lt_C hi0) rfl inX0 (Nat.le_of_ble_eq_true rfl) rfl fl_RX0_9 ?_
      refine vJ.iload_n dX0_exchange_19 rfl rfl ?_
      obtain ⟨hb1, h⟩ := h
      refine vJ.iald dX0_exchange_20 (sh_L hi0) (lt_L hi0) hb1 ?_
      refine vJ.topi (fun v2 ev2 => ?_)
      replace h := h v2 ev2
      refine vJ.istore_n (ls2 := [(0, .ref (cA i0)), (1, .int l1), (2, .int l2), (3, .int v2)]) dX0_exchange_21 rfl (Nat.le_of_ble_eq_true rfl) rfl ?_
      refine vJ.aload_n dX0_exchange_22 rfl rfl ?_
      refine vJ.getR (ci := 0) (k := 9) (j := cA i0 + 1) dX0_exchange_23 (sh_C hi0) (lt_C hi0) rfl inX0 (Nat.le_of_ble_eq_true rfl) rfl fl_RX0_9 ?_
      refine vJ.iload_n dX0_exchange_26 rfl rfl ?_
      refine vJ.iload_n dX0_exchange_27 rfl rfl ?_
      obtain ⟨hb3, h⟩ := h
      refine vJ.iast dX0_exchange_28 (sh_L hi0) (lt_L hi0) hb3 ?_
      refine vJ.topm (fun m4 em4 => ?_)
      replace h := h m4 em4
      refine vJ.aload_n dX0_exchange_29 rfl rfl ?_
      refine vJ.callV (ci := 0) (Yc := mX0_forgetLines) (frc := 1) (loc := 23) (as := []) dX0_exchange_30 rfl (sh_C hi0) (lt_C hi0) rfl ml_RX0_56 im_yX0_forgetLines se_yX0_forgetLines co_X0_forgetLines in_TableSetter_Cell pl_X0_forgetLines (Nat.le_of_ble_eq_true rfl) (Nat.le_of_ble_eq_true rfl) (Nat.le_of_ble_eq_true rfl) ?_
      refine Ev.gv (e_X0_forgetLines hi0 h) (fun m5 h => ?_)
      refine vJ.iload_n dX0_exchange_33 rfl rfl ?_
      exact vJ.ireturn dX0_exchange_34 rfl rfl rfl ⟨rfl, _, rfl, h⟩
    · replace h := h.2 hc6
      refine vJ.iconst dX0_exchange_13 ci_0 ?_
      exact vJ.ireturn dX0_exchange_14 rfl rfl rfl ⟨rfl, _, rfl, h⟩
def EI_X0_exchange (i0 : Nat) (l1 : Int32) (l2 : Int32) (m : vM) (P : Int32 → vM → Prop) : Prop := Ev mX0_exchange 2 43 197 [.ref (cA i0), .int l1, .int l2] 197 SH m (vPi P)
theorem f_X0_exchange {i0 : Nat} {l1 : Int32} {l2 : Int32} {m : vM} {P : Int32 → vM → Prop} (h : J_X0_exchange_0 i0 l1 l2 m P) : EI_X0_exchange i0 l1 l2 m P := Ev.of pn_X0_exchange (Nat.le_of_ble_eq_true rfl) h
theorem e_X0_exchange {i0 : Nat} {l1 : Int32} {l2 : Int32} {m : vM} {P : Int32 → vM → Prop} (hi0 : i0 < 40) (h : wp_X0_exchange i0 l1 l2 m P) : EI_X0_exchange i0 l1 l2 m P := f_X0_exchange (b_X0_exchange hi0 h)
def J_X0_holds_0 (i0 : Nat) (l1 : Int32) (l2 : Int32) (m : vM) (P : Int32 → vM → Prop) : Prop := vJ mX0_holds 0 0 197 none 0 [(0, .ref (cA i0)), (1, .int l1), (2, .int l2)] [] 197 SH m (vPi P)
def wp_X0_holds (i0 : Nat) (l1 : Int32) (l2 : Int32) (m : vM) (P : Int32 → vM → Prop) : Prop :=
  ((l1 < (0 : Int32) →
    P (0 : Int32) m) ∧
  (¬ l1 < (0 : Int32) →
    ((l2 < (0 : Int32) →
      P (0 : Int32) m) ∧
    (¬ l2 < (0 : Int32) →
      (((m.1 (cA i0) 7) < l2 →
        P (0 : Int32) m) ∧
      (¬ (m.1 (cA i0) 7) < l2 →
        ((((m.1 (cA i0) 7) - l2) < l1 →
          P (0 : Int32) m) ∧
        (¬ ((m.1 (cA i0) 7) - l2) < l1 →
          P (1 : Int32) m))))))))
set_option maxRecDepth 20000 in
set_option maxHeartbeats 4000000 in
theorem b_X0_holds {i0 : Nat} {l1 : Int32} {l2 : Int32} {m : vM} {P : Int32 → vM → Prop} (hi0 : i0 < 40) (h : wp_X0_holds i0 l1 l2 m P) : J_X0_holds_0 i0 l1 l2 m P := by
  show vJ mX0_holds 0 0 197 none 0 [(0, .ref (cA i0)), (1, .int l1), (2, .int l2)] [] 197 SH m (vPi P)
  unfold wp_X0_holds at h
  refine vJ.iload_n dX0_holds_0 rfl rfl ?_
  refine vJ.if_lt (tgt := 30) dX0_holds_1 (by decide) (fun hc4 => ?_) (fun hc4 => ?_)
  · replace h := h.1 hc4
    refine vJ.iconst dX0_holds_30 ci_0 ?_
    exact vJ.ireturn dX0_holds_31 rfl (by decide) rfl ⟨rfl, _, rfl, h⟩
  · replace h := h.2 hc4
    refine vJ.iload_n dX0_holds_4 rfl rfl ?_
    refine vJ.if_lt (tgt := 30) dX0_holds_5 (by decide) (fun hc3 => ?_) (fun hc3 => ?_)
    · replace h := h.1 hc3
      refine vJ.iconst dX0_holds_30 ci_0 ?_
      exact vJ.ireturn dX0_holds_31 rfl (by decide) rfl ⟨rfl, _, rfl, h⟩
    · replace h := h.2 hc3
      refine vJ.iload_n dX0_holds_8 rfl rfl ?_
      refine vJ.aload_n dX0_holds_9 rfl rfl ?_
      refine vJ.getI (ci := 0) (k := 7) dX0_holds_10 (sh_C hi0) (lt_C hi0) rfl inX0 (Nat.le_of_ble_eq_true rfl) rfl fl_RX0_48 ?_
      refine vJ.icmp_gt (tgt := 30) dX0_holds_13 (by decide) (fun hc2 => ?_) (fun hc2 => ?_)
      · replace h := h.1 hc2
        refine vJ.iconst dX0_holds_30 ci_0 ?_
        exact vJ.ireturn dX0_holds_31 rfl (by decide) rfl ⟨rfl, _, rfl, h⟩
      · replace h := h.2 hc2
        refine vJ.iload_n dX0_holds_16 rfl rfl ?_
        refine vJ.aload_n dX0_holds_17 rfl rfl ?_
        refine vJ.getI (ci := 0) (k := 7) dX0_holds_18 (sh_C hi0) (lt_C hi0) rfl inX0 (Nat.le_of_ble_eq_true rfl) rfl fl_RX0_48 ?_
        refine vJ.iload_n dX0_holds_21 rfl rfl ?_
        refine vJ.isub dX0_holds_22 ?_
        refine vJ.icmp_gt (tgt := 30) dX0_holds_23 (by decide) (fun hc1 => ?_) (fun hc1 => ?_)
        · replace h := h.1 hc1
          refine vJ.iconst dX0_holds_30 ci_0 ?_
          exact vJ.ireturn dX0_holds_31 rfl (by decide) rfl ⟨rfl, _, rfl, h⟩
        · replace h := h.2 hc1
          refine vJ.iconst dX0_holds_26 ci_1 ?_
          refine vJ.goto (tgt := 31) dX0_holds_27 (by decide) ?_
          exact vJ.ireturn dX0_holds_31 rfl (by decide) rfl ⟨rfl, _, rfl, h⟩
def EI_X0_holds (i0 : Nat) (l1 : Int32) (l2 : Int32) (m : vM) (P : Int32 → vM → Prop) : Prop := Ev mX0_holds 0 0 197 [.ref (cA i0), .int l1, .int l2] 197 SH m (vPi P)
theorem f_X0_holds {i0 : Nat} {l1 : Int32} {l2 : Int32} {m : vM} {P : Int32 → vM → Prop} (h : J_X0_holds_0 i0 l1 l2 m P) : EI_X0_holds i0 l1 l2 m P := Ev.of pn_X0_holds (Nat.le_of_ble_eq_true rfl) h
theorem e_X0_holds {i0 : Nat} {l1 : Int32} {l2 : Int32} {m : vM} {P : Int32 → vM → Prop} (hi0 : i0 < 40) (h : wp_X0_holds i0 l1 l2 m P) : EI_X0_holds i0 l1 l2 m P := f_X0_holds (b_X0_holds hi0 h)
def J_X0_take_0 (i0 : Nat) (i1 : Nat) (l2 : Int32) (l3 : Int32) (l4 : Int32) (m : vM) (P : vM → Prop) : Prop := vJ mX0_take 2 43 197 none 0 [(0, .ref (cA i0)), (1, .ref (cA i1)), (2, .int l2), (3, .int l3), (4, .int l4)] [] 197 SH m (vPv P)
def wp_X0_take (i0 : Nat) (i1 : Nat) (l2 : Int32) (l3 : Int32) (l4 : Int32) (m : vM) (P : vM → Prop) : Prop :=
  wp_X0_holds i1 l2 l4 m (fun r2 m1 =>
    ((r2 = (0 : Int32) →
      P m1) ∧
    (¬ r2 = (0 : Int32) →
      wp_X0_holds i0 l3 l4 m1 (fun r4 m3 =>
        ((r4 = (0 : Int32) →
          P m3) ∧
        (¬ r4 = (0 : Int32) →
          (¬ l2 < 0) ∧ (¬ l3 < 0) ∧ (¬ l4 < 0) ∧ ((Int32.toNatClampNeg l2) + (Int32.toNatClampNeg l4) ≤ 12) ∧ ((Int32.toNatClampNeg l3) + (Int32.toNatClampNeg l4) ≤ 12) ∧
          ∀ m10 : vM, m10 = upA m3 (cA i0 + 1) (va_cpy (m3.1 (cA i1 + 1)) (m3.1 (cA i0 + 1)) (Int32.toNatClampNeg l2) (Int32.toNatClampNeg l3) (Int32.toNatClampNeg l4)) →
          wp_X0_forgetLines i0 m10 (fun m11 =>
            P m11)))))))
set_option maxRecDepth 20000 in
set_option maxHeartbeats 4000000 in
theorem b_X0_take {i0 : Nat} {i1 : Nat} {l2 : Int32} {l3 : Int32} {l4 : Int32} {m : vM} {P : vM → Prop} (hi0 : i0 < 40) (hi1 : i1 < 40) (h : wp_X0_take i0 i1 l2 l3 l4 m P) : J_X0_take_0 i0 i1 l2 l3 l4 m P := by
  show vJ mX0_take 2 43 197 none 0 [(0, .ref (cA i0)), (1, .ref (cA i1)), (2, .int l2), (3, .int l3), (4, .int l4)] [] 197 SH m (vPv P)
  unfold wp_X0_take at h
  refine vJ.aload_n dX0_take_0 rfl rfl ?_
  refine vJ.ifnull dX0_take_1 ?_
  refine vJ.aload_n dX0_take_4 rfl rfl ?_
  refine vJ.iload_n dX0_take_5 rfl rfl ?_
  refine vJ.iload dX0_take_6 rfl ?_
  refine vJ.callV (ci := 0) (Yc := mX0_holds) (frc := 0) (loc := 0) (as := [.int l2, .int l4]) dX0_take_8 rfl (sh_C hi1) (lt_C hi1) rfl ml_RX0_59 im_yX0_holds se_yX0_holds co_X0_holds in_TableSetter_Cell pl_X0_holds (Nat.le_of_ble_eq_true rfl) (Nat.le_of_ble_eq_true rfl) (Nat.le_of_ble_eq_true rfl) ?_
  refine Ev.gi (e_X0_holds hi1 h) (fun r2 m1 h => ?_)
  refine vJ.if_eq (tgt := 24) dX0_take_11 (by decide) (fun hc13 => ?_) (fun hc13 => ?_)
  · replace h := h.1 hc13
    exact vJ.vreturn dX0_take_24 rfl rfl ⟨rfl, rfl, h⟩
  · replace h := h.2 hc13
    refine vJ.aload_n dX0_take_14 rfl rfl ?_
    refine vJ.iload_n dX0_take_15 rfl rfl ?_
    refine vJ.iload dX0_take_16 rfl ?_
    refine vJ.callV (ci := 0) (Yc := mX0_holds) (frc := 0) (loc := 0) (as := [.int l3, .int l4]) dX0_take_18 rfl (sh_C hi0) (lt_C hi0) rfl ml_RX0_59 im_yX0_holds se_yX0_holds co_X0_holds in_TableSetter_Cell pl_X0_holds (Nat.le_of_ble_eq_true rfl) (Nat.le_of_ble_eq_true rfl) (Nat.le_of_ble_eq_true rfl) ?_
    refine Ev.gi (e_X0_holds hi0 h) (fun r4 m3 h => ?_)
    refine vJ.if_ne (tgt := 25) dX0_take_21 (by decide) (fun hc12 => ?_) (fun hc12 => ?_)
    · replace h := h.2 hc12
      refine vJ.aload_n dX0_take_25 rfl rfl ?_
      refine vJ.getR (ci := 0) (k := 9) (j := cA i1 + 1) dX0_take_26 (sh_C hi1) (lt_C hi1) rfl inX0 (Nat.le_of_ble_eq_true rfl) rfl fl_RX0_9 ?_
      refine vJ.iload_n dX0_take_29 rfl rfl ?_
      refine vJ.aload_n dX0_take_30 rfl rfl ?_
      refine vJ.getR (ci := 0) (k := 9) (j := cA i0 + 1) dX0_take_31 (sh_C hi0) (lt_C hi0) rfl inX0 (Nat.le_of_ble_eq_true rfl) rfl fl_RX0_9 ?_
      refine vJ.iload_n dX0_take_34 rfl rfl ?_
      refine vJ.iload dX0_take_35 rfl ?_
      obtain ⟨hq5, hq6, hq7, hq8, hq9, h⟩ := h
      refine vJ.acopy dX0_take_37 (sh_L hi0) (sh_L hi1) (lt_L hi0) (lt_L hi1) hq5 hq6 hq7 hq8 hq9 ml_RX0_63 na_arraycopyName st_arraycopyName in_java_lang_System (Nat.le_of_ble_eq_true rfl) (Nat.le_of_ble_eq_true rfl) ?_
      refine vJ.topm (fun m10 em10 => ?_)
      replace h := h m10 em10
      refine vJ.aload_n dX0_take_40 rfl rfl ?_
      refine vJ.callV (ci := 0) (Yc := mX0_forgetLines) (frc := 1) (loc := 23) (as := []) dX0_take_41 rfl (sh_C hi0) (lt_C hi0) rfl ml_RX0_56 im_yX0_forgetLines se_yX0_forgetLines co_X0_forgetLines in_TableSetter_Cell pl_X0_forgetLines (Nat.le_of_ble_eq_true rfl) (Nat.le_of_ble_eq_true rfl) (Nat.le_of_ble_eq_true rfl) ?_
      refine Ev.gv (e_X0_forgetLines hi0 h) (fun m11 h => ?_)
      exact vJ.vreturn dX0_take_44 rfl rfl ⟨rfl, rfl, h⟩
    · replace h := h.1 hc12
      exact vJ.vreturn dX0_take_24 rfl rfl ⟨rfl, rfl, h⟩
def EI_X0_take (i0 : Nat) (i1 : Nat) (l2 : Int32) (l3 : Int32) (l4 : Int32) (m : vM) (P : vM → Prop) : Prop := Ev mX0_take 2 43 197 [.ref (cA i0), .ref (cA i1), .int l2, .int l3, .int l4] 197 SH m (vPv P)
theorem f_X0_take {i0 : Nat} {i1 : Nat} {l2 : Int32} {l3 : Int32} {l4 : Int32} {m : vM} {P : vM → Prop} (h : J_X0_take_0 i0 i1 l2 l3 l4 m P) : EI_X0_take i0 i1 l2 l3 l4 m P := Ev.of pn_X0_take (Nat.le_of_ble_eq_true rfl) h
theorem e_X0_take {i0 : Nat} {i1 : Nat} {l2 : Int32} {l3 : Int32} {l4 : Int32} {m : vM} {P : vM → Prop} (hi0 : i0 < 40) (hi1 : i1 < 40) (h : wp_X0_take i0 i1 l2 l3 l4 m P) : EI_X0_take i0 i1 l2 l3 l4 m P := f_X0_take (b_X0_take hi0 hi1 h)
def J_X0_allLetters_0 (i0 : Nat) (m : vM) (P : Int32 → vM → Prop) : Prop := vJ mX0_allLetters 0 0 197 none 0 [(0, .ref (cA i0))] [] 197 SH m (vPi P)
def J_X0_allLetters_4 (i0 : Nat) (l1 : Int32) (l2 : Int32) (m : vM) (P : Int32 → vM → Prop) : Prop := vJ mX0_allLetters 0 0 197 none 4 [(0, .ref (cA i0)), (1, .int l1), (2, .int l2)] [] 197 SH m (vPi P)
def wp_X0_allLetters_0 (i0 : Nat) (m : vM) (P : Int32 → vM → Prop) : Prop :=
  J_X0_allLetters_4 i0 (0 : Int32) (0 : Int32) m P
set_option maxRecDepth 20000 in
set_option maxHeartbeats 4000000 in
theorem b_X0_allLetters_0 {i0 : Nat} {m : vM} {P : Int32 → vM → Prop} (hi0 : i0 < 40) (h : wp_X0_allLetters_0 i0 m P) : J_X0_allLetters_0 i0 m P := by
  show vJ mX0_allLetters 0 0 197 none 0 [(0, .ref (cA i0))] [] 197 SH m (vPi P)
  unfold wp_X0_allLetters_0 at h
  refine vJ.iconst dX0_allLetters_0 ci_0 ?_
  refine vJ.istore_n (ls2 := [(0, .ref (cA i0)), (1, .int (0 : Int32))]) dX0_allLetters_1 rfl (Nat.le_of_ble_eq_true rfl) rfl ?_
  refine vJ.iconst dX0_allLetters_2 ci_0 ?_
  refine vJ.istore_n (ls2 := [(0, .ref (cA i0)), (1, .int (0 : Int32)), (2, .int (0 : Int32))]) dX0_allLetters_3 rfl (Nat.le_of_ble_eq_true rfl) rfl ?_
  exact h
def EI_X0_allLetters (i0 : Nat) (m : vM) (P : Int32 → vM → Prop) : Prop := Ev mX0_allLetters 0 0 197 [.ref (cA i0)] 197 SH m (vPi P)
theorem f_X0_allLetters {i0 : Nat} {m : vM} {P : Int32 → vM → Prop} (h : J_X0_allLetters_0 i0 m P) : EI_X0_allLetters i0 m P := Ev.of pn_X0_allLetters (Nat.le_of_ble_eq_true rfl) h
def wp_X0_allLetters_4 (i0 : Nat) (l1 : Int32) (l2 : Int32) (m : vM) (P : Int32 → vM → Prop) : Prop :=
  (((m.1 (cA i0) 7) ≤ l2 →
    P l1 m) ∧
  (¬ (m.1 (cA i0) 7) ≤ l2 →
    (((12 : Int32) ≤ l2 →
      P l1 m) ∧
    (¬ (12 : Int32) ≤ l2 →
      vp_in l2 12 ∧
      ∀ v2 : Int32, v2 = (l1 + (m.1 (cA i0 + 1) (Int32.toNatClampNeg l2))) →
      J_X0_allLetters_4 i0 v2 (l2 + (1 : Int32)) m P))))
set_option maxRecDepth 20000 in
set_option maxHeartbeats 4000000 in
theorem b_X0_allLetters_4 {i0 : Nat} {l1 : Int32} {l2 : Int32} {m : vM} {P : Int32 → vM → Prop} (hi0 : i0 < 40) (h : wp_X0_allLetters_4 i0 l1 l2 m P) : J_X0_allLetters_4 i0 l1 l2 m P := by
  show vJ mX0_allLetters 0 0 197 none 4 [(0, .ref (cA i0)), (1, .int l1), (2, .int l2)] [] 197 SH m (vPi P)
  unfold wp_X0_allLetters_4 at h
  refine vJ.iload_n dX0_allLetters_4 rfl rfl ?_
  refine vJ.aload_n dX0_allLetters_5 rfl rfl ?_
  refine vJ.getI (ci := 0) (k := 7) dX0_allLetters_6 (sh_C hi0) (lt_C hi0) rfl inX0 (Nat.le_of_ble_eq_true rfl) rfl fl_RX0_48 ?_
  refine vJ.icmp_ge (tgt := 36) dX0_allLetters_9 (by decide) (fun hc4 => ?_) (fun hc4 => ?_)
  · replace h := h.1 hc4
    refine vJ.iload_n dX0_allLetters_36 rfl rfl ?_
    exact vJ.ireturn dX0_allLetters_37 rfl rfl rfl ⟨rfl, _, rfl, h⟩
  · replace h := h.2 hc4
    refine vJ.iload_n dX0_allLetters_12 rfl rfl ?_
    refine vJ.aload_n dX0_allLetters_13 rfl rfl ?_
    refine vJ.getR (ci := 0) (k := 9) (j := cA i0 + 1) dX0_allLetters_14 (sh_C hi0) (lt_C hi0) rfl inX0 (Nat.le_of_ble_eq_true rfl) rfl fl_RX0_9 ?_
    refine vJ.alen0 (v := (12 : Int32)) dX0_allLetters_17 (sh_L hi0) (lt_L hi0) rfl ?_
    refine vJ.icmp_ge (tgt := 36) dX0_allLetters_18 (by decide) (fun hc3 => ?_) (fun hc3 => ?_)
    · replace h := h.1 hc3
      refine vJ.iload_n dX0_allLetters_36 rfl rfl ?_
      exact vJ.ireturn dX0_allLetters_37 rfl rfl rfl ⟨rfl, _, rfl, h⟩
    · replace h := h.2 hc3
      refine vJ.iload_n dX0_allLetters_21 rfl rfl ?_
      refine vJ.aload_n dX0_allLetters_22 rfl rfl ?_
      refine vJ.getR (ci := 0) (k := 9) (j := cA i0 + 1) dX0_allLetters_23 (sh_C hi0) (lt_C hi0) rfl inX0 (Nat.le_of_ble_eq_true rfl) rfl fl_RX0_9 ?_
      refine vJ.iload_n dX0_allLetters_26 rfl rfl ?_
      obtain ⟨hb1, h⟩ := h
      refine vJ.iald dX0_allLetters_27 (sh_L hi0) (lt_L hi0) hb1 ?_
      refine vJ.iadd dX0_allLetters_28 ?_
      refine vJ.topi (fun v2 ev2 => ?_)
      replace h := h v2 ev2
      refine vJ.istore_n (ls2 := [(0, .ref (cA i0)), (1, .int v2), (2, .int l2)]) dX0_allLetters_29 rfl (Nat.le_of_ble_eq_true rfl) rfl ?_
      refine vJ.iinc (v := l2 + (1 : Int32)) (ls2 := [(0, .ref (cA i0)), (1, .int v2), (2, .int (l2 + (1 : Int32)))]) dX0_allLetters_30 rfl (congrArg (l2 + ·) ci_1) (Nat.le_of_ble_eq_true rfl) rfl ?_
      refine vJ.goto (tgt := 4) dX0_allLetters_33 (by decide) ?_
      exact h
def J_X0_countLines_0 (i0 : Nat) (l1 : Int32) (m : vM) (P : Int32 → vM → Prop) : Prop := vJ mX0_countLines 0 0 197 none 0 [(0, .ref (cA i0)), (1, .int l1)] [] 197 SH m (vPi P)
def J_X0_countLines_14 (i0 : Nat) (l1 : Int32) (l2 : Int32) (l3 : Int32) (l4 : Int32) (m : vM) (P : Int32 → vM → Prop) : Prop := vJ mX0_countLines 0 0 197 none 14 [(0, .ref (cA i0)), (1, .int l1), (2, .int l2), (3, .int l3), (4, .int l4)] [] 197 SH m (vPi P)
def wp_X0_countLines_0 (i0 : Nat) (l1 : Int32) (m : vM) (P : Int32 → vM → Prop) : Prop :=
  (((1 : Int32) ≤ l1 →
    J_X0_countLines_14 i0 l1 (0 : Int32) (0 : Int32) (0 : Int32) m P) ∧
  (¬ (1 : Int32) ≤ l1 →
    P (0 : Int32) m))
set_option maxRecDepth 20000 in
set_option maxHeartbeats 4000000 in
theorem b_X0_countLines_0 {i0 : Nat} {l1 : Int32} {m : vM} {P : Int32 → vM → Prop} (hi0 : i0 < 40) (h : wp_X0_countLines_0 i0 l1 m P) : J_X0_countLines_0 i0 l1 m P := by
  show vJ mX0_countLines 0 0 197 none 0 [(0, .ref (cA i0)), (1, .int l1)] [] 197 SH m (vPi P)
  unfold wp_X0_countLines_0 at h
  refine vJ.iload_n dX0_countLines_0 rfl rfl ?_
  refine vJ.iconst dX0_countLines_1 ci_1 ?_
  refine vJ.icmp_ge (tgt := 7) dX0_countLines_2 (by decide) (fun hc1 => ?_) (fun hc1 => ?_)
  · replace h := h.1 hc1
    refine vJ.iconst dX0_countLines_7 ci_0 ?_
    refine vJ.istore_n (ls2 := [(0, .ref (cA i0)), (1, .int l1), (2, .int (0 : Int32))]) dX0_countLines_8 rfl (Nat.le_of_ble_eq_true rfl) rfl ?_
    refine vJ.iconst dX0_countLines_9 ci_0 ?_
    refine vJ.istore_n (ls2 := [(0, .ref (cA i0)), (1, .int l1), (2, .int (0 : Int32)), (3, .int (0 : Int32))]) dX0_countLines_10 rfl (Nat.le_of_ble_eq_true rfl) rfl ?_
    refine vJ.iconst dX0_countLines_11 ci_0 ?_
    refine vJ.istore (ls2 := [(0, .ref (cA i0)), (1, .int l1), (2, .int (0 : Int32)), (3, .int (0 : Int32)), (4, .int (0 : Int32))]) dX0_countLines_12 (Nat.le_of_ble_eq_true rfl) rfl ?_
    exact h
  · replace h := h.2 hc1
    refine vJ.iconst dX0_countLines_5 ci_0 ?_
    exact vJ.ireturn dX0_countLines_6 rfl rfl rfl ⟨rfl, _, rfl, h⟩
def EI_X0_countLines (i0 : Nat) (l1 : Int32) (m : vM) (P : Int32 → vM → Prop) : Prop := Ev mX0_countLines 0 0 197 [.ref (cA i0), .int l1] 197 SH m (vPi P)
theorem f_X0_countLines {i0 : Nat} {l1 : Int32} {m : vM} {P : Int32 → vM → Prop} (h : J_X0_countLines_0 i0 l1 m P) : EI_X0_countLines i0 l1 m P := Ev.of pn_X0_countLines (Nat.le_of_ble_eq_true rfl) h
def J_X0_countLines_66 (i0 : Nat) (l1 : Int32) (l2 : Int32) (l4 : Int32) (l5 : Int32) (m : vM) (P : Int32 → vM → Prop) : Prop := vJ mX0_countLines 0 0 197 none 66 [(0, .ref (cA i0)), (1, .int l1), (2, .int l2), (4, .int l4), (5, .int l5)] [] 197 SH m (vPi P)
def wp_X0_countLines_14 (i0 : Nat) (l1 : Int32) (l2 : Int32) (l3 : Int32) (l4 : Int32) (m : vM) (P : Int32 → vM → Prop) : Prop :=
  (((m.1 (cA i0) 7) ≤ l4 →
    P l2 m) ∧
  (¬ (m.1 (cA i0) 7) ≤ l4 →
    (((12 : Int32) ≤ l4 →
      P l2 m) ∧
    (¬ (12 : Int32) ≤ l4 →
      vp_in l4 12 ∧
      ∀ v2 : Int32, v2 = (m.1 (cA i0 + 1) (Int32.toNatClampNeg l4)) →
      ((l2 ≤ (0 : Int32) →
        J_X0_countLines_66 i0 l1 l2 l4 v2 m P) ∧
      (¬ l2 ≤ (0 : Int32) →
        ((l1 < ((l3 + (1 : Int32)) + v2) →
          J_X0_countLines_66 i0 l1 l2 l4 v2 m P) ∧
        (¬ l1 < ((l3 + (1 : Int32)) + v2) →
          ∀ v3 : Int32, v3 = (l3 + ((1 : Int32) + v2)) →
          J_X0_countLines_14 i0 l1 l2 v3 (l4 + (1 : Int32)) m P))))))))
set_option maxRecDepth 20000 in
set_option maxHeartbeats 4000000 in
theorem b_X0_countLines_14 {i0 : Nat} {l1 : Int32} {l2 : Int32} {l3 : Int32} {l4 : Int32} {m : vM} {P : Int32 → vM → Prop} (hi0 : i0 < 40) (h : wp_X0_countLines_14 i0 l1 l2 l3 l4 m P) : J_X0_countLines_14 i0 l1 l2 l3 l4 m P := by
  show vJ mX0_countLines 0 0 197 none 14 [(0, .ref (cA i0)), (1, .int l1), (2, .int l2), (3, .int l3), (4, .int l4)] [] 197 SH m (vPi P)
  unfold wp_X0_countLines_14 at h
  refine vJ.iload dX0_countLines_14 rfl ?_
  refine vJ.aload_n dX0_countLines_16 rfl rfl ?_
  refine vJ.getI (ci := 0) (k := 7) dX0_countLines_17 (sh_C hi0) (lt_C hi0) rfl inX0 (Nat.le_of_ble_eq_true rfl) rfl fl_RX0_48 ?_
  refine vJ.icmp_ge (tgt := 95) dX0_countLines_20 (by decide) (fun hc7 => ?_) (fun hc7 => ?_)
  · replace h := h.1 hc7
    refine vJ.iload_n dX0_countLines_95 rfl rfl ?_
    exact vJ.ireturn dX0_countLines_96 rfl rfl rfl ⟨rfl, _, rfl, h⟩
  · replace h := h.2 hc7
    refine vJ.iload dX0_countLines_23 rfl ?_
    refine vJ.aload_n dX0_countLines_25 rfl rfl ?_
    refine vJ.getR (ci := 0) (k := 9) (j := cA i0 + 1) dX0_countLines_26 (sh_C hi0) (lt_C hi0) rfl inX0 (Nat.le_of_ble_eq_true rfl) rfl fl_RX0_9 ?_
    refine vJ.alen0 (v := (12 : Int32)) dX0_countLines_29 (sh_L hi0) (lt_L hi0) rfl ?_
    refine vJ.icmp_ge (tgt := 95) dX0_countLines_30 (by decide) (fun hc6 => ?_) (fun hc6 => ?_)
    · replace h := h.1 hc6
      refine vJ.iload_n dX0_countLines_95 rfl rfl ?_
      exact vJ.ireturn dX0_countLines_96 rfl rfl rfl ⟨rfl, _, rfl, h⟩
    · replace h := h.2 hc6
      refine vJ.aload_n dX0_countLines_33 rfl rfl ?_
      refine vJ.getR (ci := 0) (k := 9) (j := cA i0 + 1) dX0_countLines_34 (sh_C hi0) (lt_C hi0) rfl inX0 (Nat.le_of_ble_eq_true rfl) rfl fl_RX0_9 ?_
      refine vJ.iload dX0_countLines_37 rfl ?_
      obtain ⟨hb1, h⟩ := h
      refine vJ.iald dX0_countLines_39 (sh_L hi0) (lt_L hi0) hb1 ?_
      refine vJ.topi (fun v2 ev2 => ?_)
      replace h := h v2 ev2
      refine vJ.istore (ls2 := [(0, .ref (cA i0)), (1, .int l1), (2, .int l2), (3, .int l3), (4, .int l4), (5, .int v2)]) dX0_countLines_40 (Nat.le_of_ble_eq_true rfl) rfl ?_
      refine vJ.iload_n dX0_countLines_42 rfl rfl ?_
      refine vJ.if_le (tgt := 66) dX0_countLines_43 (by decide) (fun hc5 => ?_) (fun hc5 => ?_)
      · replace h := h.1 hc5
        refine vJ.sub [0, 1, 2, 4, 5] rfl ?_
        exact h
      · replace h := h.2 hc5
        refine vJ.iload_n dX0_countLines_46 rfl rfl ?_
        refine vJ.iconst dX0_countLines_47 ci_1 ?_
        refine vJ.iadd dX0_countLines_48 ?_
        refine vJ.iload dX0_countLines_49 rfl ?_
        refine vJ.iadd dX0_countLines_51 ?_
        refine vJ.iload_n dX0_countLines_52 rfl rfl ?_
        refine vJ.icmp_gt (tgt := 66) dX0_countLines_53 (by decide) (fun hc4 => ?_) (fun hc4 => ?_)
        · replace h := h.1 hc4
          refine vJ.sub [0, 1, 2, 4, 5] rfl ?_
          exact h
        · replace h := h.2 hc4
          refine vJ.iload_n dX0_countLines_56 rfl rfl ?_
          refine vJ.iconst dX0_countLines_57 ci_1 ?_
          refine vJ.iload dX0_countLines_58 rfl ?_
          refine vJ.iadd dX0_countLines_60 ?_
          refine vJ.iadd dX0_countLines_61 ?_
          refine vJ.topi (fun v3 ev3 => ?_)
          replace h := h v3 ev3
          refine vJ.istore_n (ls2 := [(0, .ref (cA i0)), (1, .int l1), (2, .int l2), (3, .int v3), (4, .int l4), (5, .int v2)]) dX0_countLines_62 rfl (Nat.le_of_ble_eq_true rfl) rfl ?_
          refine vJ.goto (tgt := 89) dX0_countLines_63 (by decide) ?_
          refine vJ.iinc (v := l4 + (1 : Int32)) (ls2 := [(0, .ref (cA i0)), (1, .int l1), (2, .int l2), (3, .int v3), (4, .int (l4 + (1 : Int32))), (5, .int v2)]) dX0_countLines_89 rfl (congrArg (l4 + ·) ci_1) (Nat.le_of_ble_eq_true rfl) rfl ?_
          refine vJ.goto (tgt := 14) dX0_countLines_92 (by decide) ?_
          refine vJ.sub [0, 1, 2, 3, 4] rfl ?_
          exact h
def wp_X0_countLines_66 (i0 : Nat) (l1 : Int32) (l2 : Int32) (l4 : Int32) (l5 : Int32) (m : vM) (P : Int32 → vM → Prop) : Prop :=
  (¬ l1 = 0) ∧
  ∀ v2 : Int32, v2 = ((l5 - (1 : Int32)) / l1) →
  ∀ v3 : Int32, v3 = (l2 + (v2 + (1 : Int32))) →
  ∀ v4 : Int32, v4 = (l5 - (v2 * l1)) →
  J_X0_countLines_14 i0 l1 v3 v4 (l4 + (1 : Int32)) m P
set_option maxRecDepth 20000 in
set_option maxHeartbeats 4000000 in
theorem b_X0_countLines_66 {i0 : Nat} {l1 : Int32} {l2 : Int32} {l4 : Int32} {l5 : Int32} {m : vM} {P : Int32 → vM → Prop} (hi0 : i0 < 40) (h : wp_X0_countLines_66 i0 l1 l2 l4 l5 m P) : J_X0_countLines_66 i0 l1 l2 l4 l5 m P := by
  show vJ mX0_countLines 0 0 197 none 66 [(0, .ref (cA i0)), (1, .int l1), (2, .int l2), (4, .int l4), (5, .int l5)] [] 197 SH m (vPi P)
  unfold wp_X0_countLines_66 at h
  refine vJ.iload dX0_countLines_66 rfl ?_
  refine vJ.iconst dX0_countLines_68 ci_1 ?_
  refine vJ.isub dX0_countLines_69 ?_
  refine vJ.iload_n dX0_countLines_70 rfl rfl ?_
  obtain ⟨hz1, h⟩ := h
  refine vJ.idiv dX0_countLines_71 hz1 ?_
  refine vJ.topi (fun v2 ev2 => ?_)
  replace h := h v2 ev2
  refine vJ.istore (ls2 := [(0, .ref (cA i0)), (1, .int l1), (2, .int l2), (4, .int l4), (5, .int l5), (6, .int v2)]) dX0_countLines_72 (Nat.le_of_ble_eq_true rfl) rfl ?_
  refine vJ.iload_n dX0_countLines_74 rfl rfl ?_
  refine vJ.iload dX0_countLines_75 rfl ?_
  refine vJ.iconst dX0_countLines_77 ci_1 ?_
  refine vJ.iadd dX0_countLines_78 ?_
  refine vJ.iadd dX0_countLines_79 ?_
  refine vJ.topi (fun v3 ev3 => ?_)
  replace h := h v3 ev3
  refine vJ.istore_n (ls2 := [(0, .ref (cA i0)), (1, .int l1), (2, .int v3), (4, .int l4), (5, .int l5), (6, .int v2)]) dX0_countLines_80 rfl (Nat.le_of_ble_eq_true rfl) rfl ?_
  refine vJ.iload dX0_countLines_81 rfl ?_
  refine vJ.iload dX0_countLines_83 rfl ?_
  refine vJ.iload_n dX0_countLines_85 rfl rfl ?_
  refine vJ.imul dX0_countLines_86 ?_
  refine vJ.isub dX0_countLines_87 ?_
  refine vJ.topi (fun v4 ev4 => ?_)
  replace h := h v4 ev4
  refine vJ.istore_n (ls2 := [(0, .ref (cA i0)), (1, .int l1), (2, .int v3), (3, .int v4), (4, .int l4), (5, .int l5), (6, .int v2)]) dX0_countLines_88 rfl (Nat.le_of_ble_eq_true rfl) rfl ?_
  refine vJ.iinc (v := l4 + (1 : Int32)) (ls2 := [(0, .ref (cA i0)), (1, .int l1), (2, .int v3), (3, .int v4), (4, .int (l4 + (1 : Int32))), (5, .int l5), (6, .int v2)]) dX0_countLines_89 rfl (congrArg (l4 + ·) ci_1) (Nat.le_of_ble_eq_true rfl) rfl ?_
  refine vJ.goto (tgt := 14) dX0_countLines_92 (by decide) ?_
  refine vJ.sub [0, 1, 2, 3, 4] rfl ?_
  exact h
def J_X0_linesIn_0 (i0 : Nat) (l1 : Int32) (m : vM) (P : Int32 → vM → Prop) : Prop := vJ mX0_linesIn 1 26 197 none 0 [(0, .ref (cA i0)), (1, .int l1)] [] 197 SH m (vPi P)
def wp_X0_linesIn (i0 : Nat) (l1 : Int32) (m : vM) (P : Int32 → vM → Prop) : Prop :=
  ∀ v1 : Int32, v1 = (if l1 < (1 : Int32) then (1 : Int32) else l1) →
  ((v1 < (252 : Int32) →
    vp_in v1 252 ∧
    (((m.1 (cA i0 + 2) (Int32.toNatClampNeg v1)) = (-1 : Int32) →
      EI_X0_countLines i0 v1 m (fun r5 m4 =>
        vp_in v1 252 ∧
        ∀ m7 : vM, m7 = upI m4 (cA i0 + 2) (Int32.toNatClampNeg v1) r5 →
        vp_in v1 252 ∧
        P (m7.1 (cA i0 + 2) (Int32.toNatClampNeg v1)) m7)) ∧
    (¬ (m.1 (cA i0 + 2) (Int32.toNatClampNeg v1)) = (-1 : Int32) →
      vp_in v1 252 ∧
      P (m.1 (cA i0 + 2) (Int32.toNatClampNeg v1)) m))) ∧
  (¬ v1 < (252 : Int32) →
    EI_X0_countLines i0 v1 m (fun r11 m10 =>
      P r11 m10)))
set_option maxRecDepth 20000 in
set_option maxHeartbeats 4000000 in
theorem b_X0_linesIn {i0 : Nat} {l1 : Int32} {m : vM} {P : Int32 → vM → Prop} (hi0 : i0 < 40) (h : wp_X0_linesIn i0 l1 m P) : J_X0_linesIn_0 i0 l1 m P := by
  show vJ mX0_linesIn 1 26 197 none 0 [(0, .ref (cA i0)), (1, .int l1)] [] 197 SH m (vPi P)
  unfold wp_X0_linesIn at h
  refine vJ.iload_n dX0_linesIn_0 rfl rfl ?_
  refine vJ.iconst dX0_linesIn_1 ci_1 ?_
  refine vJ.mmax dX0_linesIn_2 ml_RX0_76 st_Lib_Math_max_name in_java_lang_Math co_Math_max (Nat.le_of_ble_eq_true rfl) (Nat.le_of_ble_eq_true rfl) ?_
  refine vJ.topi (fun v1 ev1 => ?_)
  replace h := h v1 ev1
  refine vJ.istore_n (ls2 := [(0, .ref (cA i0)), (1, .int l1), (2, .int v1)]) dX0_linesIn_5 rfl (Nat.le_of_ble_eq_true rfl) rfl ?_
  refine vJ.iload_n dX0_linesIn_6 rfl rfl ?_
  refine vJ.sipush dX0_linesIn_7 cs_252 ?_
  refine vJ.icmp_lt (tgt := 19) dX0_linesIn_10 (by decide) (fun hc12 => ?_) (fun hc12 => ?_)
  · replace h := h.1 hc12
    refine vJ.aload_n dX0_linesIn_19 rfl rfl ?_
    refine vJ.getR (ci := 0) (k := 10) (j := cA i0 + 2) dX0_linesIn_20 (sh_C hi0) (lt_C hi0) rfl inX0 (Nat.le_of_ble_eq_true rfl) rfl fl_RX0_15 ?_
    refine vJ.iload_n dX0_linesIn_23 rfl rfl ?_
    obtain ⟨hb2, h⟩ := h
    refine vJ.iald dX0_linesIn_24 (sh_K hi0) (lt_K hi0) hb2 ?_
    refine vJ.iconst dX0_linesIn_25 ci_m1 ?_
    refine vJ.icmp_ne (tgt := 40) dX0_linesIn_26 (by decide) (fun hc9 => ?_) (fun hc9 => ?_)
    · replace h := h.2 hc9
      refine vJ.aload_n dX0_linesIn_40 rfl rfl ?_
      refine vJ.getR (ci := 0) (k := 10) (j := cA i0 + 2) dX0_linesIn_41 (sh_C hi0) (lt_C hi0) rfl inX0 (Nat.le_of_ble_eq_true rfl) rfl fl_RX0_15 ?_
      refine vJ.iload_n dX0_linesIn_44 rfl rfl ?_
      obtain ⟨hb3, h⟩ := h
      refine vJ.iald dX0_linesIn_45 (sh_K hi0) (lt_K hi0) hb3 ?_
      exact vJ.ireturn dX0_linesIn_46 rfl rfl rfl ⟨rfl, _, rfl, h⟩
    · replace h := h.1 hc9
      refine vJ.aload_n dX0_linesIn_29 rfl rfl ?_
      refine vJ.getR (ci := 0) (k := 10) (j := cA i0 + 2) dX0_linesIn_30 (sh_C hi0) (lt_C hi0) rfl inX0 (Nat.le_of_ble_eq_true rfl) rfl fl_RX0_15 ?_
      refine vJ.iload_n dX0_linesIn_33 rfl rfl ?_
      refine vJ.aload_n dX0_linesIn_34 rfl rfl ?_
      refine vJ.iload_n dX0_linesIn_35 rfl rfl ?_
      refine vJ.callV (ci := 0) (Yc := mX0_countLines) (frc := 0) (loc := 0) (as := [.int v1]) dX0_linesIn_36 rfl (sh_C hi0) (lt_C hi0) rfl ml_RX0_82 im_yX0_countLines se_yX0_countLines co_X0_countLines in_TableSetter_Cell pl_X0_countLines (Nat.le_of_ble_eq_true rfl) (Nat.le_of_ble_eq_true rfl) (Nat.le_of_ble_eq_true rfl) ?_
      refine Ev.gi h (fun r5 m4 h => ?_)
      obtain ⟨hb6, h⟩ := h
      refine vJ.iast dX0_linesIn_39 (sh_K hi0) (lt_K hi0) hb6 ?_
      refine vJ.topm (fun m7 em7 => ?_)
      replace h := h m7 em7
      refine vJ.aload_n dX0_linesIn_40 rfl rfl ?_
      refine vJ.getR (ci := 0) (k := 10) (j := cA i0 + 2) dX0_linesIn_41 (sh_C hi0) (lt_C hi0) rfl inX0 (Nat.le_of_ble_eq_true rfl) rfl fl_RX0_15 ?_
      refine vJ.iload_n dX0_linesIn_44 rfl rfl ?_
      obtain ⟨hb8, h⟩ := h
      refine vJ.iald dX0_linesIn_45 (sh_K hi0) (lt_K hi0) hb8 ?_
      exact vJ.ireturn dX0_linesIn_46 rfl rfl rfl ⟨rfl, _, rfl, h⟩
  · replace h := h.2 hc12
    refine vJ.aload_n dX0_linesIn_13 rfl rfl ?_
    refine vJ.iload_n dX0_linesIn_14 rfl rfl ?_
    refine vJ.callV (ci := 0) (Yc := mX0_countLines) (frc := 0) (loc := 0) (as := [.int v1]) dX0_linesIn_15 rfl (sh_C hi0) (lt_C hi0) rfl ml_RX0_82 im_yX0_countLines se_yX0_countLines co_X0_countLines in_TableSetter_Cell pl_X0_countLines (Nat.le_of_ble_eq_true rfl) (Nat.le_of_ble_eq_true rfl) (Nat.le_of_ble_eq_true rfl) ?_
    refine Ev.gi h (fun r11 m10 h => ?_)
    exact vJ.ireturn dX0_linesIn_18 rfl rfl rfl ⟨rfl, _, rfl, h⟩
def EI_X0_linesIn (i0 : Nat) (l1 : Int32) (m : vM) (P : Int32 → vM → Prop) : Prop := Ev mX0_linesIn 1 26 197 [.ref (cA i0), .int l1] 197 SH m (vPi P)
theorem f_X0_linesIn {i0 : Nat} {l1 : Int32} {m : vM} {P : Int32 → vM → Prop} (h : J_X0_linesIn_0 i0 l1 m P) : EI_X0_linesIn i0 l1 m P := Ev.of pn_X0_linesIn (Nat.le_of_ble_eq_true rfl) h
theorem e_X0_linesIn {i0 : Nat} {l1 : Int32} {m : vM} {P : Int32 → vM → Prop} (hi0 : i0 < 40) (h : wp_X0_linesIn i0 l1 m P) : EI_X0_linesIn i0 l1 m P := f_X0_linesIn (b_X0_linesIn hi0 h)
def J_X0_longestPiece_0 (i0 : Nat) (m : vM) (P : Int32 → vM → Prop) : Prop := vJ mX0_longestPiece 1 21 197 none 0 [(0, .ref (cA i0))] [] 197 SH m (vPi P)
def J_X0_longestPiece_4 (i0 : Nat) (l1 : Int32) (l2 : Int32) (m : vM) (P : Int32 → vM → Prop) : Prop := vJ mX0_longestPiece 1 21 197 none 4 [(0, .ref (cA i0)), (1, .int l1), (2, .int l2)] [] 197 SH m (vPi P)
def wp_X0_longestPiece_0 (i0 : Nat) (m : vM) (P : Int32 → vM → Prop) : Prop :=
  J_X0_longestPiece_4 i0 (0 : Int32) (0 : Int32) m P
set_option maxRecDepth 20000 in
set_option maxHeartbeats 4000000 in
theorem b_X0_longestPiece_0 {i0 : Nat} {m : vM} {P : Int32 → vM → Prop} (hi0 : i0 < 40) (h : wp_X0_longestPiece_0 i0 m P) : J_X0_longestPiece_0 i0 m P := by
  show vJ mX0_longestPiece 1 21 197 none 0 [(0, .ref (cA i0))] [] 197 SH m (vPi P)
  unfold wp_X0_longestPiece_0 at h
  refine vJ.iconst dX0_longestPiece_0 ci_0 ?_
  refine vJ.istore_n (ls2 := [(0, .ref (cA i0)), (1, .int (0 : Int32))]) dX0_longestPiece_1 rfl (Nat.le_of_ble_eq_true rfl) rfl ?_
  refine vJ.iconst dX0_longestPiece_2 ci_0 ?_
  refine vJ.istore_n (ls2 := [(0, .ref (cA i0)), (1, .int (0 : Int32)), (2, .int (0 : Int32))]) dX0_longestPiece_3 rfl (Nat.le_of_ble_eq_true rfl) rfl ?_
  exact h
def EI_X0_longestPiece (i0 : Nat) (m : vM) (P : Int32 → vM → Prop) : Prop := Ev mX0_longestPiece 1 21 197 [.ref (cA i0)] 197 SH m (vPi P)
theorem f_X0_longestPiece {i0 : Nat} {m : vM} {P : Int32 → vM → Prop} (h : J_X0_longestPiece_0 i0 m P) : EI_X0_longestPiece i0 m P := Ev.of pn_X0_longestPiece (Nat.le_of_ble_eq_true rfl) h
def wp_X0_longestPiece_4 (i0 : Nat) (l1 : Int32) (l2 : Int32) (m : vM) (P : Int32 → vM → Prop) : Prop :=
  (((m.1 (cA i0) 7) ≤ l2 →
    P l1 m) ∧
  (¬ (m.1 (cA i0) 7) ≤ l2 →
    (((12 : Int32) ≤ l2 →
      P l1 m) ∧
    (¬ (12 : Int32) ≤ l2 →
      vp_in l2 12 ∧
      ∀ v2 : Int32, v2 = (if l1 < (m.1 (cA i0 + 1) (Int32.toNatClampNeg l2)) then (m.1 (cA i0 + 1) (Int32.toNatClampNeg l2)) else l1) →
      J_X0_longestPiece_4 i0 v2 (l2 + (1 : Int32)) m P))))
set_option maxRecDepth 20000 in
set_option maxHeartbeats 4000000 in
theorem b_X0_longestPiece_4 {i0 : Nat} {l1 : Int32} {l2 : Int32} {m : vM} {P : Int32 → vM → Prop} (hi0 : i0 < 40) (h : wp_X0_longestPiece_4 i0 l1 l2 m P) : J_X0_longestPiece_4 i0 l1 l2 m P := by
  show vJ mX0_longestPiece 1 21 197 none 4 [(0, .ref (cA i0)), (1, .int l1), (2, .int l2)] [] 197 SH m (vPi P)
  unfold wp_X0_longestPiece_4 at h
  refine vJ.iload_n dX0_longestPiece_4 rfl rfl ?_
  refine vJ.aload_n dX0_longestPiece_5 rfl rfl ?_
  refine vJ.getI (ci := 0) (k := 7) dX0_longestPiece_6 (sh_C hi0) (lt_C hi0) rfl inX0 (Nat.le_of_ble_eq_true rfl) rfl fl_RX0_48 ?_
  refine vJ.icmp_ge (tgt := 38) dX0_longestPiece_9 (by decide) (fun hc4 => ?_) (fun hc4 => ?_)
  · replace h := h.1 hc4
    refine vJ.iload_n dX0_longestPiece_38 rfl rfl ?_
    exact vJ.ireturn dX0_longestPiece_39 rfl rfl rfl ⟨rfl, _, rfl, h⟩
  · replace h := h.2 hc4
    refine vJ.iload_n dX0_longestPiece_12 rfl rfl ?_
    refine vJ.aload_n dX0_longestPiece_13 rfl rfl ?_
    refine vJ.getR (ci := 0) (k := 9) (j := cA i0 + 1) dX0_longestPiece_14 (sh_C hi0) (lt_C hi0) rfl inX0 (Nat.le_of_ble_eq_true rfl) rfl fl_RX0_9 ?_
    refine vJ.alen0 (v := (12 : Int32)) dX0_longestPiece_17 (sh_L hi0) (lt_L hi0) rfl ?_
    refine vJ.icmp_ge (tgt := 38) dX0_longestPiece_18 (by decide) (fun hc3 => ?_) (fun hc3 => ?_)
    · replace h := h.1 hc3
      refine vJ.iload_n dX0_longestPiece_38 rfl rfl ?_
      exact vJ.ireturn dX0_longestPiece_39 rfl rfl rfl ⟨rfl, _, rfl, h⟩
    · replace h := h.2 hc3
      refine vJ.iload_n dX0_longestPiece_21 rfl rfl ?_
      refine vJ.aload_n dX0_longestPiece_22 rfl rfl ?_
      refine vJ.getR (ci := 0) (k := 9) (j := cA i0 + 1) dX0_longestPiece_23 (sh_C hi0) (lt_C hi0) rfl inX0 (Nat.le_of_ble_eq_true rfl) rfl fl_RX0_9 ?_
      refine vJ.iload_n dX0_longestPiece_26 rfl rfl ?_
      obtain ⟨hb1, h⟩ := h
      refine vJ.iald dX0_longestPiece_27 (sh_L hi0) (lt_L hi0) hb1 ?_
      refine vJ.mmax dX0_longestPiece_28 ml_RX0_76 st_Lib_Math_max_name in_java_lang_Math co_Math_max (Nat.le_of_ble_eq_true rfl) (Nat.le_of_ble_eq_true rfl) ?_
      refine vJ.topi (fun v2 ev2 => ?_)
      replace h := h v2 ev2
      refine vJ.istore_n (ls2 := [(0, .ref (cA i0)), (1, .int v2), (2, .int l2)]) dX0_longestPiece_31 rfl (Nat.le_of_ble_eq_true rfl) rfl ?_
      refine vJ.iinc (v := l2 + (1 : Int32)) (ls2 := [(0, .ref (cA i0)), (1, .int v2), (2, .int (l2 + (1 : Int32)))]) dX0_longestPiece_32 rfl (congrArg (l2 + ·) ci_1) (Nat.le_of_ble_eq_true rfl) rfl ?_
      refine vJ.goto (tgt := 4) dX0_longestPiece_35 (by decide) ?_
      exact h
def J_X0_wanted_0 (i0 : Nat) (l1 : Int32) (m : vM) (P : Int32 → vM → Prop) : Prop := vJ mX0_wanted 2 43 197 none 0 [(0, .ref (cA i0)), (1, .int l1)] [] 197 SH m (vPi P)
def wp_X0_wanted (i0 : Nat) (l1 : Int32) (m : vM) (P : Int32 → vM → Prop) : Prop :=
  (((m.1 (cA i0) 0) = (2 : Int32) →
    P (m.1 (cA i0) 6) m) ∧
  (¬ (m.1 (cA i0) 0) = (2 : Int32) →
    (((1 : Int32) ≤ (m.1 (cA i0) 7) →
      ((l1 = (0 : Int32) →
        EI_X0_longestPiece i0 m (fun r4 m3 =>
          P r4 m3)) ∧
      (¬ l1 = (0 : Int32) →
        EI_X0_allLetters i0 m (fun r2 m1 =>
          P ((r2 + (m1.1 (cA i0) 7)) - (1 : Int32)) m1)))) ∧
    (¬ (1 : Int32) ≤ (m.1 (cA i0) 7) →
      P (0 : Int32) m))))
set_option maxRecDepth 20000 in
set_option maxHeartbeats 4000000 in
theorem b_X0_wanted {i0 : Nat} {l1 : Int32} {m : vM} {P : Int32 → vM → Prop} (hi0 : i0 < 40) (h : wp_X0_wanted i0 l1 m P) : J_X0_wanted_0 i0 l1 m P := by
  show vJ mX0_wanted 2 43 197 none 0 [(0, .ref (cA i0)), (1, .int l1)] [] 197 SH m (vPi P)
  unfold wp_X0_wanted at h
  refine vJ.aload_n dX0_wanted_0 rfl rfl ?_
  refine vJ.getI (ci := 0) (k := 0) dX0_wanted_1 (sh_C hi0) (lt_C hi0) rfl inX0 (Nat.le_of_ble_eq_true rfl) rfl fl_RX0_18 ?_
  refine vJ.iconst dX0_wanted_4 ci_2 ?_
  refine vJ.icmp_ne (tgt := 13) dX0_wanted_5 (by decide) (fun hc7 => ?_) (fun hc7 => ?_)
  · replace h := h.2 hc7
    refine vJ.aload_n dX0_wanted_13 rfl rfl ?_
    refine vJ.getI (ci := 0) (k := 7) dX0_wanted_14 (sh_C hi0) (lt_C hi0) rfl inX0 (Nat.le_of_ble_eq_true rfl) rfl fl_RX0_48 ?_
    refine vJ.iconst dX0_wanted_17 ci_1 ?_
    refine vJ.icmp_ge (tgt := 23) dX0_wanted_18 (by decide) (fun hc6 => ?_) (fun hc6 => ?_)
    · replace h := h.1 hc6
      refine vJ.iload_n dX0_wanted_23 rfl rfl ?_
      refine vJ.if_ne (tgt := 34) dX0_wanted_24 (by decide) (fun hc5 => ?_) (fun hc5 => ?_)
      · replace h := h.2 hc5
        refine vJ.aload_n dX0_wanted_34 rfl rfl ?_
        refine vJ.callV (ci := 0) (Yc := mX0_allLetters) (frc := 0) (loc := 0) (as := []) dX0_wanted_35 rfl (sh_C hi0) (lt_C hi0) rfl ml_RX0_73 im_yX0_allLetters se_yX0_allLetters co_X0_allLetters in_TableSetter_Cell pl_X0_allLetters (Nat.le_of_ble_eq_true rfl) (Nat.le_of_ble_eq_true rfl) (Nat.le_of_ble_eq_true rfl) ?_
        refine Ev.gi h (fun r2 m1 h => ?_)
        refine vJ.aload_n dX0_wanted_38 rfl rfl ?_
        refine vJ.getI (ci := 0) (k := 7) dX0_wanted_39 (sh_C hi0) (lt_C hi0) rfl inX0 (Nat.le_of_ble_eq_true rfl) rfl fl_RX0_48 ?_
        refine vJ.iadd dX0_wanted_42 ?_
        refine vJ.iconst dX0_wanted_43 ci_1 ?_
        refine vJ.isub dX0_wanted_44 ?_
        exact vJ.ireturn dX0_wanted_45 rfl rfl rfl ⟨rfl, _, rfl, h⟩
      · replace h := h.1 hc5
        refine vJ.aload_n dX0_wanted_27 rfl rfl ?_
        refine vJ.callV (ci := 0) (Yc := mX0_longestPiece) (frc := 1) (loc := 21) (as := []) dX0_wanted_28 rfl (sh_C hi0) (lt_C hi0) rfl ml_RX0_69 im_yX0_longestPiece se_yX0_longestPiece co_X0_longestPiece in_TableSetter_Cell pl_X0_longestPiece (Nat.le_of_ble_eq_true rfl) (Nat.le_of_ble_eq_true rfl) (Nat.le_of_ble_eq_true rfl) ?_
        refine Ev.gi h (fun r4 m3 h => ?_)
        refine vJ.goto (tgt := 45) dX0_wanted_31 (by decide) ?_
        exact vJ.ireturn dX0_wanted_45 rfl rfl rfl ⟨rfl, _, rfl, h⟩
    · replace h := h.2 hc6
      refine vJ.iconst dX0_wanted_21 ci_0 ?_
      exact vJ.ireturn dX0_wanted_22 rfl rfl rfl ⟨rfl, _, rfl, h⟩
  · replace h := h.1 hc7
    refine vJ.aload_n dX0_wanted_8 rfl rfl ?_
    refine vJ.getI (ci := 0) (k := 6) dX0_wanted_9 (sh_C hi0) (lt_C hi0) rfl inX0 (Nat.le_of_ble_eq_true rfl) rfl fl_RX0_37 ?_
    exact vJ.ireturn dX0_wanted_12 rfl rfl rfl ⟨rfl, _, rfl, h⟩
def EI_X0_wanted (i0 : Nat) (l1 : Int32) (m : vM) (P : Int32 → vM → Prop) : Prop := Ev mX0_wanted 2 43 197 [.ref (cA i0), .int l1] 197 SH m (vPi P)
theorem f_X0_wanted {i0 : Nat} {l1 : Int32} {m : vM} {P : Int32 → vM → Prop} (h : J_X0_wanted_0 i0 l1 m P) : EI_X0_wanted i0 l1 m P := Ev.of pn_X0_wanted (Nat.le_of_ble_eq_true rfl) h
theorem e_X0_wanted {i0 : Nat} {l1 : Int32} {m : vM} {P : Int32 → vM → Prop} (hi0 : i0 < 40) (h : wp_X0_wanted i0 l1 m P) : EI_X0_wanted i0 l1 m P := f_X0_wanted (b_X0_wanted hi0 h)
def J_X0_liesOnRow_0 (i0 : Nat) (l1 : Int32) (m : vM) (P : Int32 → vM → Prop) : Prop := vJ mX0_liesOnRow 0 0 197 none 0 [(0, .ref (cA i0)), (1, .int l1)] [] 197 SH m (vPi P)
def wp_X0_liesOnRow (i0 : Nat) (l1 : Int32) (m : vM) (P : Int32 → vM → Prop) : Prop :=
  ((l1 < (m.1 (cA i0) 1) →
    P (0 : Int32) m) ∧
  (¬ l1 < (m.1 (cA i0) 1) →
    ((((m.1 (cA i0) 1) + (m.1 (cA i0) 3)) ≤ l1 →
      P (0 : Int32) m) ∧
    (¬ ((m.1 (cA i0) 1) + (m.1 (cA i0) 3)) ≤ l1 →
      P (1 : Int32) m))))
set_option maxRecDepth 20000 in
set_option maxHeartbeats 4000000 in
theorem b_X0_liesOnRow {i0 : Nat} {l1 : Int32} {m : vM} {P : Int32 → vM → Prop} (hi0 : i0 < 40) (h : wp_X0_liesOnRow i0 l1 m P) : J_X0_liesOnRow_0 i0 l1 m P := by
  show vJ mX0_liesOnRow 0 0 197 none 0 [(0, .ref (cA i0)), (1, .int l1)] [] 197 SH m (vPi P)
  unfold wp_X0_liesOnRow at h
  refine vJ.iload_n dX0_liesOnRow_0 rfl rfl ?_
  refine vJ.aload_n dX0_liesOnRow_1 rfl rfl ?_
  refine vJ.getI (ci := 0) (k := 1) dX0_liesOnRow_2 (sh_C hi0) (lt_C hi0) rfl inX0 (Nat.le_of_ble_eq_true rfl) rfl fl_RX0_22 ?_
  refine vJ.icmp_lt (tgt := 25) dX0_liesOnRow_5 (by decide) (fun hc2 => ?_) (fun hc2 => ?_)
  · replace h := h.1 hc2
    refine vJ.iconst dX0_liesOnRow_25 ci_0 ?_
    exact vJ.ireturn dX0_liesOnRow_26 rfl (by decide) rfl ⟨rfl, _, rfl, h⟩
  · replace h := h.2 hc2
    refine vJ.iload_n dX0_liesOnRow_8 rfl rfl ?_
    refine vJ.aload_n dX0_liesOnRow_9 rfl rfl ?_
    refine vJ.getI (ci := 0) (k := 1) dX0_liesOnRow_10 (sh_C hi0) (lt_C hi0) rfl inX0 (Nat.le_of_ble_eq_true rfl) rfl fl_RX0_22 ?_
    refine vJ.aload_n dX0_liesOnRow_13 rfl rfl ?_
    refine vJ.getI (ci := 0) (k := 3) dX0_liesOnRow_14 (sh_C hi0) (lt_C hi0) rfl inX0 (Nat.le_of_ble_eq_true rfl) rfl fl_RX0_28 ?_
    refine vJ.iadd dX0_liesOnRow_17 ?_
    refine vJ.icmp_ge (tgt := 25) dX0_liesOnRow_18 (by decide) (fun hc1 => ?_) (fun hc1 => ?_)
    · replace h := h.1 hc1
      refine vJ.iconst dX0_liesOnRow_25 ci_0 ?_
      exact vJ.ireturn dX0_liesOnRow_26 rfl (by decide) rfl ⟨rfl, _, rfl, h⟩
    · replace h := h.2 hc1
      refine vJ.iconst dX0_liesOnRow_21 ci_1 ?_
      refine vJ.goto (tgt := 26) dX0_liesOnRow_22 (by decide) ?_
      exact vJ.ireturn dX0_liesOnRow_26 rfl (by decide) rfl ⟨rfl, _, rfl, h⟩
def EI_X0_liesOnRow (i0 : Nat) (l1 : Int32) (m : vM) (P : Int32 → vM → Prop) : Prop := Ev mX0_liesOnRow 0 0 197 [.ref (cA i0), .int l1] 197 SH m (vPi P)
theorem f_X0_liesOnRow {i0 : Nat} {l1 : Int32} {m : vM} {P : Int32 → vM → Prop} (h : J_X0_liesOnRow_0 i0 l1 m P) : EI_X0_liesOnRow i0 l1 m P := Ev.of pn_X0_liesOnRow (Nat.le_of_ble_eq_true rfl) h
theorem e_X0_liesOnRow {i0 : Nat} {l1 : Int32} {m : vM} {P : Int32 → vM → Prop} (hi0 : i0 < 40) (h : wp_X0_liesOnRow i0 l1 m P) : EI_X0_liesOnRow i0 l1 m P := f_X0_liesOnRow (b_X0_liesOnRow hi0 h)
