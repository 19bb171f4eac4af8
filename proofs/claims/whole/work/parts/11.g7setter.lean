def J_X6_isWithin_0 (l0 : Int32) (l1 : Int32) (l2 : Int32) (m : vM) (P : Int32 → vM → Prop) : Prop := vJ mX6_isWithin 0 0 197 none 0 [(0, .int l0), (1, .int l1), (2, .int l2)] [] 197 SH m (vPi P)
def wp_X6_isWithin (l0 : Int32) (l1 : Int32) (l2 : Int32) (m : vM) (P : Int32 → vM → Prop) : Prop :=
  ((l0 < l1 →
    P (0 : Int32) m) ∧
  (¬ l0 < l1 →
    ((l2 < l0 →
      P (0 : Int32) m) ∧
    (¬ l2 < l0 →
      P (1 : Int32) m))))
set_option maxRecDepth 20000 in
set_option maxHeartbeats 4000000 in
theorem b_X6_isWithin {l0 : Int32} {l1 : Int32} {l2 : Int32} {m : vM} {P : Int32 → vM → Prop}  (h : wp_X6_isWithin l0 l1 l2 m P) : J_X6_isWithin_0 l0 l1 l2 m P := by
  show vJ mX6_isWithin 0 0 197 none 0 [(0, .int l0), (1, .int l1), (2, .int l2)] [] 197 SH m (vPi P)
  unfold wp_X6_isWithin at h
  refine vJ.iload_n dX6_isWithin_0 rfl rfl ?_
  refine vJ.iload_n dX6_isWithin_1 rfl rfl ?_
  refine vJ.icmp_lt (tgt := 14) dX6_isWithin_2 (by decide) (fun hc2 => ?_) (fun hc2 => ?_)
  · replace h := h.1 hc2
    refine vJ.iconst dX6_isWithin_14 ci_0 ?_
    exact vJ.ireturn dX6_isWithin_15 rfl (by decide) rfl ⟨rfl, _, rfl, h⟩
  · replace h := h.2 hc2
    refine vJ.iload_n dX6_isWithin_5 rfl rfl ?_
    refine vJ.iload_n dX6_isWithin_6 rfl rfl ?_
    refine vJ.icmp_gt (tgt := 14) dX6_isWithin_7 (by decide) (fun hc1 => ?_) (fun hc1 => ?_)
    · replace h := h.1 hc1
      refine vJ.iconst dX6_isWithin_14 ci_0 ?_
      exact vJ.ireturn dX6_isWithin_15 rfl (by decide) rfl ⟨rfl, _, rfl, h⟩
    · replace h := h.2 hc1
      refine vJ.iconst dX6_isWithin_10 ci_1 ?_
      refine vJ.goto (tgt := 15) dX6_isWithin_11 (by decide) ?_
      exact vJ.ireturn dX6_isWithin_15 rfl (by decide) rfl ⟨rfl, _, rfl, h⟩
def EI_X6_isWithin (l0 : Int32) (l1 : Int32) (l2 : Int32) (m : vM) (P : Int32 → vM → Prop) : Prop := Ev mX6_isWithin 0 0 197 [.int l0, .int l1, .int l2] 197 SH m (vPi P)
theorem f_X6_isWithin {l0 : Int32} {l1 : Int32} {l2 : Int32} {m : vM} {P : Int32 → vM → Prop} (h : J_X6_isWithin_0 l0 l1 l2 m P) : EI_X6_isWithin l0 l1 l2 m P := Ev.of pn_X6_isWithin (Nat.le_of_ble_eq_true rfl) h
theorem e_X6_isWithin {l0 : Int32} {l1 : Int32} {l2 : Int32} {m : vM} {P : Int32 → vM → Prop}  (h : wp_X6_isWithin l0 l1 l2 m P) : EI_X6_isWithin l0 l1 l2 m P := f_X6_isWithin (b_X6_isWithin  h)
def J_X6_table_0 (l1 : Int32) (l2 : Int32) (l3 : Int32) (m : vM) (P : Int32 → vM → Prop) : Prop := vJ mX6_table 2 46 197 none 0 [(0, .ref 0), (1, .int l1), (2, .int l2), (3, .int l3)] [] 197 SH m (vPi P)
def wp_X6_table (l1 : Int32) (l2 : Int32) (l3 : Int32) (m : vM) (P : Int32 → vM → Prop) : Prop :=
  wp_X6_isWithin l1 (1 : Int32) (16 : Int32) m (fun r2 m1 =>
    ((r2 = (0 : Int32) →
      P (-1 : Int32) m1) ∧
    (¬ r2 = (0 : Int32) →
      wp_X6_isWithin l2 (1 : Int32) (6 : Int32) m1 (fun r4 m3 =>
        ((r4 = (0 : Int32) →
          P (-1 : Int32) m3) ∧
        (¬ r4 = (0 : Int32) →
          wp_X6_isWithin l3 (0 : Int32) (3 : Int32) m3 (fun r6 m5 =>
            ((r6 = (0 : Int32) →
              P (-1 : Int32) m5) ∧
            (¬ r6 = (0 : Int32) →
              wp_X1_begin l1 l2 l3 m5 (fun m7 =>
                wp_X5_forget m7 (fun m8 =>
                  wp_X3_forget m8 (fun m9 =>
                    ∀ m10 : vM, m10 = upI m9 0 6 (-9 : Int32) →
                    P (l1 * l2) m10))))))))))))
set_option maxRecDepth 20000 in
set_option maxHeartbeats 4000000 in
theorem b_X6_table {l1 : Int32} {l2 : Int32} {l3 : Int32} {m : vM} {P : Int32 → vM → Prop}  (h : wp_X6_table l1 l2 l3 m P) : J_X6_table_0 l1 l2 l3 m P := by
  show vJ mX6_table 2 46 197 none 0 [(0, .ref 0), (1, .int l1), (2, .int l2), (3, .int l3)] [] 197 SH m (vPi P)
  unfold wp_X6_table at h
  refine vJ.iload_n dX6_table_0 rfl rfl ?_
  refine vJ.iconst dX6_table_1 ci_1 ?_
  refine vJ.bipush dX6_table_2 cb_16 ?_
  refine vJ.callS (Yc := mX6_isWithin) (frc := 0) (loc := 0) (as := [.int l1, .int (1 : Int32), .int (16 : Int32)]) dX6_table_4 rfl ml_RX6_55 st_yX6_isWithin co_X6_isWithin in_TableSetter pl_X6_isWithin (Nat.le_of_ble_eq_true rfl) (Nat.le_of_ble_eq_true rfl) (Nat.le_of_ble_eq_true rfl) ?_
  refine Ev.gi (e_X6_isWithin  h) (fun r2 m1 h => ?_)
  refine vJ.if_eq (tgt := 29) dX6_table_7 (by decide) (fun hc13 => ?_) (fun hc13 => ?_)
  · replace h := h.1 hc13
    refine vJ.iconst dX6_table_29 ci_m1 ?_
    exact vJ.ireturn dX6_table_30 rfl rfl rfl ⟨rfl, _, rfl, h⟩
  · replace h := h.2 hc13
    refine vJ.iload_n dX6_table_10 rfl rfl ?_
    refine vJ.iconst dX6_table_11 ci_1 ?_
    refine vJ.bipush dX6_table_12 cb_6 ?_
    refine vJ.callS (Yc := mX6_isWithin) (frc := 0) (loc := 0) (as := [.int l2, .int (1 : Int32), .int (6 : Int32)]) dX6_table_14 rfl ml_RX6_55 st_yX6_isWithin co_X6_isWithin in_TableSetter pl_X6_isWithin (Nat.le_of_ble_eq_true rfl) (Nat.le_of_ble_eq_true rfl) (Nat.le_of_ble_eq_true rfl) ?_
    refine Ev.gi (e_X6_isWithin  h) (fun r4 m3 h => ?_)
    refine vJ.if_eq (tgt := 29) dX6_table_17 (by decide) (fun hc12 => ?_) (fun hc12 => ?_)
    · replace h := h.1 hc12
      refine vJ.iconst dX6_table_29 ci_m1 ?_
      exact vJ.ireturn dX6_table_30 rfl rfl rfl ⟨rfl, _, rfl, h⟩
    · replace h := h.2 hc12
      refine vJ.iload_n dX6_table_20 rfl rfl ?_
      refine vJ.iconst dX6_table_21 ci_0 ?_
      refine vJ.iconst dX6_table_22 ci_3 ?_
      refine vJ.callS (Yc := mX6_isWithin) (frc := 0) (loc := 0) (as := [.int l3, .int (0 : Int32), .int (3 : Int32)]) dX6_table_23 rfl ml_RX6_55 st_yX6_isWithin co_X6_isWithin in_TableSetter pl_X6_isWithin (Nat.le_of_ble_eq_true rfl) (Nat.le_of_ble_eq_true rfl) (Nat.le_of_ble_eq_true rfl) ?_
      refine Ev.gi (e_X6_isWithin  h) (fun r6 m5 h => ?_)
      refine vJ.if_ne (tgt := 31) dX6_table_26 (by decide) (fun hc11 => ?_) (fun hc11 => ?_)
      · replace h := h.2 hc11
        refine vJ.aload_n dX6_table_31 rfl rfl ?_
        refine vJ.getR (ci := 6) (k := 0) (j := 1) dX6_table_32 sh_0 (Nat.le_of_ble_eq_true rfl) rfl inX6 (Nat.le_of_ble_eq_true rfl) rfl fl_RX6_10 ?_
        refine vJ.iload_n dX6_table_35 rfl rfl ?_
        refine vJ.iload_n dX6_table_36 rfl rfl ?_
        refine vJ.iload_n dX6_table_37 rfl rfl ?_
        refine vJ.callV (ci := 1) (Yc := mX1_begin) (frc := 1) (loc := 23) (as := [.int l1, .int l2, .int l3]) dX6_table_38 rfl sh_1 (Nat.le_of_ble_eq_true rfl) rfl ml_RX6_59 im_yX1_begin se_yX1_begin co_X1_begin in_TableSetter_Grid pl_X1_begin (Nat.le_of_ble_eq_true rfl) (Nat.le_of_ble_eq_true rfl) (Nat.le_of_ble_eq_true rfl) ?_
        refine Ev.gv (e_X1_begin  h) (fun m7 h => ?_)
        refine vJ.aload_n dX6_table_41 rfl rfl ?_
        refine vJ.getR (ci := 6) (k := 2) (j := 129) dX6_table_42 sh_0 (Nat.le_of_ble_eq_true rfl) rfl inX6 (Nat.le_of_ble_eq_true rfl) rfl fl_RX6_30 ?_
        refine vJ.callV (ci := 5) (Yc := mX5_forget) (frc := 1) (loc := 23) (as := []) dX6_table_45 rfl sh_129 (Nat.le_of_ble_eq_true rfl) rfl ml_RX6_63 im_yX5_forget se_yX5_forget co_X5_forget in_TableSetter_Widths pl_X5_forget (Nat.le_of_ble_eq_true rfl) (Nat.le_of_ble_eq_true rfl) (Nat.le_of_ble_eq_true rfl) ?_
        refine Ev.gv (e_X5_forget  h) (fun m8 h => ?_)
        refine vJ.aload_n dX6_table_48 rfl rfl ?_
        refine vJ.getR (ci := 6) (k := 3) (j := 139) dX6_table_49 sh_0 (Nat.le_of_ble_eq_true rfl) rfl inX6 (Nat.le_of_ble_eq_true rfl) rfl fl_RX6_37 ?_
        refine vJ.callV (ci := 3) (Yc := mX3_forget) (frc := 0) (loc := 0) (as := []) dX6_table_52 rfl sh_139 (Nat.le_of_ble_eq_true rfl) rfl ml_RX6_66 im_yX3_forget se_yX3_forget co_X3_forget in_TableSetter_Pager pl_X3_forget (Nat.le_of_ble_eq_true rfl) (Nat.le_of_ble_eq_true rfl) (Nat.le_of_ble_eq_true rfl) ?_
        refine Ev.gv (e_X3_forget  h) (fun m9 h => ?_)
        refine vJ.aload_n dX6_table_55 rfl rfl ?_
        refine vJ.bipush dX6_table_56 cb_m9 ?_
        refine vJ.putI (ci := 6) (k := 6) dX6_table_58 sh_0 (Nat.le_of_ble_eq_true rfl) rfl inX6 tyX6 tyX6_ok nmX6 (Nat.le_of_ble_eq_true rfl) rfl rfl fl_RX6_49 rfl rfl ?_
        refine vJ.topm (fun m10 em10 => ?_)
        replace h := h m10 em10
        refine vJ.iload_n dX6_table_61 rfl rfl ?_
        refine vJ.iload_n dX6_table_62 rfl rfl ?_
        refine vJ.imul dX6_table_63 ?_
        exact vJ.ireturn dX6_table_64 rfl rfl rfl ⟨rfl, _, rfl, h⟩
      · replace h := h.1 hc11
        refine vJ.iconst dX6_table_29 ci_m1 ?_
        exact vJ.ireturn dX6_table_30 rfl rfl rfl ⟨rfl, _, rfl, h⟩
def EI_X6_table (l1 : Int32) (l2 : Int32) (l3 : Int32) (m : vM) (P : Int32 → vM → Prop) : Prop := Ev mX6_table 2 46 197 [.ref 0, .int l1, .int l2, .int l3] 197 SH m (vPi P)
theorem f_X6_table {l1 : Int32} {l2 : Int32} {l3 : Int32} {m : vM} {P : Int32 → vM → Prop} (h : J_X6_table_0 l1 l2 l3 m P) : EI_X6_table l1 l2 l3 m P := Ev.of pn_X6_table (Nat.le_of_ble_eq_true rfl) h
theorem e_X6_table {l1 : Int32} {l2 : Int32} {l3 : Int32} {m : vM} {P : Int32 → vM → Prop}  (h : wp_X6_table l1 l2 l3 m P) : EI_X6_table l1 l2 l3 m P := f_X6_table (b_X6_table  h)
def J_X6_weight_0 (l1 : Int32) (l2 : Int32) (m : vM) (P : Int32 → vM → Prop) : Prop := vJ mX6_weight 1 22 197 none 0 [(0, .ref 0), (1, .int l1), (2, .int l2)] [] 197 SH m (vPi P)
def wp_X6_weight (l1 : Int32) (l2 : Int32) (m : vM) (P : Int32 → vM → Prop) : Prop :=
  wp_X6_isWithin l1 (0 : Int32) ((m.1 1 1) - (1 : Int32)) m (fun r2 m1 =>
    ((r2 = (0 : Int32) →
      P (-1 : Int32) m1) ∧
    (¬ r2 = (0 : Int32) →
      wp_X6_isWithin l2 (1 : Int32) (9 : Int32) m1 (fun r4 m3 =>
        ((r4 = (0 : Int32) →
          P (-1 : Int32) m3) ∧
        (¬ r4 = (0 : Int32) →
          vp_in l1 6 ∧
          ∀ v6 : Int32, v6 = (m3.1 2 (Int32.toNatClampNeg l1)) →
          vp_in l1 6 ∧
          ∀ m8 : vM, m8 = upI m3 2 (Int32.toNatClampNeg l1) l2 →
          P v6 m8))))))
set_option maxRecDepth 20000 in
set_option maxHeartbeats 4000000 in
theorem b_X6_weight {l1 : Int32} {l2 : Int32} {m : vM} {P : Int32 → vM → Prop}  (h : wp_X6_weight l1 l2 m P) : J_X6_weight_0 l1 l2 m P := by
  show vJ mX6_weight 1 22 197 none 0 [(0, .ref 0), (1, .int l1), (2, .int l2)] [] 197 SH m (vPi P)
  unfold wp_X6_weight at h
  refine vJ.iload_n dX6_weight_0 rfl rfl ?_
  refine vJ.iconst dX6_weight_1 ci_0 ?_
  refine vJ.aload_n dX6_weight_2 rfl rfl ?_
  refine vJ.getR (ci := 6) (k := 0) (j := 1) dX6_weight_3 sh_0 (Nat.le_of_ble_eq_true rfl) rfl inX6 (Nat.le_of_ble_eq_true rfl) rfl fl_RX6_10 ?_
  refine vJ.getI (ci := 1) (k := 1) dX6_weight_6 sh_1 (Nat.le_of_ble_eq_true rfl) rfl inX1 (Nat.le_of_ble_eq_true rfl) rfl fl_RX6_67 ?_
  refine vJ.iconst dX6_weight_9 ci_1 ?_
  refine vJ.isub dX6_weight_10 ?_
  refine vJ.callS (Yc := mX6_isWithin) (frc := 0) (loc := 0) (as := [.int l1, .int (0 : Int32), .int ((m.1 1 1) - (1 : Int32))]) dX6_weight_11 rfl ml_RX6_55 st_yX6_isWithin co_X6_isWithin in_TableSetter pl_X6_isWithin (Nat.le_of_ble_eq_true rfl) (Nat.le_of_ble_eq_true rfl) (Nat.le_of_ble_eq_true rfl) ?_
  refine Ev.gi (e_X6_isWithin  h) (fun r2 m1 h => ?_)
  refine vJ.if_eq (tgt := 27) dX6_weight_14 (by decide) (fun hc10 => ?_) (fun hc10 => ?_)
  · replace h := h.1 hc10
    refine vJ.iconst dX6_weight_27 ci_m1 ?_
    exact vJ.ireturn dX6_weight_28 rfl rfl rfl ⟨rfl, _, rfl, h⟩
  · replace h := h.2 hc10
    refine vJ.iload_n dX6_weight_17 rfl rfl ?_
    refine vJ.iconst dX6_weight_18 ci_1 ?_
    refine vJ.bipush dX6_weight_19 cb_9 ?_
    refine vJ.callS (Yc := mX6_isWithin) (frc := 0) (loc := 0) (as := [.int l2, .int (1 : Int32), .int (9 : Int32)]) dX6_weight_21 rfl ml_RX6_55 st_yX6_isWithin co_X6_isWithin in_TableSetter pl_X6_isWithin (Nat.le_of_ble_eq_true rfl) (Nat.le_of_ble_eq_true rfl) (Nat.le_of_ble_eq_true rfl) ?_
    refine Ev.gi (e_X6_isWithin  h) (fun r4 m3 h => ?_)
    refine vJ.if_ne (tgt := 29) dX6_weight_24 (by decide) (fun hc9 => ?_) (fun hc9 => ?_)
    · replace h := h.2 hc9
      refine vJ.aload_n dX6_weight_29 rfl rfl ?_
      refine vJ.getR (ci := 6) (k := 0) (j := 1) dX6_weight_30 sh_0 (Nat.le_of_ble_eq_true rfl) rfl inX6 (Nat.le_of_ble_eq_true rfl) rfl fl_RX6_10 ?_
      refine vJ.getR (ci := 1) (k := 4) (j := 2) dX6_weight_33 sh_1 (Nat.le_of_ble_eq_true rfl) rfl inX1 (Nat.le_of_ble_eq_true rfl) rfl fl_RX6_70 ?_
      refine vJ.iload_n dX6_weight_36 rfl rfl ?_
      obtain ⟨hb5, h⟩ := h
      refine vJ.iald dX6_weight_37 sh_2 (Nat.le_of_ble_eq_true rfl) hb5 ?_
      refine vJ.topi (fun v6 ev6 => ?_)
      replace h := h v6 ev6
      refine vJ.istore_n (ls2 := [(0, .ref 0), (1, .int l1), (2, .int l2), (3, .int v6)]) dX6_weight_38 rfl (Nat.le_of_ble_eq_true rfl) rfl ?_
      refine vJ.aload_n dX6_weight_39 rfl rfl ?_
      refine vJ.getR (ci := 6) (k := 0) (j := 1) dX6_weight_40 sh_0 (Nat.le_of_ble_eq_true rfl) rfl inX6 (Nat.le_of_ble_eq_true rfl) rfl fl_RX6_10 ?_
      refine vJ.getR (ci := 1) (k := 4) (j := 2) dX6_weight_43 sh_1 (Nat.le_of_ble_eq_true rfl) rfl inX1 (Nat.le_of_ble_eq_true rfl) rfl fl_RX6_70 ?_
      refine vJ.iload_n dX6_weight_46 rfl rfl ?_
      refine vJ.iload_n dX6_weight_47 rfl rfl ?_
      obtain ⟨hb7, h⟩ := h
      refine vJ.iast dX6_weight_48 sh_2 (Nat.le_of_ble_eq_true rfl) hb7 ?_
      refine vJ.topm (fun m8 em8 => ?_)
      replace h := h m8 em8
      refine vJ.iload_n dX6_weight_49 rfl rfl ?_
      exact vJ.ireturn dX6_weight_50 rfl rfl rfl ⟨rfl, _, rfl, h⟩
    · replace h := h.1 hc9
      refine vJ.iconst dX6_weight_27 ci_m1 ?_
      exact vJ.ireturn dX6_weight_28 rfl rfl rfl ⟨rfl, _, rfl, h⟩
def EI_X6_weight (l1 : Int32) (l2 : Int32) (m : vM) (P : Int32 → vM → Prop) : Prop := Ev mX6_weight 1 22 197 [.ref 0, .int l1, .int l2] 197 SH m (vPi P)
theorem f_X6_weight {l1 : Int32} {l2 : Int32} {m : vM} {P : Int32 → vM → Prop} (h : J_X6_weight_0 l1 l2 m P) : EI_X6_weight l1 l2 m P := Ev.of pn_X6_weight (Nat.le_of_ble_eq_true rfl) h
theorem e_X6_weight {l1 : Int32} {l2 : Int32} {m : vM} {P : Int32 → vM → Prop}  (h : wp_X6_weight l1 l2 m P) : EI_X6_weight l1 l2 m P := f_X6_weight (b_X6_weight  h)
def J_X6_note_0 (l1 : Int32) (l2 : Int32) (m : vM) (P : Int32 → vM → Prop) : Prop := vJ mX6_note 1 22 197 none 0 [(0, .ref 0), (1, .int l1), (2, .int l2)] [] 197 SH m (vPi P)
def wp_X6_note (l1 : Int32) (l2 : Int32) (m : vM) (P : Int32 → vM → Prop) : Prop :=
  wp_X6_isWithin l1 (0 : Int32) (9 : Int32) m (fun r2 m1 =>
    ((r2 = (0 : Int32) →
      P (-1 : Int32) m1) ∧
    (¬ r2 = (0 : Int32) →
      wp_X6_isWithin l2 (1 : Int32) (6 : Int32) m1 (fun r4 m3 =>
        ((r4 = (0 : Int32) →
          P (-1 : Int32) m3) ∧
        (¬ r4 = (0 : Int32) →
          vp_in l1 10 ∧
          ∀ v6 : Int32, v6 = (m3.1 3 (Int32.toNatClampNeg l1)) →
          vp_in l1 10 ∧
          ∀ m8 : vM, m8 = upI m3 3 (Int32.toNatClampNeg l1) l2 →
          P v6 m8))))))
set_option maxRecDepth 20000 in
set_option maxHeartbeats 4000000 in
theorem b_X6_note {l1 : Int32} {l2 : Int32} {m : vM} {P : Int32 → vM → Prop}  (h : wp_X6_note l1 l2 m P) : J_X6_note_0 l1 l2 m P := by
  show vJ mX6_note 1 22 197 none 0 [(0, .ref 0), (1, .int l1), (2, .int l2)] [] 197 SH m (vPi P)
  unfold wp_X6_note at h
  refine vJ.iload_n dX6_note_0 rfl rfl ?_
  refine vJ.iconst dX6_note_1 ci_0 ?_
  refine vJ.bipush dX6_note_2 cb_9 ?_
  refine vJ.callS (Yc := mX6_isWithin) (frc := 0) (loc := 0) (as := [.int l1, .int (0 : Int32), .int (9 : Int32)]) dX6_note_4 rfl ml_RX6_55 st_yX6_isWithin co_X6_isWithin in_TableSetter pl_X6_isWithin (Nat.le_of_ble_eq_true rfl) (Nat.le_of_ble_eq_true rfl) (Nat.le_of_ble_eq_true rfl) ?_
  refine Ev.gi (e_X6_isWithin  h) (fun r2 m1 h => ?_)
  refine vJ.if_eq (tgt := 20) dX6_note_7 (by decide) (fun hc10 => ?_) (fun hc10 => ?_)
  · replace h := h.1 hc10
    refine vJ.iconst dX6_note_20 ci_m1 ?_
    exact vJ.ireturn dX6_note_21 rfl rfl rfl ⟨rfl, _, rfl, h⟩
  · replace h := h.2 hc10
    refine vJ.iload_n dX6_note_10 rfl rfl ?_
    refine vJ.iconst dX6_note_11 ci_1 ?_
    refine vJ.bipush dX6_note_12 cb_6 ?_
    refine vJ.callS (Yc := mX6_isWithin) (frc := 0) (loc := 0) (as := [.int l2, .int (1 : Int32), .int (6 : Int32)]) dX6_note_14 rfl ml_RX6_55 st_yX6_isWithin co_X6_isWithin in_TableSetter pl_X6_isWithin (Nat.le_of_ble_eq_true rfl) (Nat.le_of_ble_eq_true rfl) (Nat.le_of_ble_eq_true rfl) ?_
    refine Ev.gi (e_X6_isWithin  h) (fun r4 m3 h => ?_)
    refine vJ.if_ne (tgt := 22) dX6_note_17 (by decide) (fun hc9 => ?_) (fun hc9 => ?_)
    · replace h := h.2 hc9
      refine vJ.aload_n dX6_note_22 rfl rfl ?_
      refine vJ.getR (ci := 6) (k := 0) (j := 1) dX6_note_23 sh_0 (Nat.le_of_ble_eq_true rfl) rfl inX6 (Nat.le_of_ble_eq_true rfl) rfl fl_RX6_10 ?_
      refine vJ.getR (ci := 1) (k := 5) (j := 3) dX6_note_26 sh_1 (Nat.le_of_ble_eq_true rfl) rfl inX1 (Nat.le_of_ble_eq_true rfl) rfl fl_RX6_73 ?_
      refine vJ.iload_n dX6_note_29 rfl rfl ?_
      obtain ⟨hb5, h⟩ := h
      refine vJ.iald dX6_note_30 sh_3 (Nat.le_of_ble_eq_true rfl) hb5 ?_
      refine vJ.topi (fun v6 ev6 => ?_)
      replace h := h v6 ev6
      refine vJ.istore_n (ls2 := [(0, .ref 0), (1, .int l1), (2, .int l2), (3, .int v6)]) dX6_note_31 rfl (Nat.le_of_ble_eq_true rfl) rfl ?_
      refine vJ.aload_n dX6_note_32 rfl rfl ?_
      refine vJ.getR (ci := 6) (k := 0) (j := 1) dX6_note_33 sh_0 (Nat.le_of_ble_eq_true rfl) rfl inX6 (Nat.le_of_ble_eq_true rfl) rfl fl_RX6_10 ?_
      refine vJ.getR (ci := 1) (k := 5) (j := 3) dX6_note_36 sh_1 (Nat.le_of_ble_eq_true rfl) rfl inX1 (Nat.le_of_ble_eq_true rfl) rfl fl_RX6_73 ?_
      refine vJ.iload_n dX6_note_39 rfl rfl ?_
      refine vJ.iload_n dX6_note_40 rfl rfl ?_
      obtain ⟨hb7, h⟩ := h
      refine vJ.iast dX6_note_41 sh_3 (Nat.le_of_ble_eq_true rfl) hb7 ?_
      refine vJ.topm (fun m8 em8 => ?_)
      replace h := h m8 em8
      refine vJ.iload_n dX6_note_42 rfl rfl ?_
      exact vJ.ireturn dX6_note_43 rfl rfl rfl ⟨rfl, _, rfl, h⟩
    · replace h := h.1 hc9
      refine vJ.iconst dX6_note_20 ci_m1 ?_
      exact vJ.ireturn dX6_note_21 rfl rfl rfl ⟨rfl, _, rfl, h⟩
def EI_X6_note (l1 : Int32) (l2 : Int32) (m : vM) (P : Int32 → vM → Prop) : Prop := Ev mX6_note 1 22 197 [.ref 0, .int l1, .int l2] 197 SH m (vPi P)
theorem f_X6_note {l1 : Int32} {l2 : Int32} {m : vM} {P : Int32 → vM → Prop} (h : J_X6_note_0 l1 l2 m P) : EI_X6_note l1 l2 m P := Ev.of pn_X6_note (Nat.le_of_ble_eq_true rfl) h
theorem e_X6_note {l1 : Int32} {l2 : Int32} {m : vM} {P : Int32 → vM → Prop}  (h : wp_X6_note l1 l2 m P) : EI_X6_note l1 l2 m P := f_X6_note (b_X6_note  h)
def J_X6_isPlace_0 (l1 : Int32) (l2 : Int32) (m : vM) (P : Int32 → vM → Prop) : Prop := vJ mX6_isPlace 1 22 197 none 0 [(0, .ref 0), (1, .int l1), (2, .int l2)] [] 197 SH m (vPi P)
def wp_X6_isPlace (l1 : Int32) (l2 : Int32) (m : vM) (P : Int32 → vM → Prop) : Prop :=
  wp_X6_isWithin l1 (0 : Int32) ((m.1 1 0) - (1 : Int32)) m (fun r2 m1 =>
    ((r2 = (0 : Int32) →
      P (0 : Int32) m1) ∧
    (¬ r2 = (0 : Int32) →
      wp_X6_isWithin l2 (0 : Int32) ((m1.1 1 1) - (1 : Int32)) m1 (fun r4 m3 =>
        ((r4 = (0 : Int32) →
          P (0 : Int32) m3) ∧
        (¬ r4 = (0 : Int32) →
          P (1 : Int32) m3))))))
set_option maxRecDepth 20000 in
set_option maxHeartbeats 4000000 in
theorem b_X6_isPlace {l1 : Int32} {l2 : Int32} {m : vM} {P : Int32 → vM → Prop}  (h : wp_X6_isPlace l1 l2 m P) : J_X6_isPlace_0 l1 l2 m P := by
  show vJ mX6_isPlace 1 22 197 none 0 [(0, .ref 0), (1, .int l1), (2, .int l2)] [] 197 SH m (vPi P)
  unfold wp_X6_isPlace at h
  refine vJ.iload_n dX6_isPlace_0 rfl rfl ?_
  refine vJ.iconst dX6_isPlace_1 ci_0 ?_
  refine vJ.aload_n dX6_isPlace_2 rfl rfl ?_
  refine vJ.getR (ci := 6) (k := 0) (j := 1) dX6_isPlace_3 sh_0 (Nat.le_of_ble_eq_true rfl) rfl inX6 (Nat.le_of_ble_eq_true rfl) rfl fl_RX6_10 ?_
  refine vJ.getI (ci := 1) (k := 0) dX6_isPlace_6 sh_1 (Nat.le_of_ble_eq_true rfl) rfl inX1 (Nat.le_of_ble_eq_true rfl) rfl fl_RX6_83 ?_
  refine vJ.iconst dX6_isPlace_9 ci_1 ?_
  refine vJ.isub dX6_isPlace_10 ?_
  refine vJ.callS (Yc := mX6_isWithin) (frc := 0) (loc := 0) (as := [.int l1, .int (0 : Int32), .int ((m.1 1 0) - (1 : Int32))]) dX6_isPlace_11 rfl ml_RX6_55 st_yX6_isWithin co_X6_isWithin in_TableSetter pl_X6_isWithin (Nat.le_of_ble_eq_true rfl) (Nat.le_of_ble_eq_true rfl) (Nat.le_of_ble_eq_true rfl) ?_
  refine Ev.gi (e_X6_isWithin  h) (fun r2 m1 h => ?_)
  refine vJ.if_eq (tgt := 38) dX6_isPlace_14 (by decide) (fun hc6 => ?_) (fun hc6 => ?_)
  · replace h := h.1 hc6
    refine vJ.iconst dX6_isPlace_38 ci_0 ?_
    exact vJ.ireturn dX6_isPlace_39 rfl (by decide) rfl ⟨rfl, _, rfl, h⟩
  · replace h := h.2 hc6
    refine vJ.iload_n dX6_isPlace_17 rfl rfl ?_
    refine vJ.iconst dX6_isPlace_18 ci_0 ?_
    refine vJ.aload_n dX6_isPlace_19 rfl rfl ?_
    refine vJ.getR (ci := 6) (k := 0) (j := 1) dX6_isPlace_20 sh_0 (Nat.le_of_ble_eq_true rfl) rfl inX6 (Nat.le_of_ble_eq_true rfl) rfl fl_RX6_10 ?_
    refine vJ.getI (ci := 1) (k := 1) dX6_isPlace_23 sh_1 (Nat.le_of_ble_eq_true rfl) rfl inX1 (Nat.le_of_ble_eq_true rfl) rfl fl_RX6_67 ?_
    refine vJ.iconst dX6_isPlace_26 ci_1 ?_
    refine vJ.isub dX6_isPlace_27 ?_
    refine vJ.callS (Yc := mX6_isWithin) (frc := 0) (loc := 0) (as := [.int l2, .int (0 : Int32), .int ((m1.1 1 1) - (1 : Int32))]) dX6_isPlace_28 rfl ml_RX6_55 st_yX6_isWithin co_X6_isWithin in_TableSetter pl_X6_isWithin (Nat.le_of_ble_eq_true rfl) (Nat.le_of_ble_eq_true rfl) (Nat.le_of_ble_eq_true rfl) ?_
    refine Ev.gi (e_X6_isWithin  h) (fun r4 m3 h => ?_)
    refine vJ.if_eq (tgt := 38) dX6_isPlace_31 (by decide) (fun hc5 => ?_) (fun hc5 => ?_)
    · replace h := h.1 hc5
      refine vJ.iconst dX6_isPlace_38 ci_0 ?_
      exact vJ.ireturn dX6_isPlace_39 rfl (by decide) rfl ⟨rfl, _, rfl, h⟩
    · replace h := h.2 hc5
      refine vJ.iconst dX6_isPlace_34 ci_1 ?_
      refine vJ.goto (tgt := 39) dX6_isPlace_35 (by decide) ?_
      exact vJ.ireturn dX6_isPlace_39 rfl (by decide) rfl ⟨rfl, _, rfl, h⟩
def EI_X6_isPlace (l1 : Int32) (l2 : Int32) (m : vM) (P : Int32 → vM → Prop) : Prop := Ev mX6_isPlace 1 22 197 [.ref 0, .int l1, .int l2] 197 SH m (vPi P)
theorem f_X6_isPlace {l1 : Int32} {l2 : Int32} {m : vM} {P : Int32 → vM → Prop} (h : J_X6_isPlace_0 l1 l2 m P) : EI_X6_isPlace l1 l2 m P := Ev.of pn_X6_isPlace (Nat.le_of_ble_eq_true rfl) h
theorem e_X6_isPlace {l1 : Int32} {l2 : Int32} {m : vM} {P : Int32 → vM → Prop}  (h : wp_X6_isPlace l1 l2 m P) : EI_X6_isPlace l1 l2 m P := f_X6_isPlace (b_X6_isPlace  h)
def J_X6_tell_0 (l1 : Int32) (m : vM) (P : Int32 → vM → Prop) : Prop := vJ mX6_tell 0 0 197 none 0 [(0, .ref 0), (1, .int l1)] [] 197 SH m (vPi P)
def wp_X6_tell (l1 : Int32) (m : vM) (P : Int32 → vM → Prop) : Prop :=
  ∀ m1 : vM, m1 = upI m 0 5 l1 →
  ((l1 < (0 : Int32) →
    P (-3 : Int32) m1) ∧
  (¬ l1 < (0 : Int32) →
    (((7 : Int32) ≤ l1 →
      P (-3 : Int32) m1) ∧
    (¬ (7 : Int32) ≤ l1 →
      vp_in l1 7 ∧
      vp_in l1 7 ∧
      ∀ m4 : vM, m4 = upI m1 162 (Int32.toNatClampNeg l1) ((m1.1 162 (Int32.toNatClampNeg l1)) + (1 : Int32)) →
      P (-3 : Int32) m4))))
set_option maxRecDepth 20000 in
set_option maxHeartbeats 4000000 in
theorem b_X6_tell {l1 : Int32} {m : vM} {P : Int32 → vM → Prop}  (h : wp_X6_tell l1 m P) : J_X6_tell_0 l1 m P := by
  show vJ mX6_tell 0 0 197 none 0 [(0, .ref 0), (1, .int l1)] [] 197 SH m (vPi P)
  unfold wp_X6_tell at h
  refine vJ.aload_n dX6_tell_0 rfl rfl ?_
  refine vJ.iload_n dX6_tell_1 rfl rfl ?_
  refine vJ.putI (ci := 6) (k := 5) dX6_tell_2 sh_0 (Nat.le_of_ble_eq_true rfl) rfl inX6 tyX6 tyX6_ok nmX6 (Nat.le_of_ble_eq_true rfl) rfl rfl fl_RX6_45 rfl rfl ?_
  refine vJ.topm (fun m1 em1 => ?_)
  replace h := h m1 em1
  refine vJ.iload_n dX6_tell_5 rfl rfl ?_
  refine vJ.if_lt (tgt := 28) dX6_tell_6 (by decide) (fun hc6 => ?_) (fun hc6 => ?_)
  · replace h := h.1 hc6
    refine vJ.bipush dX6_tell_28 cb_m3 ?_
    exact vJ.ireturn dX6_tell_30 rfl rfl rfl ⟨rfl, _, rfl, h⟩
  · replace h := h.2 hc6
    refine vJ.iload_n dX6_tell_9 rfl rfl ?_
    refine vJ.aload_n dX6_tell_10 rfl rfl ?_
    refine vJ.getR (ci := 6) (k := 4) (j := 162) dX6_tell_11 sh_0 (Nat.le_of_ble_eq_true rfl) rfl inX6 (Nat.le_of_ble_eq_true rfl) rfl fl_RX6_41 ?_
    refine vJ.alen0 (v := (7 : Int32)) dX6_tell_14 sh_162 (Nat.le_of_ble_eq_true rfl) rfl ?_
    refine vJ.icmp_ge (tgt := 28) dX6_tell_15 (by decide) (fun hc5 => ?_) (fun hc5 => ?_)
    · replace h := h.1 hc5
      refine vJ.bipush dX6_tell_28 cb_m3 ?_
      exact vJ.ireturn dX6_tell_30 rfl rfl rfl ⟨rfl, _, rfl, h⟩
    · replace h := h.2 hc5
      refine vJ.aload_n dX6_tell_18 rfl rfl ?_
      refine vJ.getR (ci := 6) (k := 4) (j := 162) dX6_tell_19 sh_0 (Nat.le_of_ble_eq_true rfl) rfl inX6 (Nat.le_of_ble_eq_true rfl) rfl fl_RX6_41 ?_
      refine vJ.iload_n dX6_tell_22 rfl rfl ?_
      refine vJ.dup2 dX6_tell_23 rfl rfl ?_
      obtain ⟨hb2, h⟩ := h
      refine vJ.iald dX6_tell_24 sh_162 (Nat.le_of_ble_eq_true rfl) hb2 ?_
      refine vJ.iconst dX6_tell_25 ci_1 ?_
      refine vJ.iadd dX6_tell_26 ?_
      obtain ⟨hb3, h⟩ := h
      refine vJ.iast dX6_tell_27 sh_162 (Nat.le_of_ble_eq_true rfl) hb3 ?_
      refine vJ.topm (fun m4 em4 => ?_)
      replace h := h m4 em4
      refine vJ.bipush dX6_tell_28 cb_m3 ?_
      exact vJ.ireturn dX6_tell_30 rfl rfl rfl ⟨rfl, _, rfl, h⟩
def EI_X6_tell (l1 : Int32) (m : vM) (P : Int32 → vM → Prop) : Prop := Ev mX6_tell 0 0 197 [.ref 0, .int l1] 197 SH m (vPi P)
theorem f_X6_tell {l1 : Int32} {m : vM} {P : Int32 → vM → Prop} (h : J_X6_tell_0 l1 m P) : EI_X6_tell l1 m P := Ev.of pn_X6_tell (Nat.le_of_ble_eq_true rfl) h
theorem e_X6_tell {l1 : Int32} {m : vM} {P : Int32 → vM → Prop}  (h : wp_X6_tell l1 m P) : EI_X6_tell l1 m P := f_X6_tell (b_X6_tell  h)
def J_X6_cell_0 (l1 : Int32) (l2 : Int32) (l3 : Int32) (l4 : Int32) (l5 : Int32) (m : vM) (P : Int32 → vM → Prop) : Prop := vJ mX6_cell 5 114 197 none 0 [(0, .ref 0), (1, .int l1), (2, .int l2), (3, .int l3), (4, .int l4), (5, .int l5)] [] 197 SH m (vPi P)
def wp_X6_cell (l1 : Int32) (l2 : Int32) (l3 : Int32) (l4 : Int32) (l5 : Int32) (m : vM) (P : Int32 → vM → Prop) : Prop :=
  wp_X6_isWithin l1 (0 : Int32) (3 : Int32) m (fun r2 m1 =>
    ((r2 = (0 : Int32) →
      P (-1 : Int32) m1) ∧
    (¬ r2 = (0 : Int32) →
      wp_X6_isPlace l2 l3 m1 (fun r4 m3 =>
        ((r4 = (0 : Int32) →
          P (-1 : Int32) m3) ∧
        (¬ r4 = (0 : Int32) →
          ((l4 < (1 : Int32) →
            P (-1 : Int32) m3) ∧
          (¬ l4 < (1 : Int32) →
            (((1 : Int32) ≤ l5 →
              (((m3.1 1 3) < (40 : Int32) →
                ((((m3.1 1 0) - l2) < l4 →
                  wp_X6_tell (2 : Int32) m3 (fun r6 m5 =>
                    P r6 m5)) ∧
                (¬ ((m3.1 1 0) - l2) < l4 →
                  ((l5 ≤ ((m3.1 1 1) - l3) →
                    EI_X1_firstOn l2 l3 l4 l5 m3 (fun r8 m7 =>
                      ((r8 = (-9 : Int32) →
                        wp_X1_add l1 l2 l3 l4 l5 m7 (fun r10 m9 =>
                          P r10 m9)) ∧
                      (¬ r8 = (-9 : Int32) →
                        ∀ m11 : vM, m11 = upI m7 0 6 r8 →
                        wp_X6_tell (6 : Int32) m11 (fun r13 m12 =>
                          P r13 m12))))) ∧
                  (¬ l5 ≤ ((m3.1 1 1) - l3) →
                    wp_X6_tell (2 : Int32) m3 (fun r16 m15 =>
                      P r16 m15)))))) ∧
              (¬ (m3.1 1 3) < (40 : Int32) →
                P (-2 : Int32) m3))) ∧
            (¬ (1 : Int32) ≤ l5 →
              P (-1 : Int32) m3))))))))))
set_option maxRecDepth 20000 in
set_option maxHeartbeats 4000000 in
theorem b_X6_cell {l1 : Int32} {l2 : Int32} {l3 : Int32} {l4 : Int32} {l5 : Int32} {m : vM} {P : Int32 → vM → Prop}  (h : wp_X6_cell l1 l2 l3 l4 l5 m P) : J_X6_cell_0 l1 l2 l3 l4 l5 m P := by
  show vJ mX6_cell 5 114 197 none 0 [(0, .ref 0), (1, .int l1), (2, .int l2), (3, .int l3), (4, .int l4), (5, .int l5)] [] 197 SH m (vPi P)
  unfold wp_X6_cell at h
  refine vJ.iload_n dX6_cell_0 rfl rfl ?_
  refine vJ.iconst dX6_cell_1 ci_0 ?_
  refine vJ.iconst dX6_cell_2 ci_3 ?_
  refine vJ.callS (Yc := mX6_isWithin) (frc := 0) (loc := 0) (as := [.int l1, .int (0 : Int32), .int (3 : Int32)]) dX6_cell_3 rfl ml_RX6_55 st_yX6_isWithin co_X6_isWithin in_TableSetter pl_X6_isWithin (Nat.le_of_ble_eq_true rfl) (Nat.le_of_ble_eq_true rfl) (Nat.le_of_ble_eq_true rfl) ?_
  refine Ev.gi (e_X6_isWithin  h) (fun r2 m1 h => ?_)
  refine vJ.if_eq (tgt := 30) dX6_cell_6 (by decide) (fun hc23 => ?_) (fun hc23 => ?_)
  · replace h := h.1 hc23
    refine vJ.iconst dX6_cell_30 ci_m1 ?_
    exact vJ.ireturn dX6_cell_31 rfl rfl rfl ⟨rfl, _, rfl, h⟩
  · replace h := h.2 hc23
    refine vJ.aload_n dX6_cell_9 rfl rfl ?_
    refine vJ.iload_n dX6_cell_10 rfl rfl ?_
    refine vJ.iload_n dX6_cell_11 rfl rfl ?_
    refine vJ.callV (ci := 6) (Yc := mX6_isPlace) (frc := 1) (loc := 22) (as := [.int l2, .int l3]) dX6_cell_12 rfl sh_0 (Nat.le_of_ble_eq_true rfl) rfl ml_RX6_76 im_yX6_isPlace se_yX6_isPlace co_X6_isPlace in_TableSetter pl_X6_isPlace (Nat.le_of_ble_eq_true rfl) (Nat.le_of_ble_eq_true rfl) (Nat.le_of_ble_eq_true rfl) ?_
    refine Ev.gi (e_X6_isPlace  h) (fun r4 m3 h => ?_)
    refine vJ.if_eq (tgt := 30) dX6_cell_15 (by decide) (fun hc22 => ?_) (fun hc22 => ?_)
    · replace h := h.1 hc22
      refine vJ.iconst dX6_cell_30 ci_m1 ?_
      exact vJ.ireturn dX6_cell_31 rfl rfl rfl ⟨rfl, _, rfl, h⟩
    · replace h := h.2 hc22
      refine vJ.iload dX6_cell_18 rfl ?_
      refine vJ.iconst dX6_cell_20 ci_1 ?_
      refine vJ.icmp_lt (tgt := 30) dX6_cell_21 (by decide) (fun hc21 => ?_) (fun hc21 => ?_)
      · replace h := h.1 hc21
        refine vJ.iconst dX6_cell_30 ci_m1 ?_
        exact vJ.ireturn dX6_cell_31 rfl rfl rfl ⟨rfl, _, rfl, h⟩
      · replace h := h.2 hc21
        refine vJ.iload dX6_cell_24 rfl ?_
        refine vJ.iconst dX6_cell_26 ci_1 ?_
        refine vJ.icmp_ge (tgt := 32) dX6_cell_27 (by decide) (fun hc20 => ?_) (fun hc20 => ?_)
        · replace h := h.1 hc20
          refine vJ.aload_n dX6_cell_32 rfl rfl ?_
          refine vJ.getR (ci := 6) (k := 0) (j := 1) dX6_cell_33 sh_0 (Nat.le_of_ble_eq_true rfl) rfl inX6 (Nat.le_of_ble_eq_true rfl) rfl fl_RX6_10 ?_
          refine vJ.getI (ci := 1) (k := 3) dX6_cell_36 sh_1 (Nat.le_of_ble_eq_true rfl) rfl inX1 (Nat.le_of_ble_eq_true rfl) rfl fl_RX6_80 ?_
          refine vJ.bipush dX6_cell_39 cb_40 ?_
          refine vJ.icmp_lt (tgt := 47) dX6_cell_41 (by decide) (fun hc19 => ?_) (fun hc19 => ?_)
          · replace h := h.1 hc19
            refine vJ.iload dX6_cell_47 rfl ?_
            refine vJ.aload_n dX6_cell_49 rfl rfl ?_
            refine vJ.getR (ci := 6) (k := 0) (j := 1) dX6_cell_50 sh_0 (Nat.le_of_ble_eq_true rfl) rfl inX6 (Nat.le_of_ble_eq_true rfl) rfl fl_RX6_10 ?_
            refine vJ.getI (ci := 1) (k := 0) dX6_cell_53 sh_1 (Nat.le_of_ble_eq_true rfl) rfl inX1 (Nat.le_of_ble_eq_true rfl) rfl fl_RX6_83 ?_
            refine vJ.iload_n dX6_cell_56 rfl rfl ?_
            refine vJ.isub dX6_cell_57 ?_
            refine vJ.icmp_gt (tgt := 75) dX6_cell_58 (by decide) (fun hc18 => ?_) (fun hc18 => ?_)
            · replace h := h.1 hc18
              refine vJ.aload_n dX6_cell_75 rfl rfl ?_
              refine vJ.iconst dX6_cell_76 ci_2 ?_
              refine vJ.callV (ci := 6) (Yc := mX6_tell) (frc := 0) (loc := 0) (as := [.int (2 : Int32)]) dX6_cell_77 rfl sh_0 (Nat.le_of_ble_eq_true rfl) rfl ml_RX6_86 im_yX6_tell se_yX6_tell co_X6_tell in_TableSetter pl_X6_tell (Nat.le_of_ble_eq_true rfl) (Nat.le_of_ble_eq_true rfl) (Nat.le_of_ble_eq_true rfl) ?_
              refine Ev.gi (e_X6_tell  h) (fun r6 m5 h => ?_)
              exact vJ.ireturn dX6_cell_80 rfl rfl rfl ⟨rfl, _, rfl, h⟩
            · replace h := h.2 hc18
              refine vJ.iload dX6_cell_61 rfl ?_
              refine vJ.aload_n dX6_cell_63 rfl rfl ?_
              refine vJ.getR (ci := 6) (k := 0) (j := 1) dX6_cell_64 sh_0 (Nat.le_of_ble_eq_true rfl) rfl inX6 (Nat.le_of_ble_eq_true rfl) rfl fl_RX6_10 ?_
              refine vJ.getI (ci := 1) (k := 1) dX6_cell_67 sh_1 (Nat.le_of_ble_eq_true rfl) rfl inX1 (Nat.le_of_ble_eq_true rfl) rfl fl_RX6_67 ?_
              refine vJ.iload_n dX6_cell_70 rfl rfl ?_
              refine vJ.isub dX6_cell_71 ?_
              refine vJ.icmp_le (tgt := 81) dX6_cell_72 (by decide) (fun hc17 => ?_) (fun hc17 => ?_)
              · replace h := h.1 hc17
                refine vJ.aload_n dX6_cell_81 rfl rfl ?_
                refine vJ.getR (ci := 6) (k := 0) (j := 1) dX6_cell_82 sh_0 (Nat.le_of_ble_eq_true rfl) rfl inX6 (Nat.le_of_ble_eq_true rfl) rfl fl_RX6_10 ?_
                refine vJ.iload_n dX6_cell_85 rfl rfl ?_
                refine vJ.iload_n dX6_cell_86 rfl rfl ?_
                refine vJ.iload dX6_cell_87 rfl ?_
                refine vJ.iload dX6_cell_89 rfl ?_
                refine vJ.callV (ci := 1) (Yc := mX1_firstOn) (frc := 2) (loc := 43) (as := [.int l2, .int l3, .int l4, .int l5]) dX6_cell_91 rfl sh_1 (Nat.le_of_ble_eq_true rfl) rfl ml_RX6_90 im_yX1_firstOn se_yX1_firstOn co_X1_firstOn in_TableSetter_Grid pl_X1_firstOn (Nat.le_of_ble_eq_true rfl) (Nat.le_of_ble_eq_true rfl) (Nat.le_of_ble_eq_true rfl) ?_
                refine Ev.gi h (fun r8 m7 h => ?_)
                refine vJ.istore (ls2 := [(0, .ref 0), (1, .int l1), (2, .int l2), (3, .int l3), (4, .int l4), (5, .int l5), (6, .int r8)]) dX6_cell_94 (Nat.le_of_ble_eq_true rfl) rfl ?_
                refine vJ.iload dX6_cell_96 rfl ?_
                refine vJ.bipush dX6_cell_98 cb_m9 ?_
                refine vJ.icmp_eq (tgt := 116) dX6_cell_100 (by decide) (fun hc14 => ?_) (fun hc14 => ?_)
                · replace h := h.1 hc14
                  refine vJ.aload_n dX6_cell_116 rfl rfl ?_
                  refine vJ.getR (ci := 6) (k := 0) (j := 1) dX6_cell_117 sh_0 (Nat.le_of_ble_eq_true rfl) rfl inX6 (Nat.le_of_ble_eq_true rfl) rfl fl_RX6_10 ?_
                  refine vJ.iload_n dX6_cell_120 rfl rfl ?_
                  refine vJ.iload_n dX6_cell_121 rfl rfl ?_
                  refine vJ.iload_n dX6_cell_122 rfl rfl ?_
                  refine vJ.iload dX6_cell_123 rfl ?_
                  refine vJ.iload dX6_cell_125 rfl ?_
                  refine vJ.callV (ci := 1) (Yc := mX1_add) (frc := 4) (loc := 89) (as := [.int l1, .int l2, .int l3, .int l4, .int l5]) dX6_cell_127 rfl sh_1 (Nat.le_of_ble_eq_true rfl) rfl ml_RX6_94 im_yX1_add se_yX1_add co_X1_add in_TableSetter_Grid pl_X1_add (Nat.le_of_ble_eq_true rfl) (Nat.le_of_ble_eq_true rfl) (Nat.le_of_ble_eq_true rfl) ?_
                  refine Ev.gi (e_X1_add  h) (fun r10 m9 h => ?_)
                  exact vJ.ireturn dX6_cell_130 rfl rfl rfl ⟨rfl, _, rfl, h⟩
                · replace h := h.2 hc14
                  refine vJ.aload_n dX6_cell_103 rfl rfl ?_
                  refine vJ.iload dX6_cell_104 rfl ?_
                  refine vJ.putI (ci := 6) (k := 6) dX6_cell_106 sh_0 (Nat.le_of_ble_eq_true rfl) rfl inX6 tyX6 tyX6_ok nmX6 (Nat.le_of_ble_eq_true rfl) rfl rfl fl_RX6_49 rfl rfl ?_
                  refine vJ.topm (fun m11 em11 => ?_)
                  replace h := h m11 em11
                  refine vJ.aload_n dX6_cell_109 rfl rfl ?_
                  refine vJ.bipush dX6_cell_110 cb_6 ?_
                  refine vJ.callV (ci := 6) (Yc := mX6_tell) (frc := 0) (loc := 0) (as := [.int (6 : Int32)]) dX6_cell_112 rfl sh_0 (Nat.le_of_ble_eq_true rfl) rfl ml_RX6_86 im_yX6_tell se_yX6_tell co_X6_tell in_TableSetter pl_X6_tell (Nat.le_of_ble_eq_true rfl) (Nat.le_of_ble_eq_true rfl) (Nat.le_of_ble_eq_true rfl) ?_
                  refine Ev.gi (e_X6_tell  h) (fun r13 m12 h => ?_)
                  exact vJ.ireturn dX6_cell_115 rfl rfl rfl ⟨rfl, _, rfl, h⟩
              · replace h := h.2 hc17
                refine vJ.aload_n dX6_cell_75 rfl rfl ?_
                refine vJ.iconst dX6_cell_76 ci_2 ?_
                refine vJ.callV (ci := 6) (Yc := mX6_tell) (frc := 0) (loc := 0) (as := [.int (2 : Int32)]) dX6_cell_77 rfl sh_0 (Nat.le_of_ble_eq_true rfl) rfl ml_RX6_86 im_yX6_tell se_yX6_tell co_X6_tell in_TableSetter pl_X6_tell (Nat.le_of_ble_eq_true rfl) (Nat.le_of_ble_eq_true rfl) (Nat.le_of_ble_eq_true rfl) ?_
                refine Ev.gi (e_X6_tell  h) (fun r16 m15 h => ?_)
                exact vJ.ireturn dX6_cell_80 rfl rfl rfl ⟨rfl, _, rfl, h⟩
          · replace h := h.2 hc19
            refine vJ.bipush dX6_cell_44 cb_m2 ?_
            exact vJ.ireturn dX6_cell_46 rfl rfl rfl ⟨rfl, _, rfl, h⟩
        · replace h := h.2 hc20
          refine vJ.iconst dX6_cell_30 ci_m1 ?_
          exact vJ.ireturn dX6_cell_31 rfl rfl rfl ⟨rfl, _, rfl, h⟩
def EI_X6_cell (l1 : Int32) (l2 : Int32) (l3 : Int32) (l4 : Int32) (l5 : Int32) (m : vM) (P : Int32 → vM → Prop) : Prop := Ev mX6_cell 5 114 197 [.ref 0, .int l1, .int l2, .int l3, .int l4, .int l5] 197 SH m (vPi P)
theorem f_X6_cell {l1 : Int32} {l2 : Int32} {l3 : Int32} {l4 : Int32} {l5 : Int32} {m : vM} {P : Int32 → vM → Prop} (h : J_X6_cell_0 l1 l2 l3 l4 l5 m P) : EI_X6_cell l1 l2 l3 l4 l5 m P := Ev.of pn_X6_cell (Nat.le_of_ble_eq_true rfl) h
theorem e_X6_cell {l1 : Int32} {l2 : Int32} {l3 : Int32} {l4 : Int32} {l5 : Int32} {m : vM} {P : Int32 → vM → Prop}  (h : wp_X6_cell l1 l2 l3 l4 l5 m P) : EI_X6_cell l1 l2 l3 l4 l5 m P := f_X6_cell (b_X6_cell  h)
def J_X6_clash_0  (m : vM) (P : Int32 → vM → Prop) : Prop := vJ mX6_clash 0 0 197 none 0 [(0, .ref 0)] [] 197 SH m (vPi P)
def wp_X6_clash  (m : vM) (P : Int32 → vM → Prop) : Prop :=
  P (m.1 0 6) m
set_option maxRecDepth 20000 in
set_option maxHeartbeats 4000000 in
theorem b_X6_clash  {m : vM} {P : Int32 → vM → Prop}  (h : wp_X6_clash  m P) : J_X6_clash_0  m P := by
  show vJ mX6_clash 0 0 197 none 0 [(0, .ref 0)] [] 197 SH m (vPi P)
  unfold wp_X6_clash at h
  refine vJ.aload_n dX6_clash_0 rfl rfl ?_
  refine vJ.getI (ci := 6) (k := 6) dX6_clash_1 sh_0 (Nat.le_of_ble_eq_true rfl) rfl inX6 (Nat.le_of_ble_eq_true rfl) rfl fl_RX6_49 ?_
  exact vJ.ireturn dX6_clash_4 rfl rfl rfl ⟨rfl, _, rfl, h⟩
def EI_X6_clash  (m : vM) (P : Int32 → vM → Prop) : Prop := Ev mX6_clash 0 0 197 [.ref 0] 197 SH m (vPi P)
theorem f_X6_clash  {m : vM} {P : Int32 → vM → Prop} (h : J_X6_clash_0  m P) : EI_X6_clash  m P := Ev.of pn_X6_clash (Nat.le_of_ble_eq_true rfl) h
theorem e_X6_clash  {m : vM} {P : Int32 → vM → Prop}  (h : wp_X6_clash  m P) : EI_X6_clash  m P := f_X6_clash (b_X6_clash  h)
def J_X6_drop_0 (l1 : Int32) (m : vM) (P : Int32 → vM → Prop) : Prop := vJ mX6_drop 1 21 197 none 0 [(0, .ref 0), (1, .int l1)] [] 197 SH m (vPi P)
def wp_X6_drop (l1 : Int32) (m : vM) (P : Int32 → vM → Prop) : Prop :=
  wp_X1_numbered l1 m (fun o8 m1 =>
    ((o8 = none →
      P (-1 : Int32) m1) ∧
    (∀ i2 : Nat, i2 < 40 → o8 = some i2 →
      (((m1.1 (cA i2) 8) = (0 : Int32) →
        ∀ m4 : vM, m4 = upI m1 (cA i2) 8 (1 : Int32) →
        P (1 : Int32) m4) ∧
      (¬ (m1.1 (cA i2) 8) = (0 : Int32) →
        wp_X6_tell (1 : Int32) m1 (fun r6 m5 =>
          P r6 m5))))))
set_option maxRecDepth 20000 in
set_option maxHeartbeats 4000000 in
theorem b_X6_drop {l1 : Int32} {m : vM} {P : Int32 → vM → Prop}  (h : wp_X6_drop l1 m P) : J_X6_drop_0 l1 m P := by
  show vJ mX6_drop 1 21 197 none 0 [(0, .ref 0), (1, .int l1)] [] 197 SH m (vPi P)
  unfold wp_X6_drop at h
  refine vJ.aload_n dX6_drop_0 rfl rfl ?_
  refine vJ.getR (ci := 6) (k := 0) (j := 1) dX6_drop_1 sh_0 (Nat.le_of_ble_eq_true rfl) rfl inX6 (Nat.le_of_ble_eq_true rfl) rfl fl_RX6_10 ?_
  refine vJ.iload_n dX6_drop_4 rfl rfl ?_
  refine vJ.callV (ci := 1) (Yc := mX1_numbered) (frc := 0) (loc := 0) (as := [.int l1]) dX6_drop_5 rfl sh_1 (Nat.le_of_ble_eq_true rfl) rfl ml_RX6_98 im_yX1_numbered se_yX1_numbered co_X1_numbered in_TableSetter_Grid pl_X1_numbered (Nat.le_of_ble_eq_true rfl) (Nat.le_of_ble_eq_true rfl) (Nat.le_of_ble_eq_true rfl) ?_
  refine Ev.gc (e_X1_numbered  h) (fun m1 h => ?_) (fun i2 m1 hi3 h => ?_)
  · replace h := h.1 rfl
    refine vJ.astore_nN (ls2 := [(0, .ref 0), (1, .int l1), (2, .null)]) dX6_drop_8 rfl (Nat.le_of_ble_eq_true rfl) rfl ?_
    refine vJ.aload_nN dX6_drop_9 rfl rfl ?_
    refine vJ.ifnonnullN dX6_drop_10 ?_
    refine vJ.iconst dX6_drop_13 ci_m1 ?_
    exact vJ.ireturn dX6_drop_14 rfl rfl rfl ⟨rfl, _, rfl, h⟩
  · replace h := h.2 i2 hi3 rfl
    refine vJ.astore_n (ls2 := [(0, .ref 0), (1, .int l1), (2, .ref (cA i2))]) dX6_drop_8 rfl (Nat.le_of_ble_eq_true rfl) rfl ?_
    refine vJ.aload_n dX6_drop_9 rfl rfl ?_
    refine vJ.ifnonnull (tgt := 15) dX6_drop_10 (by decide) ?_
    refine vJ.aload_n dX6_drop_15 rfl rfl ?_
    refine vJ.getI (ci := 0) (k := 8) dX6_drop_16 (sh_C hi3) (lt_C hi3) rfl inX0 (Nat.le_of_ble_eq_true rfl) rfl fl_RX6_102 ?_
    refine vJ.if_eq (tgt := 28) dX6_drop_19 (by decide) (fun hc7 => ?_) (fun hc7 => ?_)
    · replace h := h.1 hc7
      refine vJ.aload_n dX6_drop_28 rfl rfl ?_
      refine vJ.iconst dX6_drop_29 ci_1 ?_
      refine vJ.putI (ci := 0) (k := 8) dX6_drop_30 (sh_C hi3) (lt_C hi3) rfl inX0 tyX0 tyX0_ok nmX0 (Nat.le_of_ble_eq_true rfl) rfl rfl fl_RX6_102 (by decide) (by decide) ?_
      refine vJ.topm (fun m4 em4 => ?_)
      replace h := h m4 em4
      refine vJ.iconst dX6_drop_33 ci_1 ?_
      exact vJ.ireturn dX6_drop_34 rfl rfl rfl ⟨rfl, _, rfl, h⟩
    · replace h := h.2 hc7
      refine vJ.aload_n dX6_drop_22 rfl rfl ?_
      refine vJ.iconst dX6_drop_23 ci_1 ?_
      refine vJ.callV (ci := 6) (Yc := mX6_tell) (frc := 0) (loc := 0) (as := [.int (1 : Int32)]) dX6_drop_24 rfl sh_0 (Nat.le_of_ble_eq_true rfl) rfl ml_RX6_86 im_yX6_tell se_yX6_tell co_X6_tell in_TableSetter pl_X6_tell (Nat.le_of_ble_eq_true rfl) (Nat.le_of_ble_eq_true rfl) (Nat.le_of_ble_eq_true rfl) ?_
      refine Ev.gi (e_X6_tell  h) (fun r6 m5 h => ?_)
      exact vJ.ireturn dX6_drop_27 rfl rfl rfl ⟨rfl, _, rfl, h⟩
def EI_X6_drop (l1 : Int32) (m : vM) (P : Int32 → vM → Prop) : Prop := Ev mX6_drop 1 21 197 [.ref 0, .int l1] 197 SH m (vPi P)
theorem f_X6_drop {l1 : Int32} {m : vM} {P : Int32 → vM → Prop} (h : J_X6_drop_0 l1 m P) : EI_X6_drop l1 m P := Ev.of pn_X6_drop (Nat.le_of_ble_eq_true rfl) h
theorem e_X6_drop {l1 : Int32} {m : vM} {P : Int32 → vM → Prop}  (h : wp_X6_drop l1 m P) : EI_X6_drop l1 m P := f_X6_drop (b_X6_drop  h)
def J_X6_told_0 (l1 : Int32) (l2 : Int32) (m : vM) (P : Int32 → vM → Prop) : Prop := vJ mX6_told 1 22 197 none 0 [(0, .ref 0), (1, .int l1), (2, .int l2)] [] 197 SH m (vPi P)
def wp_X6_told (l1 : Int32) (l2 : Int32) (m : vM) (P : Int32 → vM → Prop) : Prop :=
  wp_X1_numbered l1 m (fun o12 m1 =>
    ((o12 = none →
      P (-1 : Int32) m1) ∧
    (∀ i2 : Nat, i2 < 40 → o12 = some i2 →
      wp_X6_isWithin l2 (0 : Int32) (6 : Int32) m1 (fun r5 m4 =>
        ((r5 = (0 : Int32) →
          P (-1 : Int32) m4) ∧
        (¬ r5 = (0 : Int32) →
          (((m4.1 (cA i2) 8) = (0 : Int32) →
            wp_X0_fact i2 l2 m4 (fun r7 m6 =>
              P r7 m6)) ∧
          (¬ (m4.1 (cA i2) 8) = (0 : Int32) →
            wp_X6_tell (1 : Int32) m4 (fun r9 m8 =>
              P r9 m8)))))))))
set_option maxRecDepth 20000 in
set_option maxHeartbeats 4000000 in
theorem b_X6_told {l1 : Int32} {l2 : Int32} {m : vM} {P : Int32 → vM → Prop}  (h : wp_X6_told l1 l2 m P) : J_X6_told_0 l1 l2 m P := by
  show vJ mX6_told 1 22 197 none 0 [(0, .ref 0), (1, .int l1), (2, .int l2)] [] 197 SH m (vPi P)
  unfold wp_X6_told at h
  refine vJ.aload_n dX6_told_0 rfl rfl ?_
  refine vJ.getR (ci := 6) (k := 0) (j := 1) dX6_told_1 sh_0 (Nat.le_of_ble_eq_true rfl) rfl inX6 (Nat.le_of_ble_eq_true rfl) rfl fl_RX6_10 ?_
  refine vJ.iload_n dX6_told_4 rfl rfl ?_
  refine vJ.callV (ci := 1) (Yc := mX1_numbered) (frc := 0) (loc := 0) (as := [.int l1]) dX6_told_5 rfl sh_1 (Nat.le_of_ble_eq_true rfl) rfl ml_RX6_98 im_yX1_numbered se_yX1_numbered co_X1_numbered in_TableSetter_Grid pl_X1_numbered (Nat.le_of_ble_eq_true rfl) (Nat.le_of_ble_eq_true rfl) (Nat.le_of_ble_eq_true rfl) ?_
  refine Ev.gc (e_X1_numbered  h) (fun m1 h => ?_) (fun i2 m1 hi3 h => ?_)
  · replace h := h.1 rfl
    refine vJ.astore_nN (ls2 := [(0, .ref 0), (1, .int l1), (2, .int l2), (3, .null)]) dX6_told_8 rfl (Nat.le_of_ble_eq_true rfl) rfl ?_
    refine vJ.aload_nN dX6_told_9 rfl rfl ?_
    refine vJ.ifnullN (tgt := 23) dX6_told_10 (by decide) ?_
    refine vJ.iconst dX6_told_23 ci_m1 ?_
    exact vJ.ireturn dX6_told_24 rfl rfl rfl ⟨rfl, _, rfl, h⟩
  · replace h := h.2 i2 hi3 rfl
    refine vJ.astore_n (ls2 := [(0, .ref 0), (1, .int l1), (2, .int l2), (3, .ref (cA i2))]) dX6_told_8 rfl (Nat.le_of_ble_eq_true rfl) rfl ?_
    refine vJ.aload_n dX6_told_9 rfl rfl ?_
    refine vJ.ifnull dX6_told_10 ?_
    refine vJ.iload_n dX6_told_13 rfl rfl ?_
    refine vJ.iconst dX6_told_14 ci_0 ?_
    refine vJ.bipush dX6_told_15 cb_6 ?_
    refine vJ.callS (Yc := mX6_isWithin) (frc := 0) (loc := 0) (as := [.int l2, .int (0 : Int32), .int (6 : Int32)]) dX6_told_17 rfl ml_RX6_55 st_yX6_isWithin co_X6_isWithin in_TableSetter pl_X6_isWithin (Nat.le_of_ble_eq_true rfl) (Nat.le_of_ble_eq_true rfl) (Nat.le_of_ble_eq_true rfl) ?_
    refine Ev.gi (e_X6_isWithin  h) (fun r5 m4 h => ?_)
    refine vJ.if_ne (tgt := 25) dX6_told_20 (by decide) (fun hc11 => ?_) (fun hc11 => ?_)
    · replace h := h.2 hc11
      refine vJ.aload_n dX6_told_25 rfl rfl ?_
      refine vJ.getI (ci := 0) (k := 8) dX6_told_26 (sh_C hi3) (lt_C hi3) rfl inX0 (Nat.le_of_ble_eq_true rfl) rfl fl_RX6_102 ?_
      refine vJ.if_eq (tgt := 38) dX6_told_29 (by decide) (fun hc10 => ?_) (fun hc10 => ?_)
      · replace h := h.1 hc10
        refine vJ.aload_n dX6_told_38 rfl rfl ?_
        refine vJ.iload_n dX6_told_39 rfl rfl ?_
        refine vJ.callV (ci := 0) (Yc := mX0_fact) (frc := 0) (loc := 0) (as := [.int l2]) dX6_told_40 rfl (sh_C hi3) (lt_C hi3) rfl ml_RX6_108 im_yX0_fact se_yX0_fact co_X0_fact in_TableSetter_Cell pl_X0_fact (Nat.le_of_ble_eq_true rfl) (Nat.le_of_ble_eq_true rfl) (Nat.le_of_ble_eq_true rfl) ?_
        refine Ev.gi (e_X0_fact hi3 h) (fun r7 m6 h => ?_)
        exact vJ.ireturn dX6_told_43 rfl rfl rfl ⟨rfl, _, rfl, h⟩
      · replace h := h.2 hc10
        refine vJ.aload_n dX6_told_32 rfl rfl ?_
        refine vJ.iconst dX6_told_33 ci_1 ?_
        refine vJ.callV (ci := 6) (Yc := mX6_tell) (frc := 0) (loc := 0) (as := [.int (1 : Int32)]) dX6_told_34 rfl sh_0 (Nat.le_of_ble_eq_true rfl) rfl ml_RX6_86 im_yX6_tell se_yX6_tell co_X6_tell in_TableSetter pl_X6_tell (Nat.le_of_ble_eq_true rfl) (Nat.le_of_ble_eq_true rfl) (Nat.le_of_ble_eq_true rfl) ?_
        refine Ev.gi (e_X6_tell  h) (fun r9 m8 h => ?_)
        exact vJ.ireturn dX6_told_37 rfl rfl rfl ⟨rfl, _, rfl, h⟩
    · replace h := h.1 hc11
      refine vJ.iconst dX6_told_23 ci_m1 ?_
      exact vJ.ireturn dX6_told_24 rfl rfl rfl ⟨rfl, _, rfl, h⟩
def EI_X6_told (l1 : Int32) (l2 : Int32) (m : vM) (P : Int32 → vM → Prop) : Prop := Ev mX6_told 1 22 197 [.ref 0, .int l1, .int l2] 197 SH m (vPi P)
theorem f_X6_told {l1 : Int32} {l2 : Int32} {m : vM} {P : Int32 → vM → Prop} (h : J_X6_told_0 l1 l2 m P) : EI_X6_told l1 l2 m P := Ev.of pn_X6_told (Nat.le_of_ble_eq_true rfl) h
theorem e_X6_told {l1 : Int32} {l2 : Int32} {m : vM} {P : Int32 → vM → Prop}  (h : wp_X6_told l1 l2 m P) : EI_X6_told l1 l2 m P := f_X6_told (b_X6_told  h)
def J_X6_is_0 (l1 : Int32) (l2 : Int32) (m : vM) (P : Int32 → vM → Prop) : Prop := vJ mX6_is 1 22 197 none 0 [(0, .ref 0), (1, .int l1), (2, .int l2)] [] 197 SH m (vPi P)
def wp_X6_is (l1 : Int32) (l2 : Int32) (m : vM) (P : Int32 → vM → Prop) : Prop :=
  wp_X1_numbered l1 m (fun o12 m1 =>
    ((o12 = none →
      P (-1 : Int32) m1) ∧
    (∀ i2 : Nat, i2 < 40 → o12 = some i2 →
      wp_X6_isWithin l2 (0 : Int32) (3 : Int32) m1 (fun r5 m4 =>
        ((r5 = (0 : Int32) →
          P (-1 : Int32) m4) ∧
        (¬ r5 = (0 : Int32) →
          (((m4.1 (cA i2) 8) = (0 : Int32) →
            ((l2 = (0 : Int32) →
              P (1 : Int32) m4) ∧
            (¬ l2 = (0 : Int32) →
              (((m4.1 (cA i2) 0) = l2 →
                P (1 : Int32) m4) ∧
              (¬ (m4.1 (cA i2) 0) = l2 →
                P (0 : Int32) m4))))) ∧
          (¬ (m4.1 (cA i2) 8) = (0 : Int32) →
            wp_X6_tell (1 : Int32) m4 (fun r9 m8 =>
              P r9 m8)))))))))
set_option maxRecDepth 20000 in
set_option maxHeartbeats 4000000 in
theorem b_X6_is {l1 : Int32} {l2 : Int32} {m : vM} {P : Int32 → vM → Prop}  (h : wp_X6_is l1 l2 m P) : J_X6_is_0 l1 l2 m P := by
  show vJ mX6_is 1 22 197 none 0 [(0, .ref 0), (1, .int l1), (2, .int l2)] [] 197 SH m (vPi P)
  unfold wp_X6_is at h
  refine vJ.aload_n dX6_is_0 rfl rfl ?_
  refine vJ.getR (ci := 6) (k := 0) (j := 1) dX6_is_1 sh_0 (Nat.le_of_ble_eq_true rfl) rfl inX6 (Nat.le_of_ble_eq_true rfl) rfl fl_RX6_10 ?_
  refine vJ.iload_n dX6_is_4 rfl rfl ?_
  refine vJ.callV (ci := 1) (Yc := mX1_numbered) (frc := 0) (loc := 0) (as := [.int l1]) dX6_is_5 rfl sh_1 (Nat.le_of_ble_eq_true rfl) rfl ml_RX6_98 im_yX1_numbered se_yX1_numbered co_X1_numbered in_TableSetter_Grid pl_X1_numbered (Nat.le_of_ble_eq_true rfl) (Nat.le_of_ble_eq_true rfl) (Nat.le_of_ble_eq_true rfl) ?_
  refine Ev.gc (e_X1_numbered  h) (fun m1 h => ?_) (fun i2 m1 hi3 h => ?_)
  · replace h := h.1 rfl
    refine vJ.astore_nN (ls2 := [(0, .ref 0), (1, .int l1), (2, .int l2), (3, .null)]) dX6_is_8 rfl (Nat.le_of_ble_eq_true rfl) rfl ?_
    refine vJ.aload_nN dX6_is_9 rfl rfl ?_
    refine vJ.ifnullN (tgt := 22) dX6_is_10 (by decide) ?_
    refine vJ.iconst dX6_is_22 ci_m1 ?_
    exact vJ.ireturn dX6_is_23 rfl rfl rfl ⟨rfl, _, rfl, h⟩
  · replace h := h.2 i2 hi3 rfl
    refine vJ.astore_n (ls2 := [(0, .ref 0), (1, .int l1), (2, .int l2), (3, .ref (cA i2))]) dX6_is_8 rfl (Nat.le_of_ble_eq_true rfl) rfl ?_
    refine vJ.aload_n dX6_is_9 rfl rfl ?_
    refine vJ.ifnull dX6_is_10 ?_
    refine vJ.iload_n dX6_is_13 rfl rfl ?_
    refine vJ.iconst dX6_is_14 ci_0 ?_
    refine vJ.iconst dX6_is_15 ci_3 ?_
    refine vJ.callS (Yc := mX6_isWithin) (frc := 0) (loc := 0) (as := [.int l2, .int (0 : Int32), .int (3 : Int32)]) dX6_is_16 rfl ml_RX6_55 st_yX6_isWithin co_X6_isWithin in_TableSetter pl_X6_isWithin (Nat.le_of_ble_eq_true rfl) (Nat.le_of_ble_eq_true rfl) (Nat.le_of_ble_eq_true rfl) ?_
    refine Ev.gi (e_X6_isWithin  h) (fun r5 m4 h => ?_)
    refine vJ.if_ne (tgt := 24) dX6_is_19 (by decide) (fun hc11 => ?_) (fun hc11 => ?_)
    · replace h := h.2 hc11
      refine vJ.aload_n dX6_is_24 rfl rfl ?_
      refine vJ.getI (ci := 0) (k := 8) dX6_is_25 (sh_C hi3) (lt_C hi3) rfl inX0 (Nat.le_of_ble_eq_true rfl) rfl fl_RX6_102 ?_
      refine vJ.if_eq (tgt := 37) dX6_is_28 (by decide) (fun hc10 => ?_) (fun hc10 => ?_)
      · replace h := h.1 hc10
        refine vJ.iload_n dX6_is_37 rfl rfl ?_
        refine vJ.if_eq (tgt := 49) dX6_is_38 (by decide) (fun hc7 => ?_) (fun hc7 => ?_)
        · replace h := h.1 hc7
          refine vJ.iconst dX6_is_49 ci_1 ?_
          refine vJ.goto (tgt := 54) dX6_is_50 (by decide) ?_
          exact vJ.ireturn dX6_is_54 rfl rfl rfl ⟨rfl, _, rfl, h⟩
        · replace h := h.2 hc7
          refine vJ.aload_n dX6_is_41 rfl rfl ?_
          refine vJ.getI (ci := 0) (k := 0) dX6_is_42 (sh_C hi3) (lt_C hi3) rfl inX0 (Nat.le_of_ble_eq_true rfl) rfl fl_RX6_111 ?_
          refine vJ.iload_n dX6_is_45 rfl rfl ?_
          refine vJ.icmp_ne (tgt := 53) dX6_is_46 (by decide) (fun hc6 => ?_) (fun hc6 => ?_)
          · replace h := h.2 hc6
            refine vJ.iconst dX6_is_53 ci_0 ?_
            exact vJ.ireturn dX6_is_54 rfl rfl rfl ⟨rfl, _, rfl, h⟩
          · replace h := h.1 hc6
            refine vJ.iconst dX6_is_49 ci_1 ?_
            refine vJ.goto (tgt := 54) dX6_is_50 (by decide) ?_
            exact vJ.ireturn dX6_is_54 rfl rfl rfl ⟨rfl, _, rfl, h⟩
      · replace h := h.2 hc10
        refine vJ.aload_n dX6_is_31 rfl rfl ?_
        refine vJ.iconst dX6_is_32 ci_1 ?_
        refine vJ.callV (ci := 6) (Yc := mX6_tell) (frc := 0) (loc := 0) (as := [.int (1 : Int32)]) dX6_is_33 rfl sh_0 (Nat.le_of_ble_eq_true rfl) rfl ml_RX6_86 im_yX6_tell se_yX6_tell co_X6_tell in_TableSetter pl_X6_tell (Nat.le_of_ble_eq_true rfl) (Nat.le_of_ble_eq_true rfl) (Nat.le_of_ble_eq_true rfl) ?_
        refine Ev.gi (e_X6_tell  h) (fun r9 m8 h => ?_)
        exact vJ.ireturn dX6_is_36 rfl rfl rfl ⟨rfl, _, rfl, h⟩
    · replace h := h.1 hc11
      refine vJ.iconst dX6_is_22 ci_m1 ?_
      exact vJ.ireturn dX6_is_23 rfl rfl rfl ⟨rfl, _, rfl, h⟩
def EI_X6_is (l1 : Int32) (l2 : Int32) (m : vM) (P : Int32 → vM → Prop) : Prop := Ev mX6_is 1 22 197 [.ref 0, .int l1, .int l2] 197 SH m (vPi P)
theorem f_X6_is {l1 : Int32} {l2 : Int32} {m : vM} {P : Int32 → vM → Prop} (h : J_X6_is_0 l1 l2 m P) : EI_X6_is l1 l2 m P := Ev.of pn_X6_is (Nat.le_of_ble_eq_true rfl) h
theorem e_X6_is {l1 : Int32} {l2 : Int32} {m : vM} {P : Int32 → vM → Prop}  (h : wp_X6_is l1 l2 m P) : EI_X6_is l1 l2 m P := f_X6_is (b_X6_is  h)
def J_X6_on_0 (l1 : Int32) (l2 : Int32) (m : vM) (P : Int32 → vM → Prop) : Prop := vJ mX6_on 3 69 197 none 0 [(0, .ref 0), (1, .int l1), (2, .int l2)] [] 197 SH m (vPi P)
def wp_X6_on (l1 : Int32) (l2 : Int32) (m : vM) (P : Int32 → vM → Prop) : Prop :=
  wp_X6_isPlace l1 l2 m (fun r2 m1 =>
    ((r2 = (0 : Int32) →
      P (-1 : Int32) m1) ∧
    (¬ r2 = (0 : Int32) →
      EI_X1_firstOn l1 l2 (1 : Int32) (1 : Int32) m1 (fun r4 m3 =>
        P r4 m3))))
set_option maxRecDepth 20000 in
set_option maxHeartbeats 4000000 in
theorem b_X6_on {l1 : Int32} {l2 : Int32} {m : vM} {P : Int32 → vM → Prop}  (h : wp_X6_on l1 l2 m P) : J_X6_on_0 l1 l2 m P := by
  show vJ mX6_on 3 69 197 none 0 [(0, .ref 0), (1, .int l1), (2, .int l2)] [] 197 SH m (vPi P)
  unfold wp_X6_on at h
  refine vJ.aload_n dX6_on_0 rfl rfl ?_
  refine vJ.iload_n dX6_on_1 rfl rfl ?_
  refine vJ.iload_n dX6_on_2 rfl rfl ?_
  refine vJ.callV (ci := 6) (Yc := mX6_isPlace) (frc := 1) (loc := 22) (as := [.int l1, .int l2]) dX6_on_3 rfl sh_0 (Nat.le_of_ble_eq_true rfl) rfl ml_RX6_76 im_yX6_isPlace se_yX6_isPlace co_X6_isPlace in_TableSetter pl_X6_isPlace (Nat.le_of_ble_eq_true rfl) (Nat.le_of_ble_eq_true rfl) (Nat.le_of_ble_eq_true rfl) ?_
  refine Ev.gi (e_X6_isPlace  h) (fun r2 m1 h => ?_)
  refine vJ.if_ne (tgt := 11) dX6_on_6 (by decide) (fun hc5 => ?_) (fun hc5 => ?_)
  · replace h := h.2 hc5
    refine vJ.aload_n dX6_on_11 rfl rfl ?_
    refine vJ.getR (ci := 6) (k := 0) (j := 1) dX6_on_12 sh_0 (Nat.le_of_ble_eq_true rfl) rfl inX6 (Nat.le_of_ble_eq_true rfl) rfl fl_RX6_10 ?_
    refine vJ.iload_n dX6_on_15 rfl rfl ?_
    refine vJ.iload_n dX6_on_16 rfl rfl ?_
    refine vJ.iconst dX6_on_17 ci_1 ?_
    refine vJ.iconst dX6_on_18 ci_1 ?_
    refine vJ.callV (ci := 1) (Yc := mX1_firstOn) (frc := 2) (loc := 43) (as := [.int l1, .int l2, .int (1 : Int32), .int (1 : Int32)]) dX6_on_19 rfl sh_1 (Nat.le_of_ble_eq_true rfl) rfl ml_RX6_90 im_yX1_firstOn se_yX1_firstOn co_X1_firstOn in_TableSetter_Grid pl_X1_firstOn (Nat.le_of_ble_eq_true rfl) (Nat.le_of_ble_eq_true rfl) (Nat.le_of_ble_eq_true rfl) ?_
    refine Ev.gi h (fun r4 m3 h => ?_)
    exact vJ.ireturn dX6_on_22 rfl rfl rfl ⟨rfl, _, rfl, h⟩
  · replace h := h.1 hc5
    refine vJ.iconst dX6_on_9 ci_m1 ?_
    exact vJ.ireturn dX6_on_10 rfl rfl rfl ⟨rfl, _, rfl, h⟩
def EI_X6_on (l1 : Int32) (l2 : Int32) (m : vM) (P : Int32 → vM → Prop) : Prop := Ev mX6_on 3 69 197 [.ref 0, .int l1, .int l2] 197 SH m (vPi P)
theorem f_X6_on {l1 : Int32} {l2 : Int32} {m : vM} {P : Int32 → vM → Prop} (h : J_X6_on_0 l1 l2 m P) : EI_X6_on l1 l2 m P := Ev.of pn_X6_on (Nat.le_of_ble_eq_true rfl) h
theorem e_X6_on {l1 : Int32} {l2 : Int32} {m : vM} {P : Int32 → vM → Prop}  (h : wp_X6_on l1 l2 m P) : EI_X6_on l1 l2 m P := f_X6_on (b_X6_on  h)
def J_X6_words_0 (l1 : Int32) (l2 : Int32) (m : vM) (P : Int32 → vM → Prop) : Prop := vJ mX6_words 3 64 197 none 0 [(0, .ref 0), (1, .int l1), (2, .int l2)] [] 197 SH m (vPi P)
def wp_X6_words (l1 : Int32) (l2 : Int32) (m : vM) (P : Int32 → vM → Prop) : Prop :=
  wp_X1_numbered l1 m (fun o12 m1 =>
    ((o12 = none →
      P (-1 : Int32) m1) ∧
    (∀ i2 : Nat, i2 < 40 → o12 = some i2 →
      ((l2 ≤ (12 : Int32) →
        (((m1.1 (cA i2) 8) = (0 : Int32) →
          (((0 : Int32) ≤ l2 →
            wp_X0_fill i2 l2 m1 (fun m4 =>
              P l2 m4)) ∧
          (¬ (0 : Int32) ≤ l2 →
            wp_X6_tell (5 : Int32) m1 (fun r6 m5 =>
              P r6 m5)))) ∧
        (¬ (m1.1 (cA i2) 8) = (0 : Int32) →
          wp_X6_tell (1 : Int32) m1 (fun r9 m8 =>
            P r9 m8)))) ∧
      (¬ l2 ≤ (12 : Int32) →
        P (-1 : Int32) m1)))))
set_option maxRecDepth 20000 in
set_option maxHeartbeats 4000000 in
theorem b_X6_words {l1 : Int32} {l2 : Int32} {m : vM} {P : Int32 → vM → Prop}  (h : wp_X6_words l1 l2 m P) : J_X6_words_0 l1 l2 m P := by
  show vJ mX6_words 3 64 197 none 0 [(0, .ref 0), (1, .int l1), (2, .int l2)] [] 197 SH m (vPi P)
  unfold wp_X6_words at h
  refine vJ.aload_n dX6_words_0 rfl rfl ?_
  refine vJ.getR (ci := 6) (k := 0) (j := 1) dX6_words_1 sh_0 (Nat.le_of_ble_eq_true rfl) rfl inX6 (Nat.le_of_ble_eq_true rfl) rfl fl_RX6_10 ?_
  refine vJ.iload_n dX6_words_4 rfl rfl ?_
  refine vJ.callV (ci := 1) (Yc := mX1_numbered) (frc := 0) (loc := 0) (as := [.int l1]) dX6_words_5 rfl sh_1 (Nat.le_of_ble_eq_true rfl) rfl ml_RX6_98 im_yX1_numbered se_yX1_numbered co_X1_numbered in_TableSetter_Grid pl_X1_numbered (Nat.le_of_ble_eq_true rfl) (Nat.le_of_ble_eq_true rfl) (Nat.le_of_ble_eq_true rfl) ?_
  refine Ev.gc (e_X1_numbered  h) (fun m1 h => ?_) (fun i2 m1 hi3 h => ?_)
  · replace h := h.1 rfl
    refine vJ.astore_nN (ls2 := [(0, .ref 0), (1, .int l1), (2, .int l2), (3, .null)]) dX6_words_8 rfl (Nat.le_of_ble_eq_true rfl) rfl ?_
    refine vJ.aload_nN dX6_words_9 rfl rfl ?_
    refine vJ.ifnullN (tgt := 19) dX6_words_10 (by decide) ?_
    refine vJ.iconst dX6_words_19 ci_m1 ?_
    exact vJ.ireturn dX6_words_20 rfl rfl rfl ⟨rfl, _, rfl, h⟩
  · replace h := h.2 i2 hi3 rfl
    refine vJ.astore_n (ls2 := [(0, .ref 0), (1, .int l1), (2, .int l2), (3, .ref (cA i2))]) dX6_words_8 rfl (Nat.le_of_ble_eq_true rfl) rfl ?_
    refine vJ.aload_n dX6_words_9 rfl rfl ?_
    refine vJ.ifnull dX6_words_10 ?_
    refine vJ.iload_n dX6_words_13 rfl rfl ?_
    refine vJ.bipush dX6_words_14 cb_12 ?_
    refine vJ.icmp_le (tgt := 21) dX6_words_16 (by decide) (fun hc11 => ?_) (fun hc11 => ?_)
    · replace h := h.1 hc11
      refine vJ.aload_n dX6_words_21 rfl rfl ?_
      refine vJ.getI (ci := 0) (k := 8) dX6_words_22 (sh_C hi3) (lt_C hi3) rfl inX0 (Nat.le_of_ble_eq_true rfl) rfl fl_RX6_102 ?_
      refine vJ.if_eq (tgt := 34) dX6_words_25 (by decide) (fun hc10 => ?_) (fun hc10 => ?_)
      · replace h := h.1 hc10
        refine vJ.iload_n dX6_words_34 rfl rfl ?_
        refine vJ.if_ge (tgt := 44) dX6_words_35 (by decide) (fun hc7 => ?_) (fun hc7 => ?_)
        · replace h := h.1 hc7
          refine vJ.aload_n dX6_words_44 rfl rfl ?_
          refine vJ.iload_n dX6_words_45 rfl rfl ?_
          refine vJ.callV (ci := 0) (Yc := mX0_fill) (frc := 2) (loc := 43) (as := [.int l2]) dX6_words_46 rfl (sh_C hi3) (lt_C hi3) rfl ml_RX6_114 im_yX0_fill se_yX0_fill co_X0_fill in_TableSetter_Cell pl_X0_fill (Nat.le_of_ble_eq_true rfl) (Nat.le_of_ble_eq_true rfl) (Nat.le_of_ble_eq_true rfl) ?_
          refine Ev.gv (e_X0_fill hi3 h) (fun m4 h => ?_)
          refine vJ.iload_n dX6_words_49 rfl rfl ?_
          exact vJ.ireturn dX6_words_50 rfl rfl rfl ⟨rfl, _, rfl, h⟩
        · replace h := h.2 hc7
          refine vJ.aload_n dX6_words_38 rfl rfl ?_
          refine vJ.iconst dX6_words_39 ci_5 ?_
          refine vJ.callV (ci := 6) (Yc := mX6_tell) (frc := 0) (loc := 0) (as := [.int (5 : Int32)]) dX6_words_40 rfl sh_0 (Nat.le_of_ble_eq_true rfl) rfl ml_RX6_86 im_yX6_tell se_yX6_tell co_X6_tell in_TableSetter pl_X6_tell (Nat.le_of_ble_eq_true rfl) (Nat.le_of_ble_eq_true rfl) (Nat.le_of_ble_eq_true rfl) ?_
          refine Ev.gi (e_X6_tell  h) (fun r6 m5 h => ?_)
          exact vJ.ireturn dX6_words_43 rfl rfl rfl ⟨rfl, _, rfl, h⟩
      · replace h := h.2 hc10
        refine vJ.aload_n dX6_words_28 rfl rfl ?_
        refine vJ.iconst dX6_words_29 ci_1 ?_
        refine vJ.callV (ci := 6) (Yc := mX6_tell) (frc := 0) (loc := 0) (as := [.int (1 : Int32)]) dX6_words_30 rfl sh_0 (Nat.le_of_ble_eq_true rfl) rfl ml_RX6_86 im_yX6_tell se_yX6_tell co_X6_tell in_TableSetter pl_X6_tell (Nat.le_of_ble_eq_true rfl) (Nat.le_of_ble_eq_true rfl) (Nat.le_of_ble_eq_true rfl) ?_
        refine Ev.gi (e_X6_tell  h) (fun r9 m8 h => ?_)
        exact vJ.ireturn dX6_words_33 rfl rfl rfl ⟨rfl, _, rfl, h⟩
    · replace h := h.2 hc11
      refine vJ.iconst dX6_words_19 ci_m1 ?_
      exact vJ.ireturn dX6_words_20 rfl rfl rfl ⟨rfl, _, rfl, h⟩
def EI_X6_words (l1 : Int32) (l2 : Int32) (m : vM) (P : Int32 → vM → Prop) : Prop := Ev mX6_words 3 64 197 [.ref 0, .int l1, .int l2] 197 SH m (vPi P)
theorem f_X6_words {l1 : Int32} {l2 : Int32} {m : vM} {P : Int32 → vM → Prop} (h : J_X6_words_0 l1 l2 m P) : EI_X6_words l1 l2 m P := Ev.of pn_X6_words (Nat.le_of_ble_eq_true rfl) h
theorem e_X6_words {l1 : Int32} {l2 : Int32} {m : vM} {P : Int32 → vM → Prop}  (h : wp_X6_words l1 l2 m P) : EI_X6_words l1 l2 m P := f_X6_words (b_X6_words  h)
def J_X6_word_0 (l1 : Int32) (l2 : Int32) (l3 : Int32) (m : vM) (P : Int32 → vM → Prop) : Prop := vJ mX6_word 3 66 197 none 0 [(0, .ref 0), (1, .int l1), (2, .int l2), (3, .int l3)] [] 197 SH m (vPi P)
def wp_X6_word (l1 : Int32) (l2 : Int32) (l3 : Int32) (m : vM) (P : Int32 → vM → Prop) : Prop :=
  wp_X1_numbered l1 m (fun o17 m1 =>
    ((o17 = none →
      P (-1 : Int32) m1) ∧
    (∀ i2 : Nat, i2 < 40 → o17 = some i2 →
      wp_X6_isWithin l3 (1 : Int32) (20 : Int32) m1 (fun r5 m4 =>
        ((r5 = (0 : Int32) →
          P (-1 : Int32) m4) ∧
        (¬ r5 = (0 : Int32) →
          (((m4.1 (cA i2) 8) = (0 : Int32) →
            wp_X0_holds i2 l2 (1 : Int32) m4 (fun r7 m6 =>
              ((r7 = (0 : Int32) →
                wp_X6_tell (2 : Int32) m6 (fun r11 m10 =>
                  P r11 m10)) ∧
              (¬ r7 = (0 : Int32) →
                wp_X0_exchange i2 l2 l3 m6 (fun r9 m8 =>
                  P r9 m8))))) ∧
          (¬ (m4.1 (cA i2) 8) = (0 : Int32) →
            wp_X6_tell (1 : Int32) m4 (fun r14 m13 =>
              P r14 m13)))))))))
set_option maxRecDepth 20000 in
set_option maxHeartbeats 4000000 in
theorem b_X6_word {l1 : Int32} {l2 : Int32} {l3 : Int32} {m : vM} {P : Int32 → vM → Prop}  (h : wp_X6_word l1 l2 l3 m P) : J_X6_word_0 l1 l2 l3 m P := by
  show vJ mX6_word 3 66 197 none 0 [(0, .ref 0), (1, .int l1), (2, .int l2), (3, .int l3)] [] 197 SH m (vPi P)
  unfold wp_X6_word at h
  refine vJ.aload_n dX6_word_0 rfl rfl ?_
  refine vJ.getR (ci := 6) (k := 0) (j := 1) dX6_word_1 sh_0 (Nat.le_of_ble_eq_true rfl) rfl inX6 (Nat.le_of_ble_eq_true rfl) rfl fl_RX6_10 ?_
  refine vJ.iload_n dX6_word_4 rfl rfl ?_
  refine vJ.callV (ci := 1) (Yc := mX1_numbered) (frc := 0) (loc := 0) (as := [.int l1]) dX6_word_5 rfl sh_1 (Nat.le_of_ble_eq_true rfl) rfl ml_RX6_98 im_yX1_numbered se_yX1_numbered co_X1_numbered in_TableSetter_Grid pl_X1_numbered (Nat.le_of_ble_eq_true rfl) (Nat.le_of_ble_eq_true rfl) (Nat.le_of_ble_eq_true rfl) ?_
  refine Ev.gc (e_X1_numbered  h) (fun m1 h => ?_) (fun i2 m1 hi3 h => ?_)
  · replace h := h.1 rfl
    refine vJ.astoreN (ls2 := [(0, .ref 0), (1, .int l1), (2, .int l2), (3, .int l3), (4, .null)]) dX6_word_8 (Nat.le_of_ble_eq_true rfl) rfl ?_
    refine vJ.aloadN dX6_word_10 rfl ?_
    refine vJ.ifnullN (tgt := 25) dX6_word_12 (by decide) ?_
    refine vJ.iconst dX6_word_25 ci_m1 ?_
    exact vJ.ireturn dX6_word_26 rfl rfl rfl ⟨rfl, _, rfl, h⟩
  · replace h := h.2 i2 hi3 rfl
    refine vJ.astore (ls2 := [(0, .ref 0), (1, .int l1), (2, .int l2), (3, .int l3), (4, .ref (cA i2))]) dX6_word_8 (Nat.le_of_ble_eq_true rfl) rfl ?_
    refine vJ.aload dX6_word_10 rfl ?_
    refine vJ.ifnull dX6_word_12 ?_
    refine vJ.iload_n dX6_word_15 rfl rfl ?_
    refine vJ.iconst dX6_word_16 ci_1 ?_
    refine vJ.bipush dX6_word_17 cb_20 ?_
    refine vJ.callS (Yc := mX6_isWithin) (frc := 0) (loc := 0) (as := [.int l3, .int (1 : Int32), .int (20 : Int32)]) dX6_word_19 rfl ml_RX6_55 st_yX6_isWithin co_X6_isWithin in_TableSetter pl_X6_isWithin (Nat.le_of_ble_eq_true rfl) (Nat.le_of_ble_eq_true rfl) (Nat.le_of_ble_eq_true rfl) ?_
    refine Ev.gi (e_X6_isWithin  h) (fun r5 m4 h => ?_)
    refine vJ.if_ne (tgt := 27) dX6_word_22 (by decide) (fun hc16 => ?_) (fun hc16 => ?_)
    · replace h := h.2 hc16
      refine vJ.aload dX6_word_27 rfl ?_
      refine vJ.getI (ci := 0) (k := 8) dX6_word_29 (sh_C hi3) (lt_C hi3) rfl inX0 (Nat.le_of_ble_eq_true rfl) rfl fl_RX6_102 ?_
      refine vJ.if_eq (tgt := 41) dX6_word_32 (by decide) (fun hc15 => ?_) (fun hc15 => ?_)
      · replace h := h.1 hc15
        refine vJ.aload dX6_word_41 rfl ?_
        refine vJ.iload_n dX6_word_43 rfl rfl ?_
        refine vJ.iconst dX6_word_44 ci_1 ?_
        refine vJ.callV (ci := 0) (Yc := mX0_holds) (frc := 0) (loc := 0) (as := [.int l2, .int (1 : Int32)]) dX6_word_45 rfl (sh_C hi3) (lt_C hi3) rfl ml_RX6_118 im_yX0_holds se_yX0_holds co_X0_holds in_TableSetter_Cell pl_X0_holds (Nat.le_of_ble_eq_true rfl) (Nat.le_of_ble_eq_true rfl) (Nat.le_of_ble_eq_true rfl) ?_
        refine Ev.gi (e_X0_holds hi3 h) (fun r7 m6 h => ?_)
        refine vJ.if_ne (tgt := 57) dX6_word_48 (by decide) (fun hc12 => ?_) (fun hc12 => ?_)
        · replace h := h.2 hc12
          refine vJ.aload dX6_word_57 rfl ?_
          refine vJ.iload_n dX6_word_59 rfl rfl ?_
          refine vJ.iload_n dX6_word_60 rfl rfl ?_
          refine vJ.callV (ci := 0) (Yc := mX0_exchange) (frc := 2) (loc := 43) (as := [.int l2, .int l3]) dX6_word_61 rfl (sh_C hi3) (lt_C hi3) rfl ml_RX6_121 im_yX0_exchange se_yX0_exchange co_X0_exchange in_TableSetter_Cell pl_X0_exchange (Nat.le_of_ble_eq_true rfl) (Nat.le_of_ble_eq_true rfl) (Nat.le_of_ble_eq_true rfl) ?_
          refine Ev.gi (e_X0_exchange hi3 h) (fun r9 m8 h => ?_)
          exact vJ.ireturn dX6_word_64 rfl rfl rfl ⟨rfl, _, rfl, h⟩
        · replace h := h.1 hc12
          refine vJ.aload_n dX6_word_51 rfl rfl ?_
          refine vJ.iconst dX6_word_52 ci_2 ?_
          refine vJ.callV (ci := 6) (Yc := mX6_tell) (frc := 0) (loc := 0) (as := [.int (2 : Int32)]) dX6_word_53 rfl sh_0 (Nat.le_of_ble_eq_true rfl) rfl ml_RX6_86 im_yX6_tell se_yX6_tell co_X6_tell in_TableSetter pl_X6_tell (Nat.le_of_ble_eq_true rfl) (Nat.le_of_ble_eq_true rfl) (Nat.le_of_ble_eq_true rfl) ?_
          refine Ev.gi (e_X6_tell  h) (fun r11 m10 h => ?_)
          exact vJ.ireturn dX6_word_56 rfl rfl rfl ⟨rfl, _, rfl, h⟩
      · replace h := h.2 hc15
        refine vJ.aload_n dX6_word_35 rfl rfl ?_
        refine vJ.iconst dX6_word_36 ci_1 ?_
        refine vJ.callV (ci := 6) (Yc := mX6_tell) (frc := 0) (loc := 0) (as := [.int (1 : Int32)]) dX6_word_37 rfl sh_0 (Nat.le_of_ble_eq_true rfl) rfl ml_RX6_86 im_yX6_tell se_yX6_tell co_X6_tell in_TableSetter pl_X6_tell (Nat.le_of_ble_eq_true rfl) (Nat.le_of_ble_eq_true rfl) (Nat.le_of_ble_eq_true rfl) ?_
        refine Ev.gi (e_X6_tell  h) (fun r14 m13 h => ?_)
        exact vJ.ireturn dX6_word_40 rfl rfl rfl ⟨rfl, _, rfl, h⟩
    · replace h := h.1 hc16
      refine vJ.iconst dX6_word_25 ci_m1 ?_
      exact vJ.ireturn dX6_word_26 rfl rfl rfl ⟨rfl, _, rfl, h⟩
def EI_X6_word (l1 : Int32) (l2 : Int32) (l3 : Int32) (m : vM) (P : Int32 → vM → Prop) : Prop := Ev mX6_word 3 66 197 [.ref 0, .int l1, .int l2, .int l3] 197 SH m (vPi P)
theorem f_X6_word {l1 : Int32} {l2 : Int32} {l3 : Int32} {m : vM} {P : Int32 → vM → Prop} (h : J_X6_word_0 l1 l2 l3 m P) : EI_X6_word l1 l2 l3 m P := Ev.of pn_X6_word (Nat.le_of_ble_eq_true rfl) h
theorem e_X6_word {l1 : Int32} {l2 : Int32} {l3 : Int32} {m : vM} {P : Int32 → vM → Prop}  (h : wp_X6_word l1 l2 l3 m P) : EI_X6_word l1 l2 l3 m P := f_X6_word (b_X6_word  h)
def J_X6_copy_0 (l1 : Int32) (l2 : Int32) (l3 : Int32) (l4 : Int32) (l5 : Int32) (m : vM) (P : Int32 → vM → Prop) : Prop := vJ mX6_copy 3 67 197 none 0 [(0, .ref 0), (1, .int l1), (2, .int l2), (3, .int l3), (4, .int l4), (5, .int l5)] [] 197 SH m (vPi P)
def wp_X6_copy (l1 : Int32) (l2 : Int32) (l3 : Int32) (l4 : Int32) (l5 : Int32) (m : vM) (P : Int32 → vM → Prop) : Prop :=
  wp_X1_numbered l1 m (fun o29 m1 =>
    ((o29 = none →
      wp_X1_numbered l3 m1 (fun o7 m4 =>
        ((o7 = none →
          P (-1 : Int32) m4) ∧
        (∀ i5 : Nat, i5 < 40 → o7 = some i5 →
          P (-1 : Int32) m4)))) ∧
    (∀ i2 : Nat, i2 < 40 → o29 = some i2 →
      wp_X1_numbered l3 m1 (fun o28 m8 =>
        ((o28 = none →
          P (-1 : Int32) m8) ∧
        (∀ i9 : Nat, i9 < 40 → o28 = some i9 →
          (((m8.1 (cA i2) 8) = (0 : Int32) →
            (((m8.1 (cA i9) 8) = (0 : Int32) →
              wp_X0_holds i2 l2 l5 m8 (fun r14 m13 =>
                ((r14 = (0 : Int32) →
                  wp_X6_tell (2 : Int32) m13 (fun r16 m15 =>
                    P r16 m15)) ∧
                (¬ r14 = (0 : Int32) →
                  wp_X0_holds i9 l4 l5 m13 (fun r18 m17 =>
                    ((r18 = (0 : Int32) →
                      wp_X6_tell (2 : Int32) m17 (fun r21 m20 =>
                        P r21 m20)) ∧
                    (¬ r18 = (0 : Int32) →
                      wp_X0_take i9 i2 l2 l4 l5 m17 (fun m19 =>
                        P (1 : Int32) m19)))))))) ∧
            (¬ (m8.1 (cA i9) 8) = (0 : Int32) →
              wp_X6_tell (1 : Int32) m8 (fun r25 m24 =>
                P r25 m24)))) ∧
          (¬ (m8.1 (cA i2) 8) = (0 : Int32) →
            wp_X6_tell (1 : Int32) m8 (fun r12 m11 =>
              P r12 m11)))))))))
set_option maxRecDepth 20000 in
set_option maxHeartbeats 4000000 in
theorem b_X6_copy {l1 : Int32} {l2 : Int32} {l3 : Int32} {l4 : Int32} {l5 : Int32} {m : vM} {P : Int32 → vM → Prop}  (h : wp_X6_copy l1 l2 l3 l4 l5 m P) : J_X6_copy_0 l1 l2 l3 l4 l5 m P := by
  show vJ mX6_copy 3 67 197 none 0 [(0, .ref 0), (1, .int l1), (2, .int l2), (3, .int l3), (4, .int l4), (5, .int l5)] [] 197 SH m (vPi P)
  unfold wp_X6_copy at h
  refine vJ.aload_n dX6_copy_0 rfl rfl ?_
  refine vJ.getR (ci := 6) (k := 0) (j := 1) dX6_copy_1 sh_0 (Nat.le_of_ble_eq_true rfl) rfl inX6 (Nat.le_of_ble_eq_true rfl) rfl fl_RX6_10 ?_
  refine vJ.iload_n dX6_copy_4 rfl rfl ?_
  refine vJ.callV (ci := 1) (Yc := mX1_numbered) (frc := 0) (loc := 0) (as := [.int l1]) dX6_copy_5 rfl sh_1 (Nat.le_of_ble_eq_true rfl) rfl ml_RX6_98 im_yX1_numbered se_yX1_numbered co_X1_numbered in_TableSetter_Grid pl_X1_numbered (Nat.le_of_ble_eq_true rfl) (Nat.le_of_ble_eq_true rfl) (Nat.le_of_ble_eq_true rfl) ?_
  refine Ev.gc (e_X1_numbered  h) (fun m1 h => ?_) (fun i2 m1 hi3 h => ?_)
  · replace h := h.1 rfl
    refine vJ.astoreN (ls2 := [(0, .ref 0), (1, .int l1), (2, .int l2), (3, .int l3), (4, .int l4), (5, .int l5), (6, .null)]) dX6_copy_8 (Nat.le_of_ble_eq_true rfl) rfl ?_
    refine vJ.aload_n dX6_copy_10 rfl rfl ?_
    refine vJ.getR (ci := 6) (k := 0) (j := 1) dX6_copy_11 sh_0 (Nat.le_of_ble_eq_true rfl) rfl inX6 (Nat.le_of_ble_eq_true rfl) rfl fl_RX6_10 ?_
    refine vJ.iload_n dX6_copy_14 rfl rfl ?_
    refine vJ.callV (ci := 1) (Yc := mX1_numbered) (frc := 0) (loc := 0) (as := [.int l3]) dX6_copy_15 rfl sh_1 (Nat.le_of_ble_eq_true rfl) rfl ml_RX6_98 im_yX1_numbered se_yX1_numbered co_X1_numbered in_TableSetter_Grid pl_X1_numbered (Nat.le_of_ble_eq_true rfl) (Nat.le_of_ble_eq_true rfl) (Nat.le_of_ble_eq_true rfl) ?_
    refine Ev.gc (e_X1_numbered  h) (fun m4 h => ?_) (fun i5 m4 hi6 h => ?_)
    · replace h := h.1 rfl
      refine vJ.astoreN (ls2 := [(0, .ref 0), (1, .int l1), (2, .int l2), (3, .int l3), (4, .int l4), (5, .int l5), (6, .null), (7, .null)]) dX6_copy_18 (Nat.le_of_ble_eq_true rfl) rfl ?_
      refine vJ.aloadN dX6_copy_20 rfl ?_
      refine vJ.ifnullN (tgt := 30) dX6_copy_22 (by decide) ?_
      refine vJ.iconst dX6_copy_30 ci_m1 ?_
      exact vJ.ireturn dX6_copy_31 rfl rfl rfl ⟨rfl, _, rfl, h⟩
    · replace h := h.2 i5 hi6 rfl
      refine vJ.astore (ls2 := [(0, .ref 0), (1, .int l1), (2, .int l2), (3, .int l3), (4, .int l4), (5, .int l5), (6, .null), (7, .ref (cA i5))]) dX6_copy_18 (Nat.le_of_ble_eq_true rfl) rfl ?_
      refine vJ.aloadN dX6_copy_20 rfl ?_
      refine vJ.ifnullN (tgt := 30) dX6_copy_22 (by decide) ?_
      refine vJ.iconst dX6_copy_30 ci_m1 ?_
      exact vJ.ireturn dX6_copy_31 rfl rfl rfl ⟨rfl, _, rfl, h⟩
  · replace h := h.2 i2 hi3 rfl
    refine vJ.astore (ls2 := [(0, .ref 0), (1, .int l1), (2, .int l2), (3, .int l3), (4, .int l4), (5, .int l5), (6, .ref (cA i2))]) dX6_copy_8 (Nat.le_of_ble_eq_true rfl) rfl ?_
    refine vJ.aload_n dX6_copy_10 rfl rfl ?_
    refine vJ.getR (ci := 6) (k := 0) (j := 1) dX6_copy_11 sh_0 (Nat.le_of_ble_eq_true rfl) rfl inX6 (Nat.le_of_ble_eq_true rfl) rfl fl_RX6_10 ?_
    refine vJ.iload_n dX6_copy_14 rfl rfl ?_
    refine vJ.callV (ci := 1) (Yc := mX1_numbered) (frc := 0) (loc := 0) (as := [.int l3]) dX6_copy_15 rfl sh_1 (Nat.le_of_ble_eq_true rfl) rfl ml_RX6_98 im_yX1_numbered se_yX1_numbered co_X1_numbered in_TableSetter_Grid pl_X1_numbered (Nat.le_of_ble_eq_true rfl) (Nat.le_of_ble_eq_true rfl) (Nat.le_of_ble_eq_true rfl) ?_
    refine Ev.gc (e_X1_numbered  h) (fun m8 h => ?_) (fun i9 m8 hi10 h => ?_)
    · replace h := h.1 rfl
      refine vJ.astoreN (ls2 := [(0, .ref 0), (1, .int l1), (2, .int l2), (3, .int l3), (4, .int l4), (5, .int l5), (6, .ref (cA i2)), (7, .null)]) dX6_copy_18 (Nat.le_of_ble_eq_true rfl) rfl ?_
      refine vJ.aload dX6_copy_20 rfl ?_
      refine vJ.ifnull dX6_copy_22 ?_
      refine vJ.aloadN dX6_copy_25 rfl ?_
      refine vJ.ifnonnullN dX6_copy_27 ?_
      refine vJ.iconst dX6_copy_30 ci_m1 ?_
      exact vJ.ireturn dX6_copy_31 rfl rfl rfl ⟨rfl, _, rfl, h⟩
    · replace h := h.2 i9 hi10 rfl
      refine vJ.astore (ls2 := [(0, .ref 0), (1, .int l1), (2, .int l2), (3, .int l3), (4, .int l4), (5, .int l5), (6, .ref (cA i2)), (7, .ref (cA i9))]) dX6_copy_18 (Nat.le_of_ble_eq_true rfl) rfl ?_
      refine vJ.aload dX6_copy_20 rfl ?_
      refine vJ.ifnull dX6_copy_22 ?_
      refine vJ.aload dX6_copy_25 rfl ?_
      refine vJ.ifnonnull (tgt := 32) dX6_copy_27 (by decide) ?_
      refine vJ.aload dX6_copy_32 rfl ?_
      refine vJ.getI (ci := 0) (k := 8) dX6_copy_34 (sh_C hi3) (lt_C hi3) rfl inX0 (Nat.le_of_ble_eq_true rfl) rfl fl_RX6_102 ?_
      refine vJ.if_ne (tgt := 48) dX6_copy_37 (by decide) (fun hc27 => ?_) (fun hc27 => ?_)
      · replace h := h.2 hc27
        refine vJ.aload_n dX6_copy_48 rfl rfl ?_
        refine vJ.iconst dX6_copy_49 ci_1 ?_
        refine vJ.callV (ci := 6) (Yc := mX6_tell) (frc := 0) (loc := 0) (as := [.int (1 : Int32)]) dX6_copy_50 rfl sh_0 (Nat.le_of_ble_eq_true rfl) rfl ml_RX6_86 im_yX6_tell se_yX6_tell co_X6_tell in_TableSetter pl_X6_tell (Nat.le_of_ble_eq_true rfl) (Nat.le_of_ble_eq_true rfl) (Nat.le_of_ble_eq_true rfl) ?_
        refine Ev.gi (e_X6_tell  h) (fun r12 m11 h => ?_)
        exact vJ.ireturn dX6_copy_53 rfl rfl rfl ⟨rfl, _, rfl, h⟩
      · replace h := h.1 hc27
        refine vJ.aload dX6_copy_40 rfl ?_
        refine vJ.getI (ci := 0) (k := 8) dX6_copy_42 (sh_C hi10) (lt_C hi10) rfl inX0 (Nat.le_of_ble_eq_true rfl) rfl fl_RX6_102 ?_
        refine vJ.if_eq (tgt := 54) dX6_copy_45 (by decide) (fun hc26 => ?_) (fun hc26 => ?_)
        · replace h := h.1 hc26
          refine vJ.aload dX6_copy_54 rfl ?_
          refine vJ.iload_n dX6_copy_56 rfl rfl ?_
          refine vJ.iload dX6_copy_57 rfl ?_
          refine vJ.callV (ci := 0) (Yc := mX0_holds) (frc := 0) (loc := 0) (as := [.int l2, .int l5]) dX6_copy_59 rfl (sh_C hi3) (lt_C hi3) rfl ml_RX6_118 im_yX0_holds se_yX0_holds co_X0_holds in_TableSetter_Cell pl_X0_holds (Nat.le_of_ble_eq_true rfl) (Nat.le_of_ble_eq_true rfl) (Nat.le_of_ble_eq_true rfl) ?_
          refine Ev.gi (e_X0_holds hi3 h) (fun r14 m13 h => ?_)
          refine vJ.if_eq (tgt := 77) dX6_copy_62 (by decide) (fun hc23 => ?_) (fun hc23 => ?_)
          · replace h := h.1 hc23
            refine vJ.aload_n dX6_copy_77 rfl rfl ?_
            refine vJ.iconst dX6_copy_78 ci_2 ?_
            refine vJ.callV (ci := 6) (Yc := mX6_tell) (frc := 0) (loc := 0) (as := [.int (2 : Int32)]) dX6_copy_79 rfl sh_0 (Nat.le_of_ble_eq_true rfl) rfl ml_RX6_86 im_yX6_tell se_yX6_tell co_X6_tell in_TableSetter pl_X6_tell (Nat.le_of_ble_eq_true rfl) (Nat.le_of_ble_eq_true rfl) (Nat.le_of_ble_eq_true rfl) ?_
            refine Ev.gi (e_X6_tell  h) (fun r16 m15 h => ?_)
            exact vJ.ireturn dX6_copy_82 rfl rfl rfl ⟨rfl, _, rfl, h⟩
          · replace h := h.2 hc23
            refine vJ.aload dX6_copy_65 rfl ?_
            refine vJ.iload dX6_copy_67 rfl ?_
            refine vJ.iload dX6_copy_69 rfl ?_
            refine vJ.callV (ci := 0) (Yc := mX0_holds) (frc := 0) (loc := 0) (as := [.int l4, .int l5]) dX6_copy_71 rfl (sh_C hi10) (lt_C hi10) rfl ml_RX6_118 im_yX0_holds se_yX0_holds co_X0_holds in_TableSetter_Cell pl_X0_holds (Nat.le_of_ble_eq_true rfl) (Nat.le_of_ble_eq_true rfl) (Nat.le_of_ble_eq_true rfl) ?_
            refine Ev.gi (e_X0_holds hi10 h) (fun r18 m17 h => ?_)
            refine vJ.if_ne (tgt := 83) dX6_copy_74 (by decide) (fun hc22 => ?_) (fun hc22 => ?_)
            · replace h := h.2 hc22
              refine vJ.aload dX6_copy_83 rfl ?_
              refine vJ.aload dX6_copy_85 rfl ?_
              refine vJ.iload_n dX6_copy_87 rfl rfl ?_
              refine vJ.iload dX6_copy_88 rfl ?_
              refine vJ.iload dX6_copy_90 rfl ?_
              refine vJ.callV (ci := 0) (Yc := mX0_take) (frc := 2) (loc := 43) (as := [.ref (cA i2), .int l2, .int l4, .int l5]) dX6_copy_92 rfl (sh_C hi10) (lt_C hi10) rfl ml_RX6_125 im_yX0_take se_yX0_take co_X0_take in_TableSetter_Cell pl_X0_take (Nat.le_of_ble_eq_true rfl) (Nat.le_of_ble_eq_true rfl) (Nat.le_of_ble_eq_true rfl) ?_
              refine Ev.gv (e_X0_take hi10 hi3 h) (fun m19 h => ?_)
              refine vJ.iconst dX6_copy_95 ci_1 ?_
              exact vJ.ireturn dX6_copy_96 rfl rfl rfl ⟨rfl, _, rfl, h⟩
            · replace h := h.1 hc22
              refine vJ.aload_n dX6_copy_77 rfl rfl ?_
              refine vJ.iconst dX6_copy_78 ci_2 ?_
              refine vJ.callV (ci := 6) (Yc := mX6_tell) (frc := 0) (loc := 0) (as := [.int (2 : Int32)]) dX6_copy_79 rfl sh_0 (Nat.le_of_ble_eq_true rfl) rfl ml_RX6_86 im_yX6_tell se_yX6_tell co_X6_tell in_TableSetter pl_X6_tell (Nat.le_of_ble_eq_true rfl) (Nat.le_of_ble_eq_true rfl) (Nat.le_of_ble_eq_true rfl) ?_
              refine Ev.gi (e_X6_tell  h) (fun r21 m20 h => ?_)
              exact vJ.ireturn dX6_copy_82 rfl rfl rfl ⟨rfl, _, rfl, h⟩
        · replace h := h.2 hc26
          refine vJ.aload_n dX6_copy_48 rfl rfl ?_
          refine vJ.iconst dX6_copy_49 ci_1 ?_
          refine vJ.callV (ci := 6) (Yc := mX6_tell) (frc := 0) (loc := 0) (as := [.int (1 : Int32)]) dX6_copy_50 rfl sh_0 (Nat.le_of_ble_eq_true rfl) rfl ml_RX6_86 im_yX6_tell se_yX6_tell co_X6_tell in_TableSetter pl_X6_tell (Nat.le_of_ble_eq_true rfl) (Nat.le_of_ble_eq_true rfl) (Nat.le_of_ble_eq_true rfl) ?_
          refine Ev.gi (e_X6_tell  h) (fun r25 m24 h => ?_)
          exact vJ.ireturn dX6_copy_53 rfl rfl rfl ⟨rfl, _, rfl, h⟩
def EI_X6_copy (l1 : Int32) (l2 : Int32) (l3 : Int32) (l4 : Int32) (l5 : Int32) (m : vM) (P : Int32 → vM → Prop) : Prop := Ev mX6_copy 3 67 197 [.ref 0, .int l1, .int l2, .int l3, .int l4, .int l5] 197 SH m (vPi P)
theorem f_X6_copy {l1 : Int32} {l2 : Int32} {l3 : Int32} {l4 : Int32} {l5 : Int32} {m : vM} {P : Int32 → vM → Prop} (h : J_X6_copy_0 l1 l2 l3 l4 l5 m P) : EI_X6_copy l1 l2 l3 l4 l5 m P := Ev.of pn_X6_copy (Nat.le_of_ble_eq_true rfl) h
theorem e_X6_copy {l1 : Int32} {l2 : Int32} {l3 : Int32} {l4 : Int32} {l5 : Int32} {m : vM} {P : Int32 → vM → Prop}  (h : wp_X6_copy l1 l2 l3 l4 l5 m P) : EI_X6_copy l1 l2 l3 l4 l5 m P := f_X6_copy (b_X6_copy  h)
def J_X6_mean_0 (l1 : Int32) (m : vM) (P : Int32 → vM → Prop) : Prop := vJ mX6_mean 1 22 197 none 0 [(0, .ref 0), (1, .int l1)] [] 197 SH m (vPi P)
def wp_X6_mean (l1 : Int32) (m : vM) (P : Int32 → vM → Prop) : Prop :=
  wp_X1_numbered l1 m (fun o13 m1 =>
    ((o13 = none →
      P (-1 : Int32) m1) ∧
    (∀ i2 : Nat, i2 < 40 → o13 = some i2 →
      (((m1.1 (cA i2) 8) = (0 : Int32) →
        (((1 : Int32) ≤ (m1.1 (cA i2) 7) →
          EI_X0_allLetters i2 m1 (fun r5 m4 =>
            (¬ (m4.1 (cA i2) 7) = 0) ∧
            P (r5 / (m4.1 (cA i2) 7)) m4)) ∧
        (¬ (1 : Int32) ≤ (m1.1 (cA i2) 7) →
          wp_X6_tell (4 : Int32) m1 (fun r8 m7 =>
            P r8 m7)))) ∧
      (¬ (m1.1 (cA i2) 8) = (0 : Int32) →
        wp_X6_tell (1 : Int32) m1 (fun r11 m10 =>
          P r11 m10))))))
set_option maxRecDepth 20000 in
set_option maxHeartbeats 4000000 in
theorem b_X6_mean {l1 : Int32} {m : vM} {P : Int32 → vM → Prop}  (h : wp_X6_mean l1 m P) : J_X6_mean_0 l1 m P := by
  show vJ mX6_mean 1 22 197 none 0 [(0, .ref 0), (1, .int l1)] [] 197 SH m (vPi P)
  unfold wp_X6_mean at h
  refine vJ.aload_n dX6_mean_0 rfl rfl ?_
  refine vJ.getR (ci := 6) (k := 0) (j := 1) dX6_mean_1 sh_0 (Nat.le_of_ble_eq_true rfl) rfl inX6 (Nat.le_of_ble_eq_true rfl) rfl fl_RX6_10 ?_
  refine vJ.iload_n dX6_mean_4 rfl rfl ?_
  refine vJ.callV (ci := 1) (Yc := mX1_numbered) (frc := 0) (loc := 0) (as := [.int l1]) dX6_mean_5 rfl sh_1 (Nat.le_of_ble_eq_true rfl) rfl ml_RX6_98 im_yX1_numbered se_yX1_numbered co_X1_numbered in_TableSetter_Grid pl_X1_numbered (Nat.le_of_ble_eq_true rfl) (Nat.le_of_ble_eq_true rfl) (Nat.le_of_ble_eq_true rfl) ?_
  refine Ev.gc (e_X1_numbered  h) (fun m1 h => ?_) (fun i2 m1 hi3 h => ?_)
  · replace h := h.1 rfl
    refine vJ.astore_nN (ls2 := [(0, .ref 0), (1, .int l1), (2, .null)]) dX6_mean_8 rfl (Nat.le_of_ble_eq_true rfl) rfl ?_
    refine vJ.aload_nN dX6_mean_9 rfl rfl ?_
    refine vJ.ifnonnullN dX6_mean_10 ?_
    refine vJ.iconst dX6_mean_13 ci_m1 ?_
    exact vJ.ireturn dX6_mean_14 rfl rfl rfl ⟨rfl, _, rfl, h⟩
  · replace h := h.2 i2 hi3 rfl
    refine vJ.astore_n (ls2 := [(0, .ref 0), (1, .int l1), (2, .ref (cA i2))]) dX6_mean_8 rfl (Nat.le_of_ble_eq_true rfl) rfl ?_
    refine vJ.aload_n dX6_mean_9 rfl rfl ?_
    refine vJ.ifnonnull (tgt := 15) dX6_mean_10 (by decide) ?_
    refine vJ.aload_n dX6_mean_15 rfl rfl ?_
    refine vJ.getI (ci := 0) (k := 8) dX6_mean_16 (sh_C hi3) (lt_C hi3) rfl inX0 (Nat.le_of_ble_eq_true rfl) rfl fl_RX6_102 ?_
    refine vJ.if_eq (tgt := 28) dX6_mean_19 (by decide) (fun hc12 => ?_) (fun hc12 => ?_)
    · replace h := h.1 hc12
      refine vJ.aload_n dX6_mean_28 rfl rfl ?_
      refine vJ.getI (ci := 0) (k := 7) dX6_mean_29 (sh_C hi3) (lt_C hi3) rfl inX0 (Nat.le_of_ble_eq_true rfl) rfl fl_RX6_129 ?_
      refine vJ.iconst dX6_mean_32 ci_1 ?_
      refine vJ.icmp_ge (tgt := 42) dX6_mean_33 (by decide) (fun hc9 => ?_) (fun hc9 => ?_)
      · replace h := h.1 hc9
        refine vJ.aload_n dX6_mean_42 rfl rfl ?_
        refine vJ.callV (ci := 0) (Yc := mX0_allLetters) (frc := 0) (loc := 0) (as := []) dX6_mean_43 rfl (sh_C hi3) (lt_C hi3) rfl ml_RX6_132 im_yX0_allLetters se_yX0_allLetters co_X0_allLetters in_TableSetter_Cell pl_X0_allLetters (Nat.le_of_ble_eq_true rfl) (Nat.le_of_ble_eq_true rfl) (Nat.le_of_ble_eq_true rfl) ?_
        refine Ev.gi h (fun r5 m4 h => ?_)
        refine vJ.aload_n dX6_mean_46 rfl rfl ?_
        refine vJ.getI (ci := 0) (k := 7) dX6_mean_47 (sh_C hi3) (lt_C hi3) rfl inX0 (Nat.le_of_ble_eq_true rfl) rfl fl_RX6_129 ?_
        obtain ⟨hz6, h⟩ := h
        refine vJ.idiv dX6_mean_50 hz6 ?_
        exact vJ.ireturn dX6_mean_51 rfl rfl rfl ⟨rfl, _, rfl, h⟩
      · replace h := h.2 hc9
        refine vJ.aload_n dX6_mean_36 rfl rfl ?_
        refine vJ.iconst dX6_mean_37 ci_4 ?_
        refine vJ.callV (ci := 6) (Yc := mX6_tell) (frc := 0) (loc := 0) (as := [.int (4 : Int32)]) dX6_mean_38 rfl sh_0 (Nat.le_of_ble_eq_true rfl) rfl ml_RX6_86 im_yX6_tell se_yX6_tell co_X6_tell in_TableSetter pl_X6_tell (Nat.le_of_ble_eq_true rfl) (Nat.le_of_ble_eq_true rfl) (Nat.le_of_ble_eq_true rfl) ?_
        refine Ev.gi (e_X6_tell  h) (fun r8 m7 h => ?_)
        exact vJ.ireturn dX6_mean_41 rfl rfl rfl ⟨rfl, _, rfl, h⟩
    · replace h := h.2 hc12
      refine vJ.aload_n dX6_mean_22 rfl rfl ?_
      refine vJ.iconst dX6_mean_23 ci_1 ?_
      refine vJ.callV (ci := 6) (Yc := mX6_tell) (frc := 0) (loc := 0) (as := [.int (1 : Int32)]) dX6_mean_24 rfl sh_0 (Nat.le_of_ble_eq_true rfl) rfl ml_RX6_86 im_yX6_tell se_yX6_tell co_X6_tell in_TableSetter pl_X6_tell (Nat.le_of_ble_eq_true rfl) (Nat.le_of_ble_eq_true rfl) (Nat.le_of_ble_eq_true rfl) ?_
      refine Ev.gi (e_X6_tell  h) (fun r11 m10 h => ?_)
      exact vJ.ireturn dX6_mean_27 rfl rfl rfl ⟨rfl, _, rfl, h⟩
def EI_X6_mean (l1 : Int32) (m : vM) (P : Int32 → vM → Prop) : Prop := Ev mX6_mean 1 22 197 [.ref 0, .int l1] 197 SH m (vPi P)
theorem f_X6_mean {l1 : Int32} {m : vM} {P : Int32 → vM → Prop} (h : J_X6_mean_0 l1 m P) : EI_X6_mean l1 m P := Ev.of pn_X6_mean (Nat.le_of_ble_eq_true rfl) h
theorem e_X6_mean {l1 : Int32} {m : vM} {P : Int32 → vM → Prop}  (h : wp_X6_mean l1 m P) : EI_X6_mean l1 m P := f_X6_mean (b_X6_mean  h)
def J_X6_calls_0 (l1 : Int32) (l2 : Int32) (m : vM) (P : Int32 → vM → Prop) : Prop := vJ mX6_calls 1 22 197 none 0 [(0, .ref 0), (1, .int l1), (2, .int l2)] [] 197 SH m (vPi P)
def wp_X6_calls (l1 : Int32) (l2 : Int32) (m : vM) (P : Int32 → vM → Prop) : Prop :=
  wp_X1_numbered l1 m (fun o12 m1 =>
    ((o12 = none →
      P (-1 : Int32) m1) ∧
    (∀ i2 : Nat, i2 < 40 → o12 = some i2 →
      wp_X6_isWithin l2 (0 : Int32) (1023 : Int32) m1 (fun r5 m4 =>
        ((r5 = (0 : Int32) →
          P (-1 : Int32) m4) ∧
        (¬ r5 = (0 : Int32) →
          (((m4.1 (cA i2) 8) = (0 : Int32) →
            ∀ v6 : Int32, v6 = (m4.1 (cA i2) 5) →
            ∀ m7 : vM, m7 = upI m4 (cA i2) 5 l2 →
            P v6 m7) ∧
          (¬ (m4.1 (cA i2) 8) = (0 : Int32) →
            wp_X6_tell (1 : Int32) m4 (fun r9 m8 =>
              P r9 m8)))))))))
set_option maxRecDepth 20000 in
set_option maxHeartbeats 4000000 in
theorem b_X6_calls {l1 : Int32} {l2 : Int32} {m : vM} {P : Int32 → vM → Prop}  (h : wp_X6_calls l1 l2 m P) : J_X6_calls_0 l1 l2 m P := by
  show vJ mX6_calls 1 22 197 none 0 [(0, .ref 0), (1, .int l1), (2, .int l2)] [] 197 SH m (vPi P)
  unfold wp_X6_calls at h
  refine vJ.aload_n dX6_calls_0 rfl rfl ?_
  refine vJ.getR (ci := 6) (k := 0) (j := 1) dX6_calls_1 sh_0 (Nat.le_of_ble_eq_true rfl) rfl inX6 (Nat.le_of_ble_eq_true rfl) rfl fl_RX6_10 ?_
  refine vJ.iload_n dX6_calls_4 rfl rfl ?_
  refine vJ.callV (ci := 1) (Yc := mX1_numbered) (frc := 0) (loc := 0) (as := [.int l1]) dX6_calls_5 rfl sh_1 (Nat.le_of_ble_eq_true rfl) rfl ml_RX6_98 im_yX1_numbered se_yX1_numbered co_X1_numbered in_TableSetter_Grid pl_X1_numbered (Nat.le_of_ble_eq_true rfl) (Nat.le_of_ble_eq_true rfl) (Nat.le_of_ble_eq_true rfl) ?_
  refine Ev.gc (e_X1_numbered  h) (fun m1 h => ?_) (fun i2 m1 hi3 h => ?_)
  · replace h := h.1 rfl
    refine vJ.astore_nN (ls2 := [(0, .ref 0), (1, .int l1), (2, .int l2), (3, .null)]) dX6_calls_8 rfl (Nat.le_of_ble_eq_true rfl) rfl ?_
    refine vJ.aload_nN dX6_calls_9 rfl rfl ?_
    refine vJ.ifnullN (tgt := 24) dX6_calls_10 (by decide) ?_
    refine vJ.iconst dX6_calls_24 ci_m1 ?_
    exact vJ.ireturn dX6_calls_25 rfl rfl rfl ⟨rfl, _, rfl, h⟩
  · replace h := h.2 i2 hi3 rfl
    refine vJ.astore_n (ls2 := [(0, .ref 0), (1, .int l1), (2, .int l2), (3, .ref (cA i2))]) dX6_calls_8 rfl (Nat.le_of_ble_eq_true rfl) rfl ?_
    refine vJ.aload_n dX6_calls_9 rfl rfl ?_
    refine vJ.ifnull dX6_calls_10 ?_
    refine vJ.iload_n dX6_calls_13 rfl rfl ?_
    refine vJ.iconst dX6_calls_14 ci_0 ?_
    refine vJ.sipush dX6_calls_15 cs_1023 ?_
    refine vJ.callS (Yc := mX6_isWithin) (frc := 0) (loc := 0) (as := [.int l2, .int (0 : Int32), .int (1023 : Int32)]) dX6_calls_18 rfl ml_RX6_55 st_yX6_isWithin co_X6_isWithin in_TableSetter pl_X6_isWithin (Nat.le_of_ble_eq_true rfl) (Nat.le_of_ble_eq_true rfl) (Nat.le_of_ble_eq_true rfl) ?_
    refine Ev.gi (e_X6_isWithin  h) (fun r5 m4 h => ?_)
    refine vJ.if_ne (tgt := 26) dX6_calls_21 (by decide) (fun hc11 => ?_) (fun hc11 => ?_)
    · replace h := h.2 hc11
      refine vJ.aload_n dX6_calls_26 rfl rfl ?_
      refine vJ.getI (ci := 0) (k := 8) dX6_calls_27 (sh_C hi3) (lt_C hi3) rfl inX0 (Nat.le_of_ble_eq_true rfl) rfl fl_RX6_102 ?_
      refine vJ.if_eq (tgt := 39) dX6_calls_30 (by decide) (fun hc10 => ?_) (fun hc10 => ?_)
      · replace h := h.1 hc10
        refine vJ.aload_n dX6_calls_39 rfl rfl ?_
        refine vJ.getI (ci := 0) (k := 5) dX6_calls_40 (sh_C hi3) (lt_C hi3) rfl inX0 (Nat.le_of_ble_eq_true rfl) rfl fl_RX6_136 ?_
        refine vJ.topi (fun v6 ev6 => ?_)
        replace h := h v6 ev6
        refine vJ.istore (ls2 := [(0, .ref 0), (1, .int l1), (2, .int l2), (3, .ref (cA i2)), (4, .int v6)]) dX6_calls_43 (Nat.le_of_ble_eq_true rfl) rfl ?_
        refine vJ.aload_n dX6_calls_45 rfl rfl ?_
        refine vJ.iload_n dX6_calls_46 rfl rfl ?_
        refine vJ.putI (ci := 0) (k := 5) dX6_calls_47 (sh_C hi3) (lt_C hi3) rfl inX0 tyX0 tyX0_ok nmX0 (Nat.le_of_ble_eq_true rfl) rfl rfl fl_RX6_136 rfl rfl ?_
        refine vJ.topm (fun m7 em7 => ?_)
        replace h := h m7 em7
        refine vJ.iload dX6_calls_50 rfl ?_
        exact vJ.ireturn dX6_calls_52 rfl rfl rfl ⟨rfl, _, rfl, h⟩
      · replace h := h.2 hc10
        refine vJ.aload_n dX6_calls_33 rfl rfl ?_
        refine vJ.iconst dX6_calls_34 ci_1 ?_
        refine vJ.callV (ci := 6) (Yc := mX6_tell) (frc := 0) (loc := 0) (as := [.int (1 : Int32)]) dX6_calls_35 rfl sh_0 (Nat.le_of_ble_eq_true rfl) rfl ml_RX6_86 im_yX6_tell se_yX6_tell co_X6_tell in_TableSetter pl_X6_tell (Nat.le_of_ble_eq_true rfl) (Nat.le_of_ble_eq_true rfl) (Nat.le_of_ble_eq_true rfl) ?_
        refine Ev.gi (e_X6_tell  h) (fun r9 m8 h => ?_)
        exact vJ.ireturn dX6_calls_38 rfl rfl rfl ⟨rfl, _, rfl, h⟩
    · replace h := h.1 hc11
      refine vJ.iconst dX6_calls_24 ci_m1 ?_
      exact vJ.ireturn dX6_calls_25 rfl rfl rfl ⟨rfl, _, rfl, h⟩
def EI_X6_calls (l1 : Int32) (l2 : Int32) (m : vM) (P : Int32 → vM → Prop) : Prop := Ev mX6_calls 1 22 197 [.ref 0, .int l1, .int l2] 197 SH m (vPi P)
theorem f_X6_calls {l1 : Int32} {l2 : Int32} {m : vM} {P : Int32 → vM → Prop} (h : J_X6_calls_0 l1 l2 m P) : EI_X6_calls l1 l2 m P := Ev.of pn_X6_calls (Nat.le_of_ble_eq_true rfl) h
theorem e_X6_calls {l1 : Int32} {l2 : Int32} {m : vM} {P : Int32 → vM → Prop}  (h : wp_X6_calls l1 l2 m P) : EI_X6_calls l1 l2 m P := f_X6_calls (b_X6_calls  h)
def J_X6_fix_0 (l1 : Int32) (l2 : Int32) (m : vM) (P : Int32 → vM → Prop) : Prop := vJ mX6_fix 1 22 197 none 0 [(0, .ref 0), (1, .int l1), (2, .int l2)] [] 197 SH m (vPi P)
def wp_X6_fix (l1 : Int32) (l2 : Int32) (m : vM) (P : Int32 → vM → Prop) : Prop :=
  wp_X1_numbered l1 m (fun o15 m1 =>
    ((o15 = none →
      P (-1 : Int32) m1) ∧
    (∀ i2 : Nat, i2 < 40 → o15 = some i2 →
      wp_X6_isWithin l2 (1 : Int32) (60 : Int32) m1 (fun r5 m4 =>
        ((r5 = (0 : Int32) →
          P (-1 : Int32) m4) ∧
        (¬ r5 = (0 : Int32) →
          (((m4.1 (cA i2) 8) = (0 : Int32) →
            (((m4.1 (cA i2) 0) = (2 : Int32) →
              ∀ v6 : Int32, v6 = (m4.1 (cA i2) 6) →
              ∀ m7 : vM, m7 = upI m4 (cA i2) 6 l2 →
              P v6 m7) ∧
            (¬ (m4.1 (cA i2) 0) = (2 : Int32) →
              wp_X6_tell (3 : Int32) m4 (fun r9 m8 =>
                P r9 m8)))) ∧
          (¬ (m4.1 (cA i2) 8) = (0 : Int32) →
            wp_X6_tell (1 : Int32) m4 (fun r12 m11 =>
              P r12 m11)))))))))
set_option maxRecDepth 20000 in
set_option maxHeartbeats 4000000 in
theorem b_X6_fix {l1 : Int32} {l2 : Int32} {m : vM} {P : Int32 → vM → Prop}  (h : wp_X6_fix l1 l2 m P) : J_X6_fix_0 l1 l2 m P := by
  show vJ mX6_fix 1 22 197 none 0 [(0, .ref 0), (1, .int l1), (2, .int l2)] [] 197 SH m (vPi P)
  unfold wp_X6_fix at h
  refine vJ.aload_n dX6_fix_0 rfl rfl ?_
  refine vJ.getR (ci := 6) (k := 0) (j := 1) dX6_fix_1 sh_0 (Nat.le_of_ble_eq_true rfl) rfl inX6 (Nat.le_of_ble_eq_true rfl) rfl fl_RX6_10 ?_
  refine vJ.iload_n dX6_fix_4 rfl rfl ?_
  refine vJ.callV (ci := 1) (Yc := mX1_numbered) (frc := 0) (loc := 0) (as := [.int l1]) dX6_fix_5 rfl sh_1 (Nat.le_of_ble_eq_true rfl) rfl ml_RX6_98 im_yX1_numbered se_yX1_numbered co_X1_numbered in_TableSetter_Grid pl_X1_numbered (Nat.le_of_ble_eq_true rfl) (Nat.le_of_ble_eq_true rfl) (Nat.le_of_ble_eq_true rfl) ?_
  refine Ev.gc (e_X1_numbered  h) (fun m1 h => ?_) (fun i2 m1 hi3 h => ?_)
  · replace h := h.1 rfl
    refine vJ.astore_nN (ls2 := [(0, .ref 0), (1, .int l1), (2, .int l2), (3, .null)]) dX6_fix_8 rfl (Nat.le_of_ble_eq_true rfl) rfl ?_
    refine vJ.aload_nN dX6_fix_9 rfl rfl ?_
    refine vJ.ifnullN (tgt := 23) dX6_fix_10 (by decide) ?_
    refine vJ.iconst dX6_fix_23 ci_m1 ?_
    exact vJ.ireturn dX6_fix_24 rfl rfl rfl ⟨rfl, _, rfl, h⟩
  · replace h := h.2 i2 hi3 rfl
    refine vJ.astore_n (ls2 := [(0, .ref 0), (1, .int l1), (2, .int l2), (3, .ref (cA i2))]) dX6_fix_8 rfl (Nat.le_of_ble_eq_true rfl) rfl ?_
    refine vJ.aload_n dX6_fix_9 rfl rfl ?_
    refine vJ.ifnull dX6_fix_10 ?_
    refine vJ.iload_n dX6_fix_13 rfl rfl ?_
    refine vJ.iconst dX6_fix_14 ci_1 ?_
    refine vJ.bipush dX6_fix_15 cb_60 ?_
    refine vJ.callS (Yc := mX6_isWithin) (frc := 0) (loc := 0) (as := [.int l2, .int (1 : Int32), .int (60 : Int32)]) dX6_fix_17 rfl ml_RX6_55 st_yX6_isWithin co_X6_isWithin in_TableSetter pl_X6_isWithin (Nat.le_of_ble_eq_true rfl) (Nat.le_of_ble_eq_true rfl) (Nat.le_of_ble_eq_true rfl) ?_
    refine Ev.gi (e_X6_isWithin  h) (fun r5 m4 h => ?_)
    refine vJ.if_ne (tgt := 25) dX6_fix_20 (by decide) (fun hc14 => ?_) (fun hc14 => ?_)
    · replace h := h.2 hc14
      refine vJ.aload_n dX6_fix_25 rfl rfl ?_
      refine vJ.getI (ci := 0) (k := 8) dX6_fix_26 (sh_C hi3) (lt_C hi3) rfl inX0 (Nat.le_of_ble_eq_true rfl) rfl fl_RX6_102 ?_
      refine vJ.if_eq (tgt := 38) dX6_fix_29 (by decide) (fun hc13 => ?_) (fun hc13 => ?_)
      · replace h := h.1 hc13
        refine vJ.aload_n dX6_fix_38 rfl rfl ?_
        refine vJ.getI (ci := 0) (k := 0) dX6_fix_39 (sh_C hi3) (lt_C hi3) rfl inX0 (Nat.le_of_ble_eq_true rfl) rfl fl_RX6_111 ?_
        refine vJ.iconst dX6_fix_42 ci_2 ?_
        refine vJ.icmp_eq (tgt := 52) dX6_fix_43 (by decide) (fun hc10 => ?_) (fun hc10 => ?_)
        · replace h := h.1 hc10
          refine vJ.aload_n dX6_fix_52 rfl rfl ?_
          refine vJ.getI (ci := 0) (k := 6) dX6_fix_53 (sh_C hi3) (lt_C hi3) rfl inX0 (Nat.le_of_ble_eq_true rfl) rfl fl_RX6_139 ?_
          refine vJ.topi (fun v6 ev6 => ?_)
          replace h := h v6 ev6
          refine vJ.istore (ls2 := [(0, .ref 0), (1, .int l1), (2, .int l2), (3, .ref (cA i2)), (4, .int v6)]) dX6_fix_56 (Nat.le_of_ble_eq_true rfl) rfl ?_
          refine vJ.aload_n dX6_fix_58 rfl rfl ?_
          refine vJ.iload_n dX6_fix_59 rfl rfl ?_
          refine vJ.putI (ci := 0) (k := 6) dX6_fix_60 (sh_C hi3) (lt_C hi3) rfl inX0 tyX0 tyX0_ok nmX0 (Nat.le_of_ble_eq_true rfl) rfl rfl fl_RX6_139 rfl rfl ?_
          refine vJ.topm (fun m7 em7 => ?_)
          replace h := h m7 em7
          refine vJ.iload dX6_fix_63 rfl ?_
          exact vJ.ireturn dX6_fix_65 rfl rfl rfl ⟨rfl, _, rfl, h⟩
        · replace h := h.2 hc10
          refine vJ.aload_n dX6_fix_46 rfl rfl ?_
          refine vJ.iconst dX6_fix_47 ci_3 ?_
          refine vJ.callV (ci := 6) (Yc := mX6_tell) (frc := 0) (loc := 0) (as := [.int (3 : Int32)]) dX6_fix_48 rfl sh_0 (Nat.le_of_ble_eq_true rfl) rfl ml_RX6_86 im_yX6_tell se_yX6_tell co_X6_tell in_TableSetter pl_X6_tell (Nat.le_of_ble_eq_true rfl) (Nat.le_of_ble_eq_true rfl) (Nat.le_of_ble_eq_true rfl) ?_
          refine Ev.gi (e_X6_tell  h) (fun r9 m8 h => ?_)
          exact vJ.ireturn dX6_fix_51 rfl rfl rfl ⟨rfl, _, rfl, h⟩
      · replace h := h.2 hc13
        refine vJ.aload_n dX6_fix_32 rfl rfl ?_
        refine vJ.iconst dX6_fix_33 ci_1 ?_
        refine vJ.callV (ci := 6) (Yc := mX6_tell) (frc := 0) (loc := 0) (as := [.int (1 : Int32)]) dX6_fix_34 rfl sh_0 (Nat.le_of_ble_eq_true rfl) rfl ml_RX6_86 im_yX6_tell se_yX6_tell co_X6_tell in_TableSetter pl_X6_tell (Nat.le_of_ble_eq_true rfl) (Nat.le_of_ble_eq_true rfl) (Nat.le_of_ble_eq_true rfl) ?_
        refine Ev.gi (e_X6_tell  h) (fun r12 m11 h => ?_)
        exact vJ.ireturn dX6_fix_37 rfl rfl rfl ⟨rfl, _, rfl, h⟩
    · replace h := h.1 hc14
      refine vJ.iconst dX6_fix_23 ci_m1 ?_
      exact vJ.ireturn dX6_fix_24 rfl rfl rfl ⟨rfl, _, rfl, h⟩
def EI_X6_fix (l1 : Int32) (l2 : Int32) (m : vM) (P : Int32 → vM → Prop) : Prop := Ev mX6_fix 1 22 197 [.ref 0, .int l1, .int l2] 197 SH m (vPi P)
theorem f_X6_fix {l1 : Int32} {l2 : Int32} {m : vM} {P : Int32 → vM → Prop} (h : J_X6_fix_0 l1 l2 m P) : EI_X6_fix l1 l2 m P := Ev.of pn_X6_fix (Nat.le_of_ble_eq_true rfl) h
theorem e_X6_fix {l1 : Int32} {l2 : Int32} {m : vM} {P : Int32 → vM → Prop}  (h : wp_X6_fix l1 l2 m P) : EI_X6_fix l1 l2 m P := f_X6_fix (b_X6_fix  h)
def J_X6_lines_0 (l1 : Int32) (l2 : Int32) (m : vM) (P : Int32 → vM → Prop) : Prop := vJ mX6_lines 2 48 197 none 0 [(0, .ref 0), (1, .int l1), (2, .int l2)] [] 197 SH m (vPi P)
def wp_X6_lines (l1 : Int32) (l2 : Int32) (m : vM) (P : Int32 → vM → Prop) : Prop :=
  wp_X1_numbered l1 m (fun o12 m1 =>
    ((o12 = none →
      P (-1 : Int32) m1) ∧
    (∀ i2 : Nat, i2 < 40 → o12 = some i2 →
      wp_X6_isWithin l2 (1 : Int32) (400 : Int32) m1 (fun r5 m4 =>
        ((r5 = (0 : Int32) →
          P (-1 : Int32) m4) ∧
        (¬ r5 = (0 : Int32) →
          (((m4.1 (cA i2) 8) = (0 : Int32) →
            wp_X0_linesIn i2 l2 m4 (fun r7 m6 =>
              P r7 m6)) ∧
          (¬ (m4.1 (cA i2) 8) = (0 : Int32) →
            wp_X6_tell (1 : Int32) m4 (fun r9 m8 =>
              P r9 m8)))))))))
set_option maxRecDepth 20000 in
set_option maxHeartbeats 4000000 in
theorem b_X6_lines {l1 : Int32} {l2 : Int32} {m : vM} {P : Int32 → vM → Prop}  (h : wp_X6_lines l1 l2 m P) : J_X6_lines_0 l1 l2 m P := by
  show vJ mX6_lines 2 48 197 none 0 [(0, .ref 0), (1, .int l1), (2, .int l2)] [] 197 SH m (vPi P)
  unfold wp_X6_lines at h
  refine vJ.aload_n dX6_lines_0 rfl rfl ?_
  refine vJ.getR (ci := 6) (k := 0) (j := 1) dX6_lines_1 sh_0 (Nat.le_of_ble_eq_true rfl) rfl inX6 (Nat.le_of_ble_eq_true rfl) rfl fl_RX6_10 ?_
  refine vJ.iload_n dX6_lines_4 rfl rfl ?_
  refine vJ.callV (ci := 1) (Yc := mX1_numbered) (frc := 0) (loc := 0) (as := [.int l1]) dX6_lines_5 rfl sh_1 (Nat.le_of_ble_eq_true rfl) rfl ml_RX6_98 im_yX1_numbered se_yX1_numbered co_X1_numbered in_TableSetter_Grid pl_X1_numbered (Nat.le_of_ble_eq_true rfl) (Nat.le_of_ble_eq_true rfl) (Nat.le_of_ble_eq_true rfl) ?_
  refine Ev.gc (e_X1_numbered  h) (fun m1 h => ?_) (fun i2 m1 hi3 h => ?_)
  · replace h := h.1 rfl
    refine vJ.astore_nN (ls2 := [(0, .ref 0), (1, .int l1), (2, .int l2), (3, .null)]) dX6_lines_8 rfl (Nat.le_of_ble_eq_true rfl) rfl ?_
    refine vJ.aload_nN dX6_lines_9 rfl rfl ?_
    refine vJ.ifnullN (tgt := 24) dX6_lines_10 (by decide) ?_
    refine vJ.iconst dX6_lines_24 ci_m1 ?_
    exact vJ.ireturn dX6_lines_25 rfl rfl rfl ⟨rfl, _, rfl, h⟩
  · replace h := h.2 i2 hi3 rfl
    refine vJ.astore_n (ls2 := [(0, .ref 0), (1, .int l1), (2, .int l2), (3, .ref (cA i2))]) dX6_lines_8 rfl (Nat.le_of_ble_eq_true rfl) rfl ?_
    refine vJ.aload_n dX6_lines_9 rfl rfl ?_
    refine vJ.ifnull dX6_lines_10 ?_
    refine vJ.iload_n dX6_lines_13 rfl rfl ?_
    refine vJ.iconst dX6_lines_14 ci_1 ?_
    refine vJ.sipush dX6_lines_15 cs_400 ?_
    refine vJ.callS (Yc := mX6_isWithin) (frc := 0) (loc := 0) (as := [.int l2, .int (1 : Int32), .int (400 : Int32)]) dX6_lines_18 rfl ml_RX6_55 st_yX6_isWithin co_X6_isWithin in_TableSetter pl_X6_isWithin (Nat.le_of_ble_eq_true rfl) (Nat.le_of_ble_eq_true rfl) (Nat.le_of_ble_eq_true rfl) ?_
    refine Ev.gi (e_X6_isWithin  h) (fun r5 m4 h => ?_)
    refine vJ.if_ne (tgt := 26) dX6_lines_21 (by decide) (fun hc11 => ?_) (fun hc11 => ?_)
    · replace h := h.2 hc11
      refine vJ.aload_n dX6_lines_26 rfl rfl ?_
      refine vJ.getI (ci := 0) (k := 8) dX6_lines_27 (sh_C hi3) (lt_C hi3) rfl inX0 (Nat.le_of_ble_eq_true rfl) rfl fl_RX6_102 ?_
      refine vJ.if_eq (tgt := 39) dX6_lines_30 (by decide) (fun hc10 => ?_) (fun hc10 => ?_)
      · replace h := h.1 hc10
        refine vJ.aload_n dX6_lines_39 rfl rfl ?_
        refine vJ.iload_n dX6_lines_40 rfl rfl ?_
        refine vJ.callV (ci := 0) (Yc := mX0_linesIn) (frc := 1) (loc := 26) (as := [.int l2]) dX6_lines_41 rfl (sh_C hi3) (lt_C hi3) rfl ml_RX6_142 im_yX0_linesIn se_yX0_linesIn co_X0_linesIn in_TableSetter_Cell pl_X0_linesIn (Nat.le_of_ble_eq_true rfl) (Nat.le_of_ble_eq_true rfl) (Nat.le_of_ble_eq_true rfl) ?_
        refine Ev.gi (e_X0_linesIn hi3 h) (fun r7 m6 h => ?_)
        exact vJ.ireturn dX6_lines_44 rfl rfl rfl ⟨rfl, _, rfl, h⟩
      · replace h := h.2 hc10
        refine vJ.aload_n dX6_lines_33 rfl rfl ?_
        refine vJ.iconst dX6_lines_34 ci_1 ?_
        refine vJ.callV (ci := 6) (Yc := mX6_tell) (frc := 0) (loc := 0) (as := [.int (1 : Int32)]) dX6_lines_35 rfl sh_0 (Nat.le_of_ble_eq_true rfl) rfl ml_RX6_86 im_yX6_tell se_yX6_tell co_X6_tell in_TableSetter pl_X6_tell (Nat.le_of_ble_eq_true rfl) (Nat.le_of_ble_eq_true rfl) (Nat.le_of_ble_eq_true rfl) ?_
        refine Ev.gi (e_X6_tell  h) (fun r9 m8 h => ?_)
        exact vJ.ireturn dX6_lines_38 rfl rfl rfl ⟨rfl, _, rfl, h⟩
    · replace h := h.1 hc11
      refine vJ.iconst dX6_lines_24 ci_m1 ?_
      exact vJ.ireturn dX6_lines_25 rfl rfl rfl ⟨rfl, _, rfl, h⟩
def EI_X6_lines (l1 : Int32) (l2 : Int32) (m : vM) (P : Int32 → vM → Prop) : Prop := Ev mX6_lines 2 48 197 [.ref 0, .int l1, .int l2] 197 SH m (vPi P)
theorem f_X6_lines {l1 : Int32} {l2 : Int32} {m : vM} {P : Int32 → vM → Prop} (h : J_X6_lines_0 l1 l2 m P) : EI_X6_lines l1 l2 m P := Ev.of pn_X6_lines (Nat.le_of_ble_eq_true rfl) h
theorem e_X6_lines {l1 : Int32} {l2 : Int32} {m : vM} {P : Int32 → vM → Prop}  (h : wp_X6_lines l1 l2 m P) : EI_X6_lines l1 l2 m P := f_X6_lines (b_X6_lines  h)
def J_X6_want_0 (l1 : Int32) (l2 : Int32) (m : vM) (P : Int32 → vM → Prop) : Prop := vJ mX6_want 3 64 197 none 0 [(0, .ref 0), (1, .int l1), (2, .int l2)] [] 197 SH m (vPi P)
def wp_X6_want (l1 : Int32) (l2 : Int32) (m : vM) (P : Int32 → vM → Prop) : Prop :=
  wp_X1_numbered l1 m (fun o12 m1 =>
    ((o12 = none →
      P (-1 : Int32) m1) ∧
    (∀ i2 : Nat, i2 < 40 → o12 = some i2 →
      wp_X6_isWithin l2 (0 : Int32) (1 : Int32) m1 (fun r5 m4 =>
        ((r5 = (0 : Int32) →
          P (-1 : Int32) m4) ∧
        (¬ r5 = (0 : Int32) →
          (((m4.1 (cA i2) 8) = (0 : Int32) →
            wp_X0_wanted i2 l2 m4 (fun r7 m6 =>
              P r7 m6)) ∧
          (¬ (m4.1 (cA i2) 8) = (0 : Int32) →
            wp_X6_tell (1 : Int32) m4 (fun r9 m8 =>
              P r9 m8)))))))))
set_option maxRecDepth 20000 in
set_option maxHeartbeats 4000000 in
theorem b_X6_want {l1 : Int32} {l2 : Int32} {m : vM} {P : Int32 → vM → Prop}  (h : wp_X6_want l1 l2 m P) : J_X6_want_0 l1 l2 m P := by
  show vJ mX6_want 3 64 197 none 0 [(0, .ref 0), (1, .int l1), (2, .int l2)] [] 197 SH m (vPi P)
  unfold wp_X6_want at h
  refine vJ.aload_n dX6_want_0 rfl rfl ?_
  refine vJ.getR (ci := 6) (k := 0) (j := 1) dX6_want_1 sh_0 (Nat.le_of_ble_eq_true rfl) rfl inX6 (Nat.le_of_ble_eq_true rfl) rfl fl_RX6_10 ?_
  refine vJ.iload_n dX6_want_4 rfl rfl ?_
  refine vJ.callV (ci := 1) (Yc := mX1_numbered) (frc := 0) (loc := 0) (as := [.int l1]) dX6_want_5 rfl sh_1 (Nat.le_of_ble_eq_true rfl) rfl ml_RX6_98 im_yX1_numbered se_yX1_numbered co_X1_numbered in_TableSetter_Grid pl_X1_numbered (Nat.le_of_ble_eq_true rfl) (Nat.le_of_ble_eq_true rfl) (Nat.le_of_ble_eq_true rfl) ?_
  refine Ev.gc (e_X1_numbered  h) (fun m1 h => ?_) (fun i2 m1 hi3 h => ?_)
  · replace h := h.1 rfl
    refine vJ.astore_nN (ls2 := [(0, .ref 0), (1, .int l1), (2, .int l2), (3, .null)]) dX6_want_8 rfl (Nat.le_of_ble_eq_true rfl) rfl ?_
    refine vJ.aload_nN dX6_want_9 rfl rfl ?_
    refine vJ.ifnullN (tgt := 22) dX6_want_10 (by decide) ?_
    refine vJ.iconst dX6_want_22 ci_m1 ?_
    exact vJ.ireturn dX6_want_23 rfl rfl rfl ⟨rfl, _, rfl, h⟩
  · replace h := h.2 i2 hi3 rfl
    refine vJ.astore_n (ls2 := [(0, .ref 0), (1, .int l1), (2, .int l2), (3, .ref (cA i2))]) dX6_want_8 rfl (Nat.le_of_ble_eq_true rfl) rfl ?_
    refine vJ.aload_n dX6_want_9 rfl rfl ?_
    refine vJ.ifnull dX6_want_10 ?_
    refine vJ.iload_n dX6_want_13 rfl rfl ?_
    refine vJ.iconst dX6_want_14 ci_0 ?_
    refine vJ.iconst dX6_want_15 ci_1 ?_
    refine vJ.callS (Yc := mX6_isWithin) (frc := 0) (loc := 0) (as := [.int l2, .int (0 : Int32), .int (1 : Int32)]) dX6_want_16 rfl ml_RX6_55 st_yX6_isWithin co_X6_isWithin in_TableSetter pl_X6_isWithin (Nat.le_of_ble_eq_true rfl) (Nat.le_of_ble_eq_true rfl) (Nat.le_of_ble_eq_true rfl) ?_
    refine Ev.gi (e_X6_isWithin  h) (fun r5 m4 h => ?_)
    refine vJ.if_ne (tgt := 24) dX6_want_19 (by decide) (fun hc11 => ?_) (fun hc11 => ?_)
    · replace h := h.2 hc11
      refine vJ.aload_n dX6_want_24 rfl rfl ?_
      refine vJ.getI (ci := 0) (k := 8) dX6_want_25 (sh_C hi3) (lt_C hi3) rfl inX0 (Nat.le_of_ble_eq_true rfl) rfl fl_RX6_102 ?_
      refine vJ.if_eq (tgt := 37) dX6_want_28 (by decide) (fun hc10 => ?_) (fun hc10 => ?_)
      · replace h := h.1 hc10
        refine vJ.aload_n dX6_want_37 rfl rfl ?_
        refine vJ.iload_n dX6_want_38 rfl rfl ?_
        refine vJ.callV (ci := 0) (Yc := mX0_wanted) (frc := 2) (loc := 43) (as := [.int l2]) dX6_want_39 rfl (sh_C hi3) (lt_C hi3) rfl ml_RX6_145 im_yX0_wanted se_yX0_wanted co_X0_wanted in_TableSetter_Cell pl_X0_wanted (Nat.le_of_ble_eq_true rfl) (Nat.le_of_ble_eq_true rfl) (Nat.le_of_ble_eq_true rfl) ?_
        refine Ev.gi (e_X0_wanted hi3 h) (fun r7 m6 h => ?_)
        exact vJ.ireturn dX6_want_42 rfl rfl rfl ⟨rfl, _, rfl, h⟩
      · replace h := h.2 hc10
        refine vJ.aload_n dX6_want_31 rfl rfl ?_
        refine vJ.iconst dX6_want_32 ci_1 ?_
        refine vJ.callV (ci := 6) (Yc := mX6_tell) (frc := 0) (loc := 0) (as := [.int (1 : Int32)]) dX6_want_33 rfl sh_0 (Nat.le_of_ble_eq_true rfl) rfl ml_RX6_86 im_yX6_tell se_yX6_tell co_X6_tell in_TableSetter pl_X6_tell (Nat.le_of_ble_eq_true rfl) (Nat.le_of_ble_eq_true rfl) (Nat.le_of_ble_eq_true rfl) ?_
        refine Ev.gi (e_X6_tell  h) (fun r9 m8 h => ?_)
        exact vJ.ireturn dX6_want_36 rfl rfl rfl ⟨rfl, _, rfl, h⟩
    · replace h := h.1 hc11
      refine vJ.iconst dX6_want_22 ci_m1 ?_
      exact vJ.ireturn dX6_want_23 rfl rfl rfl ⟨rfl, _, rfl, h⟩
def EI_X6_want (l1 : Int32) (l2 : Int32) (m : vM) (P : Int32 → vM → Prop) : Prop := Ev mX6_want 3 64 197 [.ref 0, .int l1, .int l2] 197 SH m (vPi P)
theorem f_X6_want {l1 : Int32} {l2 : Int32} {m : vM} {P : Int32 → vM → Prop} (h : J_X6_want_0 l1 l2 m P) : EI_X6_want l1 l2 m P := Ev.of pn_X6_want (Nat.le_of_ble_eq_true rfl) h
theorem e_X6_want {l1 : Int32} {l2 : Int32} {m : vM} {P : Int32 → vM → Prop}  (h : wp_X6_want l1 l2 m P) : EI_X6_want l1 l2 m P := f_X6_want (b_X6_want  h)
def J_X6_natural_0 (l1 : Int32) (l2 : Int32) (m : vM) (P : Int32 → vM → Prop) : Prop := vJ mX6_natural 5 121 197 none 0 [(0, .ref 0), (1, .int l1), (2, .int l2)] [] 197 SH m (vPi P)
def wp_X6_natural (l1 : Int32) (l2 : Int32) (m : vM) (P : Int32 → vM → Prop) : Prop :=
  wp_X6_isWithin l1 (0 : Int32) ((m.1 1 1) - (1 : Int32)) m (fun r2 m1 =>
    ((r2 = (0 : Int32) →
      P (-1 : Int32) m1) ∧
    (¬ r2 = (0 : Int32) →
      wp_X6_isWithin l2 (0 : Int32) (1 : Int32) m1 (fun r4 m3 =>
        ((r4 = (0 : Int32) →
          P (-1 : Int32) m3) ∧
        (¬ r4 = (0 : Int32) →
          EI_X5_measure m3 (fun m5 =>
            ((l2 = (0 : Int32) →
              vp_in l1 6 ∧
              P (m5.1 131 (Int32.toNatClampNeg l1)) m5) ∧
            (¬ l2 = (0 : Int32) →
              vp_in l1 6 ∧
              P (m5.1 132 (Int32.toNatClampNeg l1)) m5)))))))))
set_option maxRecDepth 20000 in
set_option maxHeartbeats 4000000 in
theorem b_X6_natural {l1 : Int32} {l2 : Int32} {m : vM} {P : Int32 → vM → Prop}  (h : wp_X6_natural l1 l2 m P) : J_X6_natural_0 l1 l2 m P := by
  show vJ mX6_natural 5 121 197 none 0 [(0, .ref 0), (1, .int l1), (2, .int l2)] [] 197 SH m (vPi P)
  unfold wp_X6_natural at h
  refine vJ.iload_n dX6_natural_0 rfl rfl ?_
  refine vJ.iconst dX6_natural_1 ci_0 ?_
  refine vJ.aload_n dX6_natural_2 rfl rfl ?_
  refine vJ.getR (ci := 6) (k := 0) (j := 1) dX6_natural_3 sh_0 (Nat.le_of_ble_eq_true rfl) rfl inX6 (Nat.le_of_ble_eq_true rfl) rfl fl_RX6_10 ?_
  refine vJ.getI (ci := 1) (k := 1) dX6_natural_6 sh_1 (Nat.le_of_ble_eq_true rfl) rfl inX1 (Nat.le_of_ble_eq_true rfl) rfl fl_RX6_67 ?_
  refine vJ.iconst dX6_natural_9 ci_1 ?_
  refine vJ.isub dX6_natural_10 ?_
  refine vJ.callS (Yc := mX6_isWithin) (frc := 0) (loc := 0) (as := [.int l1, .int (0 : Int32), .int ((m.1 1 1) - (1 : Int32))]) dX6_natural_11 rfl ml_RX6_55 st_yX6_isWithin co_X6_isWithin in_TableSetter pl_X6_isWithin (Nat.le_of_ble_eq_true rfl) (Nat.le_of_ble_eq_true rfl) (Nat.le_of_ble_eq_true rfl) ?_
  refine Ev.gi (e_X6_isWithin  h) (fun r2 m1 h => ?_)
  refine vJ.if_eq (tgt := 26) dX6_natural_14 (by decide) (fun hc10 => ?_) (fun hc10 => ?_)
  · replace h := h.1 hc10
    refine vJ.iconst dX6_natural_26 ci_m1 ?_
    exact vJ.ireturn dX6_natural_27 rfl rfl rfl ⟨rfl, _, rfl, h⟩
  · replace h := h.2 hc10
    refine vJ.iload_n dX6_natural_17 rfl rfl ?_
    refine vJ.iconst dX6_natural_18 ci_0 ?_
    refine vJ.iconst dX6_natural_19 ci_1 ?_
    refine vJ.callS (Yc := mX6_isWithin) (frc := 0) (loc := 0) (as := [.int l2, .int (0 : Int32), .int (1 : Int32)]) dX6_natural_20 rfl ml_RX6_55 st_yX6_isWithin co_X6_isWithin in_TableSetter pl_X6_isWithin (Nat.le_of_ble_eq_true rfl) (Nat.le_of_ble_eq_true rfl) (Nat.le_of_ble_eq_true rfl) ?_
    refine Ev.gi (e_X6_isWithin  h) (fun r4 m3 h => ?_)
    refine vJ.if_ne (tgt := 28) dX6_natural_23 (by decide) (fun hc9 => ?_) (fun hc9 => ?_)
    · replace h := h.2 hc9
      refine vJ.aload_n dX6_natural_28 rfl rfl ?_
      refine vJ.getR (ci := 6) (k := 2) (j := 129) dX6_natural_29 sh_0 (Nat.le_of_ble_eq_true rfl) rfl inX6 (Nat.le_of_ble_eq_true rfl) rfl fl_RX6_30 ?_
      refine vJ.callV (ci := 5) (Yc := mX5_measure) (frc := 4) (loc := 100) (as := []) dX6_natural_32 rfl sh_129 (Nat.le_of_ble_eq_true rfl) rfl ml_RX6_148 im_yX5_measure se_yX5_measure co_X5_measure in_TableSetter_Widths pl_X5_measure (Nat.le_of_ble_eq_true rfl) (Nat.le_of_ble_eq_true rfl) (Nat.le_of_ble_eq_true rfl) ?_
      refine Ev.gv h (fun m5 h => ?_)
      refine vJ.iload_n dX6_natural_35 rfl rfl ?_
      refine vJ.if_ne (tgt := 51) dX6_natural_36 (by decide) (fun hc8 => ?_) (fun hc8 => ?_)
      · replace h := h.2 hc8
        refine vJ.aload_n dX6_natural_51 rfl rfl ?_
        refine vJ.getR (ci := 6) (k := 2) (j := 129) dX6_natural_52 sh_0 (Nat.le_of_ble_eq_true rfl) rfl inX6 (Nat.le_of_ble_eq_true rfl) rfl fl_RX6_30 ?_
        refine vJ.getR (ci := 5) (k := 2) (j := 132) dX6_natural_55 sh_129 (Nat.le_of_ble_eq_true rfl) rfl inX5 (Nat.le_of_ble_eq_true rfl) rfl fl_RX6_154 ?_
        refine vJ.iload_n dX6_natural_58 rfl rfl ?_
        obtain ⟨hb6, h⟩ := h
        refine vJ.iald dX6_natural_59 sh_132 (Nat.le_of_ble_eq_true rfl) hb6 ?_
        exact vJ.ireturn dX6_natural_60 rfl rfl rfl ⟨rfl, _, rfl, h⟩
      · replace h := h.1 hc8
        refine vJ.aload_n dX6_natural_39 rfl rfl ?_
        refine vJ.getR (ci := 6) (k := 2) (j := 129) dX6_natural_40 sh_0 (Nat.le_of_ble_eq_true rfl) rfl inX6 (Nat.le_of_ble_eq_true rfl) rfl fl_RX6_30 ?_
        refine vJ.getR (ci := 5) (k := 1) (j := 131) dX6_natural_43 sh_129 (Nat.le_of_ble_eq_true rfl) rfl inX5 (Nat.le_of_ble_eq_true rfl) rfl fl_RX6_151 ?_
        refine vJ.iload_n dX6_natural_46 rfl rfl ?_
        obtain ⟨hb7, h⟩ := h
        refine vJ.iald dX6_natural_47 sh_131 (Nat.le_of_ble_eq_true rfl) hb7 ?_
        refine vJ.goto (tgt := 60) dX6_natural_48 (by decide) ?_
        exact vJ.ireturn dX6_natural_60 rfl rfl rfl ⟨rfl, _, rfl, h⟩
    · replace h := h.1 hc9
      refine vJ.iconst dX6_natural_26 ci_m1 ?_
      exact vJ.ireturn dX6_natural_27 rfl rfl rfl ⟨rfl, _, rfl, h⟩
def EI_X6_natural (l1 : Int32) (l2 : Int32) (m : vM) (P : Int32 → vM → Prop) : Prop := Ev mX6_natural 5 121 197 [.ref 0, .int l1, .int l2] 197 SH m (vPi P)
theorem f_X6_natural {l1 : Int32} {l2 : Int32} {m : vM} {P : Int32 → vM → Prop} (h : J_X6_natural_0 l1 l2 m P) : EI_X6_natural l1 l2 m P := Ev.of pn_X6_natural (Nat.le_of_ble_eq_true rfl) h
theorem e_X6_natural {l1 : Int32} {l2 : Int32} {m : vM} {P : Int32 → vM → Prop}  (h : wp_X6_natural l1 l2 m P) : EI_X6_natural l1 l2 m P := f_X6_natural (b_X6_natural  h)
def J_X6_heightOfTable_0  (m : vM) (P : Int32 → vM → Prop) : Prop := vJ mX6_heightOfTable 3 72 197 none 0 [(0, .ref 0)] [] 197 SH m (vPi P)
def wp_X6_heightOfTable  (m : vM) (P : Int32 → vM → Prop) : Prop :=
  EI_X2_sortCells m (fun m1 =>
    EI_X2_measure 130 6 m1 (fun r3 m2 =>
      P r3 m2))
set_option maxRecDepth 20000 in
set_option maxHeartbeats 4000000 in
theorem b_X6_heightOfTable  {m : vM} {P : Int32 → vM → Prop}  (h : wp_X6_heightOfTable  m P) : J_X6_heightOfTable_0  m P := by
  show vJ mX6_heightOfTable 3 72 197 none 0 [(0, .ref 0)] [] 197 SH m (vPi P)
  unfold wp_X6_heightOfTable at h
  refine vJ.aload_n dX6_heightOfTable_0 rfl rfl ?_
  refine vJ.getR (ci := 6) (k := 1) (j := 125) dX6_heightOfTable_1 sh_0 (Nat.le_of_ble_eq_true rfl) rfl inX6 (Nat.le_of_ble_eq_true rfl) rfl fl_RX6_21 ?_
  refine vJ.callV (ci := 2) (Yc := mX2_sortCells) (frc := 2) (loc := 43) (as := []) dX6_heightOfTable_4 rfl sh_125 (Nat.le_of_ble_eq_true rfl) rfl ml_RX6_220 im_yX2_sortCells se_yX2_sortCells co_X2_sortCells in_TableSetter_Heights pl_X2_sortCells (Nat.le_of_ble_eq_true rfl) (Nat.le_of_ble_eq_true rfl) (Nat.le_of_ble_eq_true rfl) ?_
  refine Ev.gv h (fun m1 h => ?_)
  refine vJ.aload_n dX6_heightOfTable_7 rfl rfl ?_
  refine vJ.getR (ci := 6) (k := 1) (j := 125) dX6_heightOfTable_8 sh_0 (Nat.le_of_ble_eq_true rfl) rfl inX6 (Nat.le_of_ble_eq_true rfl) rfl fl_RX6_21 ?_
  refine vJ.aload_n dX6_heightOfTable_11 rfl rfl ?_
  refine vJ.getR (ci := 6) (k := 2) (j := 129) dX6_heightOfTable_12 sh_0 (Nat.le_of_ble_eq_true rfl) rfl inX6 (Nat.le_of_ble_eq_true rfl) rfl fl_RX6_30 ?_
  refine vJ.getR (ci := 5) (k := 0) (j := 130) dX6_heightOfTable_15 sh_129 (Nat.le_of_ble_eq_true rfl) rfl inX5 (Nat.le_of_ble_eq_true rfl) rfl fl_RX6_173 ?_
  refine vJ.callV (ci := 2) (Yc := mX2_measure) (frc := 2) (loc := 48) (as := [.ref 130]) dX6_heightOfTable_18 rfl sh_125 (Nat.le_of_ble_eq_true rfl) rfl ml_RX6_223 im_yX2_measure se_yX2_measure co_X2_measure in_TableSetter_Heights pl_X2_measure (Nat.le_of_ble_eq_true rfl) (Nat.le_of_ble_eq_true rfl) (Nat.le_of_ble_eq_true rfl) ?_
  refine Ev.gi h (fun r3 m2 h => ?_)
  exact vJ.ireturn dX6_heightOfTable_21 rfl rfl rfl ⟨rfl, _, rfl, h⟩
def EI_X6_heightOfTable  (m : vM) (P : Int32 → vM → Prop) : Prop := Ev mX6_heightOfTable 3 72 197 [.ref 0] 197 SH m (vPi P)
theorem f_X6_heightOfTable  {m : vM} {P : Int32 → vM → Prop} (h : J_X6_heightOfTable_0  m P) : EI_X6_heightOfTable  m P := Ev.of pn_X6_heightOfTable (Nat.le_of_ble_eq_true rfl) h
theorem e_X6_heightOfTable  {m : vM} {P : Int32 → vM → Prop}  (h : wp_X6_heightOfTable  m P) : EI_X6_heightOfTable  m P := f_X6_heightOfTable (b_X6_heightOfTable  h)
def J_X6_set_0 (l1 : Int32) (m : vM) (P : Int32 → vM → Prop) : Prop := vJ mX6_set 5 121 197 none 0 [(0, .ref 0), (1, .int l1)] [] 197 SH m (vPi P)
def wp_X6_set (l1 : Int32) (m : vM) (P : Int32 → vM → Prop) : Prop :=
  wp_X6_isWithin l1 (0 : Int32) (400 : Int32) m (fun r2 m1 =>
    ((r2 = (0 : Int32) →
      P (-1 : Int32) m1) ∧
    (¬ r2 = (0 : Int32) →
      EI_X5_measure m1 (fun m3 =>
        wp_X5_spareOf l1 m3 (fun r5 m4 =>
          (((0 : Int32) ≤ r5 →
            EI_X5_spread r5 m4 (fun m6 =>
              wp_X6_heightOfTable m6 (fun r8 m7 =>
                P r8 m7))) ∧
          (¬ (0 : Int32) ≤ r5 →
            P (-4 : Int32) m4)))))))
set_option maxRecDepth 20000 in
set_option maxHeartbeats 4000000 in
theorem b_X6_set {l1 : Int32} {m : vM} {P : Int32 → vM → Prop}  (h : wp_X6_set l1 m P) : J_X6_set_0 l1 m P := by
  show vJ mX6_set 5 121 197 none 0 [(0, .ref 0), (1, .int l1)] [] 197 SH m (vPi P)
  unfold wp_X6_set at h
  refine vJ.iload_n dX6_set_0 rfl rfl ?_
  refine vJ.iconst dX6_set_1 ci_0 ?_
  refine vJ.sipush dX6_set_2 cs_400 ?_
  refine vJ.callS (Yc := mX6_isWithin) (frc := 0) (loc := 0) (as := [.int l1, .int (0 : Int32), .int (400 : Int32)]) dX6_set_5 rfl ml_RX6_55 st_yX6_isWithin co_X6_isWithin in_TableSetter pl_X6_isWithin (Nat.le_of_ble_eq_true rfl) (Nat.le_of_ble_eq_true rfl) (Nat.le_of_ble_eq_true rfl) ?_
  refine Ev.gi (e_X6_isWithin  h) (fun r2 m1 h => ?_)
  refine vJ.if_ne (tgt := 13) dX6_set_8 (by decide) (fun hc10 => ?_) (fun hc10 => ?_)
  · replace h := h.2 hc10
    refine vJ.aload_n dX6_set_13 rfl rfl ?_
    refine vJ.getR (ci := 6) (k := 2) (j := 129) dX6_set_14 sh_0 (Nat.le_of_ble_eq_true rfl) rfl inX6 (Nat.le_of_ble_eq_true rfl) rfl fl_RX6_30 ?_
    refine vJ.callV (ci := 5) (Yc := mX5_measure) (frc := 4) (loc := 100) (as := []) dX6_set_17 rfl sh_129 (Nat.le_of_ble_eq_true rfl) rfl ml_RX6_148 im_yX5_measure se_yX5_measure co_X5_measure in_TableSetter_Widths pl_X5_measure (Nat.le_of_ble_eq_true rfl) (Nat.le_of_ble_eq_true rfl) (Nat.le_of_ble_eq_true rfl) ?_
    refine Ev.gv h (fun m3 h => ?_)
    refine vJ.aload_n dX6_set_20 rfl rfl ?_
    refine vJ.getR (ci := 6) (k := 2) (j := 129) dX6_set_21 sh_0 (Nat.le_of_ble_eq_true rfl) rfl inX6 (Nat.le_of_ble_eq_true rfl) rfl fl_RX6_30 ?_
    refine vJ.iload_n dX6_set_24 rfl rfl ?_
    refine vJ.callV (ci := 5) (Yc := mX5_spareOf) (frc := 1) (loc := 23) (as := [.int l1]) dX6_set_25 rfl sh_129 (Nat.le_of_ble_eq_true rfl) rfl ml_RX6_157 im_yX5_spareOf se_yX5_spareOf co_X5_spareOf in_TableSetter_Widths pl_X5_spareOf (Nat.le_of_ble_eq_true rfl) (Nat.le_of_ble_eq_true rfl) (Nat.le_of_ble_eq_true rfl) ?_
    refine Ev.gi (e_X5_spareOf  h) (fun r5 m4 h => ?_)
    refine vJ.istore_n (ls2 := [(0, .ref 0), (1, .int l1), (2, .int r5)]) dX6_set_28 rfl (Nat.le_of_ble_eq_true rfl) rfl ?_
    refine vJ.iload_n dX6_set_29 rfl rfl ?_
    refine vJ.if_ge (tgt := 36) dX6_set_30 (by decide) (fun hc9 => ?_) (fun hc9 => ?_)
    · replace h := h.1 hc9
      refine vJ.aload_n dX6_set_36 rfl rfl ?_
      refine vJ.getR (ci := 6) (k := 2) (j := 129) dX6_set_37 sh_0 (Nat.le_of_ble_eq_true rfl) rfl inX6 (Nat.le_of_ble_eq_true rfl) rfl fl_RX6_30 ?_
      refine vJ.iload_n dX6_set_40 rfl rfl ?_
      refine vJ.callV (ci := 5) (Yc := mX5_spread) (frc := 2) (loc := 52) (as := [.int r5]) dX6_set_41 rfl sh_129 (Nat.le_of_ble_eq_true rfl) rfl ml_RX6_160 im_yX5_spread se_yX5_spread co_X5_spread in_TableSetter_Widths pl_X5_spread (Nat.le_of_ble_eq_true rfl) (Nat.le_of_ble_eq_true rfl) (Nat.le_of_ble_eq_true rfl) ?_
      refine Ev.gv h (fun m6 h => ?_)
      refine vJ.aload_n dX6_set_44 rfl rfl ?_
      refine vJ.callV (ci := 6) (Yc := mX6_heightOfTable) (frc := 3) (loc := 72) (as := []) dX6_set_45 rfl sh_0 (Nat.le_of_ble_eq_true rfl) rfl ml_RX6_163 im_yX6_heightOfTable se_yX6_heightOfTable co_X6_heightOfTable in_TableSetter pl_X6_heightOfTable (Nat.le_of_ble_eq_true rfl) (Nat.le_of_ble_eq_true rfl) (Nat.le_of_ble_eq_true rfl) ?_
      refine Ev.gi (e_X6_heightOfTable  h) (fun r8 m7 h => ?_)
      exact vJ.ireturn dX6_set_48 rfl rfl rfl ⟨rfl, _, rfl, h⟩
    · replace h := h.2 hc9
      refine vJ.bipush dX6_set_33 cb_m4 ?_
      exact vJ.ireturn dX6_set_35 rfl rfl rfl ⟨rfl, _, rfl, h⟩
  · replace h := h.1 hc10
    refine vJ.iconst dX6_set_11 ci_m1 ?_
    exact vJ.ireturn dX6_set_12 rfl rfl rfl ⟨rfl, _, rfl, h⟩
def EI_X6_set (l1 : Int32) (m : vM) (P : Int32 → vM → Prop) : Prop := Ev mX6_set 5 121 197 [.ref 0, .int l1] 197 SH m (vPi P)
theorem f_X6_set {l1 : Int32} {m : vM} {P : Int32 → vM → Prop} (h : J_X6_set_0 l1 m P) : EI_X6_set l1 m P := Ev.of pn_X6_set (Nat.le_of_ble_eq_true rfl) h
theorem e_X6_set {l1 : Int32} {m : vM} {P : Int32 → vM → Prop}  (h : wp_X6_set l1 m P) : EI_X6_set l1 m P := f_X6_set (b_X6_set  h)
def J_X6_tight_0 (l1 : Int32) (l2 : Int32) (m : vM) (P : Int32 → vM → Prop) : Prop := vJ mX6_tight 5 121 197 none 0 [(0, .ref 0), (1, .int l1), (2, .int l2)] [] 197 SH m (vPi P)
def wp_X6_tight (l1 : Int32) (l2 : Int32) (m : vM) (P : Int32 → vM → Prop) : Prop :=
  wp_X6_isWithin l1 (0 : Int32) (400 : Int32) m (fun r2 m1 =>
    ((r2 = (0 : Int32) →
      P (-1 : Int32) m1) ∧
    (¬ r2 = (0 : Int32) →
      wp_X6_isWithin l2 (1 : Int32) (20000 : Int32) m1 (fun r4 m3 =>
        ((r4 = (0 : Int32) →
          P (-1 : Int32) m3) ∧
        (¬ r4 = (0 : Int32) →
          EI_X5_measure m3 (fun m5 =>
            wp_X5_spareOf l1 m5 (fun r7 m6 =>
              (((0 : Int32) ≤ r7 →
                EI_X5_waysToSpread r7 m6 (fun r9 m8 =>
                  (((lg_cmp r9 (Int32.toInt64 l2)) ≤ (0 : Int32) →
                    ∀ m10 : vM, m10 = upI m8 0 7 (Int64.toInt32 r9) →
                    EI_X5_tighten r7 (m10.1 0 7) m10 (fun r12 m11 =>
                      P r12 m11)) ∧
                  (¬ (lg_cmp r9 (Int32.toInt64 l2)) ≤ (0 : Int32) →
                    ∀ m13 : vM, m13 = upI m8 0 7 l2 →
                    P (-6 : Int32) m13)))) ∧
              (¬ (0 : Int32) ≤ r7 →
                P (-4 : Int32) m6))))))))))
set_option maxRecDepth 20000 in
set_option maxHeartbeats 4000000 in
theorem b_X6_tight {l1 : Int32} {l2 : Int32} {m : vM} {P : Int32 → vM → Prop}  (h : wp_X6_tight l1 l2 m P) : J_X6_tight_0 l1 l2 m P := by
  show vJ mX6_tight 5 121 197 none 0 [(0, .ref 0), (1, .int l1), (2, .int l2)] [] 197 SH m (vPi P)
  unfold wp_X6_tight at h
  refine vJ.iload_n dX6_tight_0 rfl rfl ?_
  refine vJ.iconst dX6_tight_1 ci_0 ?_
  refine vJ.sipush dX6_tight_2 cs_400 ?_
  refine vJ.callS (Yc := mX6_isWithin) (frc := 0) (loc := 0) (as := [.int l1, .int (0 : Int32), .int (400 : Int32)]) dX6_tight_5 rfl ml_RX6_55 st_yX6_isWithin co_X6_isWithin in_TableSetter pl_X6_isWithin (Nat.le_of_ble_eq_true rfl) (Nat.le_of_ble_eq_true rfl) (Nat.le_of_ble_eq_true rfl) ?_
  refine Ev.gi (e_X6_isWithin  h) (fun r2 m1 h => ?_)
  refine vJ.if_eq (tgt := 22) dX6_tight_8 (by decide) (fun hc17 => ?_) (fun hc17 => ?_)
  · replace h := h.1 hc17
    refine vJ.iconst dX6_tight_22 ci_m1 ?_
    exact vJ.ireturn dX6_tight_23 rfl rfl rfl ⟨rfl, _, rfl, h⟩
  · replace h := h.2 hc17
    refine vJ.iload_n dX6_tight_11 rfl rfl ?_
    refine vJ.iconst dX6_tight_12 ci_1 ?_
    refine vJ.sipush dX6_tight_13 cs_20000 ?_
    refine vJ.callS (Yc := mX6_isWithin) (frc := 0) (loc := 0) (as := [.int l2, .int (1 : Int32), .int (20000 : Int32)]) dX6_tight_16 rfl ml_RX6_55 st_yX6_isWithin co_X6_isWithin in_TableSetter pl_X6_isWithin (Nat.le_of_ble_eq_true rfl) (Nat.le_of_ble_eq_true rfl) (Nat.le_of_ble_eq_true rfl) ?_
    refine Ev.gi (e_X6_isWithin  h) (fun r4 m3 h => ?_)
    refine vJ.if_ne (tgt := 24) dX6_tight_19 (by decide) (fun hc16 => ?_) (fun hc16 => ?_)
    · replace h := h.2 hc16
      refine vJ.aload_n dX6_tight_24 rfl rfl ?_
      refine vJ.getR (ci := 6) (k := 2) (j := 129) dX6_tight_25 sh_0 (Nat.le_of_ble_eq_true rfl) rfl inX6 (Nat.le_of_ble_eq_true rfl) rfl fl_RX6_30 ?_
      refine vJ.callV (ci := 5) (Yc := mX5_measure) (frc := 4) (loc := 100) (as := []) dX6_tight_28 rfl sh_129 (Nat.le_of_ble_eq_true rfl) rfl ml_RX6_148 im_yX5_measure se_yX5_measure co_X5_measure in_TableSetter_Widths pl_X5_measure (Nat.le_of_ble_eq_true rfl) (Nat.le_of_ble_eq_true rfl) (Nat.le_of_ble_eq_true rfl) ?_
      refine Ev.gv h (fun m5 h => ?_)
      refine vJ.aload_n dX6_tight_31 rfl rfl ?_
      refine vJ.getR (ci := 6) (k := 2) (j := 129) dX6_tight_32 sh_0 (Nat.le_of_ble_eq_true rfl) rfl inX6 (Nat.le_of_ble_eq_true rfl) rfl fl_RX6_30 ?_
      refine vJ.iload_n dX6_tight_35 rfl rfl ?_
      refine vJ.callV (ci := 5) (Yc := mX5_spareOf) (frc := 1) (loc := 23) (as := [.int l1]) dX6_tight_36 rfl sh_129 (Nat.le_of_ble_eq_true rfl) rfl ml_RX6_157 im_yX5_spareOf se_yX5_spareOf co_X5_spareOf in_TableSetter_Widths pl_X5_spareOf (Nat.le_of_ble_eq_true rfl) (Nat.le_of_ble_eq_true rfl) (Nat.le_of_ble_eq_true rfl) ?_
      refine Ev.gi (e_X5_spareOf  h) (fun r7 m6 h => ?_)
      refine vJ.istore_n (ls2 := [(0, .ref 0), (1, .int l1), (2, .int l2), (3, .int r7)]) dX6_tight_39 rfl (Nat.le_of_ble_eq_true rfl) rfl ?_
      refine vJ.iload_n dX6_tight_40 rfl rfl ?_
      refine vJ.if_ge (tgt := 47) dX6_tight_41 (by decide) (fun hc15 => ?_) (fun hc15 => ?_)
      · replace h := h.1 hc15
        refine vJ.aload_n dX6_tight_47 rfl rfl ?_
        refine vJ.getR (ci := 6) (k := 2) (j := 129) dX6_tight_48 sh_0 (Nat.le_of_ble_eq_true rfl) rfl inX6 (Nat.le_of_ble_eq_true rfl) rfl fl_RX6_30 ?_
        refine vJ.iload_n dX6_tight_51 rfl rfl ?_
        refine vJ.callV (ci := 5) (Yc := mX5_waysToSpread) (frc := 0) (loc := 0) (as := [.int r7]) dX6_tight_52 rfl sh_129 (Nat.le_of_ble_eq_true rfl) rfl ml_RX6_166 im_yX5_waysToSpread se_yX5_waysToSpread co_X5_waysToSpread in_TableSetter_Widths pl_X5_waysToSpread (Nat.le_of_ble_eq_true rfl) (Nat.le_of_ble_eq_true rfl) (Nat.le_of_ble_eq_true rfl) ?_
        refine Ev.gl h (fun r9 m8 h => ?_)
        refine vJ.lstore (ls2 := [(0, .ref 0), (1, .int l1), (2, .int l2), (3, .int r7), (4, .long r9)]) dX6_tight_55 (Nat.le_of_ble_eq_true rfl) rfl ?_
        refine vJ.lload dX6_tight_57 rfl ?_
        refine vJ.iload_n dX6_tight_59 rfl rfl ?_
        refine vJ.i2l dX6_tight_60 ?_
        refine vJ.lcmp dX6_tight_61 ?_
        refine vJ.if_le (tgt := 73) dX6_tight_62 (by decide) (fun hc14 => ?_) (fun hc14 => ?_)
        · replace h := h.1 hc14
          refine vJ.aload_n dX6_tight_73 rfl rfl ?_
          refine vJ.lload dX6_tight_74 rfl ?_
          refine vJ.l2i dX6_tight_76 ?_
          refine vJ.putI (ci := 6) (k := 7) dX6_tight_77 sh_0 (Nat.le_of_ble_eq_true rfl) rfl inX6 tyX6 tyX6_ok nmX6 (Nat.le_of_ble_eq_true rfl) rfl rfl fl_RX6_52 rfl rfl ?_
          refine vJ.topm (fun m10 em10 => ?_)
          replace h := h m10 em10
          refine vJ.aload_n dX6_tight_80 rfl rfl ?_
          refine vJ.getR (ci := 6) (k := 2) (j := 129) dX6_tight_81 sh_0 (Nat.le_of_ble_eq_true rfl) rfl inX6 (Nat.le_of_ble_eq_true rfl) rfl fl_RX6_30 ?_
          refine vJ.iload_n dX6_tight_84 rfl rfl ?_
          refine vJ.aload_n dX6_tight_85 rfl rfl ?_
          refine vJ.getI (ci := 6) (k := 7) dX6_tight_86 sh_0 (Nat.le_of_ble_eq_true rfl) rfl inX6 (Nat.le_of_ble_eq_true rfl) rfl fl_RX6_52 ?_
          refine vJ.callV (ci := 5) (Yc := mX5_tighten) (frc := 3) (loc := 72) (as := [.int r7, .int (m10.1 0 7)]) dX6_tight_89 rfl sh_129 (Nat.le_of_ble_eq_true rfl) rfl ml_RX6_170 im_yX5_tighten se_yX5_tighten co_X5_tighten in_TableSetter_Widths pl_X5_tighten (Nat.le_of_ble_eq_true rfl) (Nat.le_of_ble_eq_true rfl) (Nat.le_of_ble_eq_true rfl) ?_
          refine Ev.gi h (fun r12 m11 h => ?_)
          exact vJ.ireturn dX6_tight_92 rfl rfl rfl ⟨rfl, _, rfl, h⟩
        · replace h := h.2 hc14
          refine vJ.aload_n dX6_tight_65 rfl rfl ?_
          refine vJ.iload_n dX6_tight_66 rfl rfl ?_
          refine vJ.putI (ci := 6) (k := 7) dX6_tight_67 sh_0 (Nat.le_of_ble_eq_true rfl) rfl inX6 tyX6 tyX6_ok nmX6 (Nat.le_of_ble_eq_true rfl) rfl rfl fl_RX6_52 rfl rfl ?_
          refine vJ.topm (fun m13 em13 => ?_)
          replace h := h m13 em13
          refine vJ.bipush dX6_tight_70 cb_m6 ?_
          exact vJ.ireturn dX6_tight_72 rfl rfl rfl ⟨rfl, _, rfl, h⟩
      · replace h := h.2 hc15
        refine vJ.bipush dX6_tight_44 cb_m4 ?_
        exact vJ.ireturn dX6_tight_46 rfl rfl rfl ⟨rfl, _, rfl, h⟩
    · replace h := h.1 hc16
      refine vJ.iconst dX6_tight_22 ci_m1 ?_
      exact vJ.ireturn dX6_tight_23 rfl rfl rfl ⟨rfl, _, rfl, h⟩
def EI_X6_tight (l1 : Int32) (l2 : Int32) (m : vM) (P : Int32 → vM → Prop) : Prop := Ev mX6_tight 5 121 197 [.ref 0, .int l1, .int l2] 197 SH m (vPi P)
theorem f_X6_tight {l1 : Int32} {l2 : Int32} {m : vM} {P : Int32 → vM → Prop} (h : J_X6_tight_0 l1 l2 m P) : EI_X6_tight l1 l2 m P := Ev.of pn_X6_tight (Nat.le_of_ble_eq_true rfl) h
theorem e_X6_tight {l1 : Int32} {l2 : Int32} {m : vM} {P : Int32 → vM → Prop}  (h : wp_X6_tight l1 l2 m P) : EI_X6_tight l1 l2 m P := f_X6_tight (b_X6_tight  h)
def J_X6_tries_0  (m : vM) (P : Int32 → vM → Prop) : Prop := vJ mX6_tries 0 0 197 none 0 [(0, .ref 0)] [] 197 SH m (vPi P)
def wp_X6_tries  (m : vM) (P : Int32 → vM → Prop) : Prop :=
  P (m.1 0 7) m
set_option maxRecDepth 20000 in
set_option maxHeartbeats 4000000 in
theorem b_X6_tries  {m : vM} {P : Int32 → vM → Prop}  (h : wp_X6_tries  m P) : J_X6_tries_0  m P := by
  show vJ mX6_tries 0 0 197 none 0 [(0, .ref 0)] [] 197 SH m (vPi P)
  unfold wp_X6_tries at h
  refine vJ.aload_n dX6_tries_0 rfl rfl ?_
  refine vJ.getI (ci := 6) (k := 7) dX6_tries_1 sh_0 (Nat.le_of_ble_eq_true rfl) rfl inX6 (Nat.le_of_ble_eq_true rfl) rfl fl_RX6_52 ?_
  exact vJ.ireturn dX6_tries_4 rfl rfl rfl ⟨rfl, _, rfl, h⟩
def EI_X6_tries  (m : vM) (P : Int32 → vM → Prop) : Prop := Ev mX6_tries 0 0 197 [.ref 0] 197 SH m (vPi P)
theorem f_X6_tries  {m : vM} {P : Int32 → vM → Prop} (h : J_X6_tries_0  m P) : EI_X6_tries  m P := Ev.of pn_X6_tries (Nat.le_of_ble_eq_true rfl) h
theorem e_X6_tries  {m : vM} {P : Int32 → vM → Prop}  (h : wp_X6_tries  m P) : EI_X6_tries  m P := f_X6_tries (b_X6_tries  h)
def J_X6_width_0 (l1 : Int32) (m : vM) (P : Int32 → vM → Prop) : Prop := vJ mX6_width 1 22 197 none 0 [(0, .ref 0), (1, .int l1)] [] 197 SH m (vPi P)
def wp_X6_width (l1 : Int32) (m : vM) (P : Int32 → vM → Prop) : Prop :=
  wp_X6_isWithin l1 (0 : Int32) ((m.1 1 1) - (1 : Int32)) m (fun r2 m1 =>
    ((r2 = (0 : Int32) →
      P (-1 : Int32) m1) ∧
    (¬ r2 = (0 : Int32) →
      vp_in l1 6 ∧
      P (m1.1 130 (Int32.toNatClampNeg l1)) m1)))
set_option maxRecDepth 20000 in
set_option maxHeartbeats 4000000 in
theorem b_X6_width {l1 : Int32} {m : vM} {P : Int32 → vM → Prop}  (h : wp_X6_width l1 m P) : J_X6_width_0 l1 m P := by
  show vJ mX6_width 1 22 197 none 0 [(0, .ref 0), (1, .int l1)] [] 197 SH m (vPi P)
  unfold wp_X6_width at h
  refine vJ.iload_n dX6_width_0 rfl rfl ?_
  refine vJ.iconst dX6_width_1 ci_0 ?_
  refine vJ.aload_n dX6_width_2 rfl rfl ?_
  refine vJ.getR (ci := 6) (k := 0) (j := 1) dX6_width_3 sh_0 (Nat.le_of_ble_eq_true rfl) rfl inX6 (Nat.le_of_ble_eq_true rfl) rfl fl_RX6_10 ?_
  refine vJ.getI (ci := 1) (k := 1) dX6_width_6 sh_1 (Nat.le_of_ble_eq_true rfl) rfl inX1 (Nat.le_of_ble_eq_true rfl) rfl fl_RX6_67 ?_
  refine vJ.iconst dX6_width_9 ci_1 ?_
  refine vJ.isub dX6_width_10 ?_
  refine vJ.callS (Yc := mX6_isWithin) (frc := 0) (loc := 0) (as := [.int l1, .int (0 : Int32), .int ((m.1 1 1) - (1 : Int32))]) dX6_width_11 rfl ml_RX6_55 st_yX6_isWithin co_X6_isWithin in_TableSetter pl_X6_isWithin (Nat.le_of_ble_eq_true rfl) (Nat.le_of_ble_eq_true rfl) (Nat.le_of_ble_eq_true rfl) ?_
  refine Ev.gi (e_X6_isWithin  h) (fun r2 m1 h => ?_)
  refine vJ.if_ne (tgt := 19) dX6_width_14 (by decide) (fun hc4 => ?_) (fun hc4 => ?_)
  · replace h := h.2 hc4
    refine vJ.aload_n dX6_width_19 rfl rfl ?_
    refine vJ.getR (ci := 6) (k := 2) (j := 129) dX6_width_20 sh_0 (Nat.le_of_ble_eq_true rfl) rfl inX6 (Nat.le_of_ble_eq_true rfl) rfl fl_RX6_30 ?_
    refine vJ.getR (ci := 5) (k := 0) (j := 130) dX6_width_23 sh_129 (Nat.le_of_ble_eq_true rfl) rfl inX5 (Nat.le_of_ble_eq_true rfl) rfl fl_RX6_173 ?_
    refine vJ.iload_n dX6_width_26 rfl rfl ?_
    obtain ⟨hb3, h⟩ := h
    refine vJ.iald dX6_width_27 sh_130 (Nat.le_of_ble_eq_true rfl) hb3 ?_
    exact vJ.ireturn dX6_width_28 rfl rfl rfl ⟨rfl, _, rfl, h⟩
  · replace h := h.1 hc4
    refine vJ.iconst dX6_width_17 ci_m1 ?_
    exact vJ.ireturn dX6_width_18 rfl rfl rfl ⟨rfl, _, rfl, h⟩
def EI_X6_width (l1 : Int32) (m : vM) (P : Int32 → vM → Prop) : Prop := Ev mX6_width 1 22 197 [.ref 0, .int l1] 197 SH m (vPi P)
theorem f_X6_width {l1 : Int32} {m : vM} {P : Int32 → vM → Prop} (h : J_X6_width_0 l1 m P) : EI_X6_width l1 m P := Ev.of pn_X6_width (Nat.le_of_ble_eq_true rfl) h
theorem e_X6_width {l1 : Int32} {m : vM} {P : Int32 → vM → Prop}  (h : wp_X6_width l1 m P) : EI_X6_width l1 m P := f_X6_width (b_X6_width  h)
def J_X6_height_0 (l1 : Int32) (m : vM) (P : Int32 → vM → Prop) : Prop := vJ mX6_height 4 92 197 none 0 [(0, .ref 0), (1, .int l1)] [] 197 SH m (vPi P)
def wp_X6_height (l1 : Int32) (m : vM) (P : Int32 → vM → Prop) : Prop :=
  wp_X6_isWithin l1 (0 : Int32) ((m.1 1 0) - (1 : Int32)) m (fun r2 m1 =>
    ((r2 = (0 : Int32) →
      P (-1 : Int32) m1) ∧
    (¬ r2 = (0 : Int32) →
      wp_X6_heightOfTable m1 (fun r4 m3 =>
        vp_in l1 16 ∧
        P (m3.1 126 (Int32.toNatClampNeg l1)) m3))))
set_option maxRecDepth 20000 in
set_option maxHeartbeats 4000000 in
theorem b_X6_height {l1 : Int32} {m : vM} {P : Int32 → vM → Prop}  (h : wp_X6_height l1 m P) : J_X6_height_0 l1 m P := by
  show vJ mX6_height 4 92 197 none 0 [(0, .ref 0), (1, .int l1)] [] 197 SH m (vPi P)
  unfold wp_X6_height at h
  refine vJ.iload_n dX6_height_0 rfl rfl ?_
  refine vJ.iconst dX6_height_1 ci_0 ?_
  refine vJ.aload_n dX6_height_2 rfl rfl ?_
  refine vJ.getR (ci := 6) (k := 0) (j := 1) dX6_height_3 sh_0 (Nat.le_of_ble_eq_true rfl) rfl inX6 (Nat.le_of_ble_eq_true rfl) rfl fl_RX6_10 ?_
  refine vJ.getI (ci := 1) (k := 0) dX6_height_6 sh_1 (Nat.le_of_ble_eq_true rfl) rfl inX1 (Nat.le_of_ble_eq_true rfl) rfl fl_RX6_83 ?_
  refine vJ.iconst dX6_height_9 ci_1 ?_
  refine vJ.isub dX6_height_10 ?_
  refine vJ.callS (Yc := mX6_isWithin) (frc := 0) (loc := 0) (as := [.int l1, .int (0 : Int32), .int ((m.1 1 0) - (1 : Int32))]) dX6_height_11 rfl ml_RX6_55 st_yX6_isWithin co_X6_isWithin in_TableSetter pl_X6_isWithin (Nat.le_of_ble_eq_true rfl) (Nat.le_of_ble_eq_true rfl) (Nat.le_of_ble_eq_true rfl) ?_
  refine Ev.gi (e_X6_isWithin  h) (fun r2 m1 h => ?_)
  refine vJ.if_ne (tgt := 19) dX6_height_14 (by decide) (fun hc6 => ?_) (fun hc6 => ?_)
  · replace h := h.2 hc6
    refine vJ.aload_n dX6_height_19 rfl rfl ?_
    refine vJ.callV (ci := 6) (Yc := mX6_heightOfTable) (frc := 3) (loc := 72) (as := []) dX6_height_20 rfl sh_0 (Nat.le_of_ble_eq_true rfl) rfl ml_RX6_163 im_yX6_heightOfTable se_yX6_heightOfTable co_X6_heightOfTable in_TableSetter pl_X6_heightOfTable (Nat.le_of_ble_eq_true rfl) (Nat.le_of_ble_eq_true rfl) (Nat.le_of_ble_eq_true rfl) ?_
    refine Ev.gi (e_X6_heightOfTable  h) (fun r4 m3 h => ?_)
    refine vJ.pop dX6_height_23 rfl ?_
    refine vJ.aload_n dX6_height_24 rfl rfl ?_
    refine vJ.getR (ci := 6) (k := 1) (j := 125) dX6_height_25 sh_0 (Nat.le_of_ble_eq_true rfl) rfl inX6 (Nat.le_of_ble_eq_true rfl) rfl fl_RX6_21 ?_
    refine vJ.getR (ci := 2) (k := 0) (j := 126) dX6_height_28 sh_125 (Nat.le_of_ble_eq_true rfl) rfl inX2 (Nat.le_of_ble_eq_true rfl) rfl fl_RX6_176 ?_
    refine vJ.iload_n dX6_height_31 rfl rfl ?_
    obtain ⟨hb5, h⟩ := h
    refine vJ.iald dX6_height_32 sh_126 (Nat.le_of_ble_eq_true rfl) hb5 ?_
    exact vJ.ireturn dX6_height_33 rfl rfl rfl ⟨rfl, _, rfl, h⟩
  · replace h := h.1 hc6
    refine vJ.iconst dX6_height_17 ci_m1 ?_
    exact vJ.ireturn dX6_height_18 rfl rfl rfl ⟨rfl, _, rfl, h⟩
def EI_X6_height (l1 : Int32) (m : vM) (P : Int32 → vM → Prop) : Prop := Ev mX6_height 4 92 197 [.ref 0, .int l1] 197 SH m (vPi P)
theorem f_X6_height {l1 : Int32} {m : vM} {P : Int32 → vM → Prop} (h : J_X6_height_0 l1 m P) : EI_X6_height l1 m P := Ev.of pn_X6_height (Nat.le_of_ble_eq_true rfl) h
theorem e_X6_height {l1 : Int32} {m : vM} {P : Int32 → vM → Prop}  (h : wp_X6_height l1 m P) : EI_X6_height l1 m P := f_X6_height (b_X6_height  h)
def J_X6_pages_0 (l1 : Int32) (m : vM) (P : Int32 → vM → Prop) : Prop := vJ mX6_pages 5 112 197 none 0 [(0, .ref 0), (1, .int l1)] [] 197 SH m (vPi P)
def wp_X6_pages (l1 : Int32) (m : vM) (P : Int32 → vM → Prop) : Prop :=
  wp_X6_isWithin l1 (1 : Int32) (200 : Int32) m (fun r2 m1 =>
    ((r2 = (0 : Int32) →
      P (-1 : Int32) m1) ∧
    (¬ r2 = (0 : Int32) →
      wp_X6_heightOfTable m1 (fun r4 m3 =>
        EI_X3_make l1 m3 (fun r6 m5 =>
          P r6 m5)))))
set_option maxRecDepth 20000 in
set_option maxHeartbeats 4000000 in
theorem b_X6_pages {l1 : Int32} {m : vM} {P : Int32 → vM → Prop}  (h : wp_X6_pages l1 m P) : J_X6_pages_0 l1 m P := by
  show vJ mX6_pages 5 112 197 none 0 [(0, .ref 0), (1, .int l1)] [] 197 SH m (vPi P)
  unfold wp_X6_pages at h
  refine vJ.iload_n dX6_pages_0 rfl rfl ?_
  refine vJ.iconst dX6_pages_1 ci_1 ?_
  refine vJ.sipush dX6_pages_2 cs_200 ?_
  refine vJ.callS (Yc := mX6_isWithin) (frc := 0) (loc := 0) (as := [.int l1, .int (1 : Int32), .int (200 : Int32)]) dX6_pages_5 rfl ml_RX6_55 st_yX6_isWithin co_X6_isWithin in_TableSetter pl_X6_isWithin (Nat.le_of_ble_eq_true rfl) (Nat.le_of_ble_eq_true rfl) (Nat.le_of_ble_eq_true rfl) ?_
  refine Ev.gi (e_X6_isWithin  h) (fun r2 m1 h => ?_)
  refine vJ.if_ne (tgt := 13) dX6_pages_8 (by decide) (fun hc7 => ?_) (fun hc7 => ?_)
  · replace h := h.2 hc7
    refine vJ.aload_n dX6_pages_13 rfl rfl ?_
    refine vJ.callV (ci := 6) (Yc := mX6_heightOfTable) (frc := 3) (loc := 72) (as := []) dX6_pages_14 rfl sh_0 (Nat.le_of_ble_eq_true rfl) rfl ml_RX6_163 im_yX6_heightOfTable se_yX6_heightOfTable co_X6_heightOfTable in_TableSetter pl_X6_heightOfTable (Nat.le_of_ble_eq_true rfl) (Nat.le_of_ble_eq_true rfl) (Nat.le_of_ble_eq_true rfl) ?_
    refine Ev.gi (e_X6_heightOfTable  h) (fun r4 m3 h => ?_)
    refine vJ.pop dX6_pages_17 rfl ?_
    refine vJ.aload_n dX6_pages_18 rfl rfl ?_
    refine vJ.getR (ci := 6) (k := 3) (j := 139) dX6_pages_19 sh_0 (Nat.le_of_ble_eq_true rfl) rfl inX6 (Nat.le_of_ble_eq_true rfl) rfl fl_RX6_37 ?_
    refine vJ.iload_n dX6_pages_22 rfl rfl ?_
    refine vJ.callV (ci := 3) (Yc := mX3_make) (frc := 4) (loc := 90) (as := [.int l1]) dX6_pages_23 rfl sh_139 (Nat.le_of_ble_eq_true rfl) rfl ml_RX6_177 im_yX3_make se_yX3_make co_X3_make in_TableSetter_Pager pl_X3_make (Nat.le_of_ble_eq_true rfl) (Nat.le_of_ble_eq_true rfl) (Nat.le_of_ble_eq_true rfl) ?_
    refine Ev.gi h (fun r6 m5 h => ?_)
    exact vJ.ireturn dX6_pages_26 rfl rfl rfl ⟨rfl, _, rfl, h⟩
  · replace h := h.1 hc7
    refine vJ.iconst dX6_pages_11 ci_m1 ?_
    exact vJ.ireturn dX6_pages_12 rfl rfl rfl ⟨rfl, _, rfl, h⟩
def EI_X6_pages (l1 : Int32) (m : vM) (P : Int32 → vM → Prop) : Prop := Ev mX6_pages 5 112 197 [.ref 0, .int l1] 197 SH m (vPi P)
theorem f_X6_pages {l1 : Int32} {m : vM} {P : Int32 → vM → Prop} (h : J_X6_pages_0 l1 m P) : EI_X6_pages l1 m P := Ev.of pn_X6_pages (Nat.le_of_ble_eq_true rfl) h
theorem e_X6_pages {l1 : Int32} {m : vM} {P : Int32 → vM → Prop}  (h : wp_X6_pages l1 m P) : EI_X6_pages l1 m P := f_X6_pages (b_X6_pages  h)
def J_X6_page_0 (l1 : Int32) (l2 : Int32) (m : vM) (P : Int32 → vM → Prop) : Prop := vJ mX6_page 1 22 197 none 0 [(0, .ref 0), (1, .int l1), (2, .int l2)] [] 197 SH m (vPi P)
def wp_X6_page (l1 : Int32) (l2 : Int32) (m : vM) (P : Int32 → vM → Prop) : Prop :=
  wp_X6_isWithin l2 (0 : Int32) (3 : Int32) m (fun r2 m1 =>
    ((r2 = (0 : Int32) →
      P (-1 : Int32) m1) ∧
    (¬ r2 = (0 : Int32) →
      wp_X6_isWithin l1 (0 : Int32) ((m1.1 139 0) - (1 : Int32)) m1 (fun r4 m3 =>
        ((r4 = (0 : Int32) →
          P (-9 : Int32) m3) ∧
        (¬ r4 = (0 : Int32) →
          vp_in l1 16 ∧
          vp_in l2 4 ∧
          P (m3.1 (141 + (Int32.toNatClampNeg l1)) (Int32.toNatClampNeg l2)) m3))))))
set_option maxRecDepth 20000 in
set_option maxHeartbeats 4000000 in
theorem b_X6_page {l1 : Int32} {l2 : Int32} {m : vM} {P : Int32 → vM → Prop}  (h : wp_X6_page l1 l2 m P) : J_X6_page_0 l1 l2 m P := by
  show vJ mX6_page 1 22 197 none 0 [(0, .ref 0), (1, .int l1), (2, .int l2)] [] 197 SH m (vPi P)
  unfold wp_X6_page at h
  refine vJ.iload_n dX6_page_0 rfl rfl ?_
  refine vJ.iconst dX6_page_1 ci_0 ?_
  refine vJ.iconst dX6_page_2 ci_3 ?_
  refine vJ.callS (Yc := mX6_isWithin) (frc := 0) (loc := 0) (as := [.int l2, .int (0 : Int32), .int (3 : Int32)]) dX6_page_3 rfl ml_RX6_55 st_yX6_isWithin co_X6_isWithin in_TableSetter pl_X6_isWithin (Nat.le_of_ble_eq_true rfl) (Nat.le_of_ble_eq_true rfl) (Nat.le_of_ble_eq_true rfl) ?_
  refine Ev.gi (e_X6_isWithin  h) (fun r2 m1 h => ?_)
  refine vJ.if_ne (tgt := 11) dX6_page_6 (by decide) (fun hc9 => ?_) (fun hc9 => ?_)
  · replace h := h.2 hc9
    refine vJ.iload_n dX6_page_11 rfl rfl ?_
    refine vJ.iconst dX6_page_12 ci_0 ?_
    refine vJ.aload_n dX6_page_13 rfl rfl ?_
    refine vJ.getR (ci := 6) (k := 3) (j := 139) dX6_page_14 sh_0 (Nat.le_of_ble_eq_true rfl) rfl inX6 (Nat.le_of_ble_eq_true rfl) rfl fl_RX6_37 ?_
    refine vJ.getI (ci := 3) (k := 0) dX6_page_17 sh_139 (Nat.le_of_ble_eq_true rfl) rfl inX3 (Nat.le_of_ble_eq_true rfl) rfl fl_RX6_180 ?_
    refine vJ.iconst dX6_page_20 ci_1 ?_
    refine vJ.isub dX6_page_21 ?_
    refine vJ.callS (Yc := mX6_isWithin) (frc := 0) (loc := 0) (as := [.int l1, .int (0 : Int32), .int ((m1.1 139 0) - (1 : Int32))]) dX6_page_22 rfl ml_RX6_55 st_yX6_isWithin co_X6_isWithin in_TableSetter pl_X6_isWithin (Nat.le_of_ble_eq_true rfl) (Nat.le_of_ble_eq_true rfl) (Nat.le_of_ble_eq_true rfl) ?_
    refine Ev.gi (e_X6_isWithin  h) (fun r4 m3 h => ?_)
    refine vJ.if_eq (tgt := 42) dX6_page_25 (by decide) (fun hc8 => ?_) (fun hc8 => ?_)
    · replace h := h.1 hc8
      refine vJ.bipush dX6_page_42 cb_m9 ?_
      exact vJ.ireturn dX6_page_44 rfl rfl rfl ⟨rfl, _, rfl, h⟩
    · replace h := h.2 hc8
      refine vJ.aload_n dX6_page_28 rfl rfl ?_
      refine vJ.getR (ci := 6) (k := 3) (j := 139) dX6_page_29 sh_0 (Nat.le_of_ble_eq_true rfl) rfl inX6 (Nat.le_of_ble_eq_true rfl) rfl fl_RX6_37 ?_
      refine vJ.getR (ci := 3) (k := 1) (j := 140) dX6_page_32 sh_139 (Nat.le_of_ble_eq_true rfl) rfl inX3 (Nat.le_of_ble_eq_true rfl) rfl fl_RX6_183 ?_
      refine vJ.iload_n dX6_page_35 rfl rfl ?_
      obtain ⟨hb5, h⟩ := h
      have hi6 := vp_lt hb5
      refine vJ.aald5 dX6_page_36 sh_140 (Nat.le_of_ble_eq_true rfl) hb5 (cs140_at hi6) ?_
      refine vJ.iload_n dX6_page_37 rfl rfl ?_
      obtain ⟨hb7, h⟩ := h
      refine vJ.iald dX6_page_38 (sh_F hi6) (lt_F hi6) hb7 ?_
      refine vJ.goto (tgt := 44) dX6_page_39 (by decide) ?_
      exact vJ.ireturn dX6_page_44 rfl rfl rfl ⟨rfl, _, rfl, h⟩
  · replace h := h.1 hc9
    refine vJ.iconst dX6_page_9 ci_m1 ?_
    exact vJ.ireturn dX6_page_10 rfl rfl rfl ⟨rfl, _, rfl, h⟩
def EI_X6_page (l1 : Int32) (l2 : Int32) (m : vM) (P : Int32 → vM → Prop) : Prop := Ev mX6_page 1 22 197 [.ref 0, .int l1, .int l2] 197 SH m (vPi P)
theorem f_X6_page {l1 : Int32} {l2 : Int32} {m : vM} {P : Int32 → vM → Prop} (h : J_X6_page_0 l1 l2 m P) : EI_X6_page l1 l2 m P := Ev.of pn_X6_page (Nat.le_of_ble_eq_true rfl) h
theorem e_X6_page {l1 : Int32} {l2 : Int32} {m : vM} {P : Int32 → vM → Prop}  (h : wp_X6_page l1 l2 m P) : EI_X6_page l1 l2 m P := f_X6_page (b_X6_page  h)
def J_X6_pageOf_0 (l1 : Int32) (m : vM) (P : Int32 → vM → Prop) : Prop := vJ mX6_pageOf 1 22 197 none 0 [(0, .ref 0), (1, .int l1)] [] 197 SH m (vPi P)
def wp_X6_pageOf (l1 : Int32) (m : vM) (P : Int32 → vM → Prop) : Prop :=
  wp_X6_isWithin l1 (0 : Int32) ((m.1 1 0) - (1 : Int32)) m (fun r2 m1 =>
    ((r2 = (0 : Int32) →
      P (-1 : Int32) m1) ∧
    (¬ r2 = (0 : Int32) →
      EI_X3_holding l1 m1 (fun r4 m3 =>
        P r4 m3))))
set_option maxRecDepth 20000 in
set_option maxHeartbeats 4000000 in
theorem b_X6_pageOf {l1 : Int32} {m : vM} {P : Int32 → vM → Prop}  (h : wp_X6_pageOf l1 m P) : J_X6_pageOf_0 l1 m P := by
  show vJ mX6_pageOf 1 22 197 none 0 [(0, .ref 0), (1, .int l1)] [] 197 SH m (vPi P)
  unfold wp_X6_pageOf at h
  refine vJ.iload_n dX6_pageOf_0 rfl rfl ?_
  refine vJ.iconst dX6_pageOf_1 ci_0 ?_
  refine vJ.aload_n dX6_pageOf_2 rfl rfl ?_
  refine vJ.getR (ci := 6) (k := 0) (j := 1) dX6_pageOf_3 sh_0 (Nat.le_of_ble_eq_true rfl) rfl inX6 (Nat.le_of_ble_eq_true rfl) rfl fl_RX6_10 ?_
  refine vJ.getI (ci := 1) (k := 0) dX6_pageOf_6 sh_1 (Nat.le_of_ble_eq_true rfl) rfl inX1 (Nat.le_of_ble_eq_true rfl) rfl fl_RX6_83 ?_
  refine vJ.iconst dX6_pageOf_9 ci_1 ?_
  refine vJ.isub dX6_pageOf_10 ?_
  refine vJ.callS (Yc := mX6_isWithin) (frc := 0) (loc := 0) (as := [.int l1, .int (0 : Int32), .int ((m.1 1 0) - (1 : Int32))]) dX6_pageOf_11 rfl ml_RX6_55 st_yX6_isWithin co_X6_isWithin in_TableSetter pl_X6_isWithin (Nat.le_of_ble_eq_true rfl) (Nat.le_of_ble_eq_true rfl) (Nat.le_of_ble_eq_true rfl) ?_
  refine Ev.gi (e_X6_isWithin  h) (fun r2 m1 h => ?_)
  refine vJ.if_ne (tgt := 19) dX6_pageOf_14 (by decide) (fun hc5 => ?_) (fun hc5 => ?_)
  · replace h := h.2 hc5
    refine vJ.aload_n dX6_pageOf_19 rfl rfl ?_
    refine vJ.getR (ci := 6) (k := 3) (j := 139) dX6_pageOf_20 sh_0 (Nat.le_of_ble_eq_true rfl) rfl inX6 (Nat.le_of_ble_eq_true rfl) rfl fl_RX6_37 ?_
    refine vJ.iload_n dX6_pageOf_23 rfl rfl ?_
    refine vJ.callV (ci := 3) (Yc := mX3_holding) (frc := 0) (loc := 0) (as := [.int l1]) dX6_pageOf_24 rfl sh_139 (Nat.le_of_ble_eq_true rfl) rfl ml_RX6_187 im_yX3_holding se_yX3_holding co_X3_holding in_TableSetter_Pager pl_X3_holding (Nat.le_of_ble_eq_true rfl) (Nat.le_of_ble_eq_true rfl) (Nat.le_of_ble_eq_true rfl) ?_
    refine Ev.gi h (fun r4 m3 h => ?_)
    exact vJ.ireturn dX6_pageOf_27 rfl rfl rfl ⟨rfl, _, rfl, h⟩
  · replace h := h.1 hc5
    refine vJ.iconst dX6_pageOf_17 ci_m1 ?_
    exact vJ.ireturn dX6_pageOf_18 rfl rfl rfl ⟨rfl, _, rfl, h⟩
def EI_X6_pageOf (l1 : Int32) (m : vM) (P : Int32 → vM → Prop) : Prop := Ev mX6_pageOf 1 22 197 [.ref 0, .int l1] 197 SH m (vPi P)
theorem f_X6_pageOf {l1 : Int32} {m : vM} {P : Int32 → vM → Prop} (h : J_X6_pageOf_0 l1 m P) : EI_X6_pageOf l1 m P := Ev.of pn_X6_pageOf (Nat.le_of_ble_eq_true rfl) h
theorem e_X6_pageOf {l1 : Int32} {m : vM} {P : Int32 → vM → Prop}  (h : wp_X6_pageOf l1 m P) : EI_X6_pageOf l1 m P := f_X6_pageOf (b_X6_pageOf  h)
def J_X6_mayBreak_0 (l1 : Int32) (m : vM) (P : Int32 → vM → Prop) : Prop := vJ mX6_mayBreak 4 87 197 none 0 [(0, .ref 0), (1, .int l1)] [] 197 SH m (vPi P)
def wp_X6_mayBreak (l1 : Int32) (m : vM) (P : Int32 → vM → Prop) : Prop :=
  wp_X6_isWithin l1 (0 : Int32) ((m.1 1 0) - (1 : Int32)) m (fun r2 m1 =>
    ((r2 = (0 : Int32) →
      P (-1 : Int32) m1) ∧
    (¬ r2 = (0 : Int32) →
      EI_X1_headRows m1 (fun r4 m3 =>
        EI_X1_breaksAhead l1 r4 m3 (fun r6 m5 =>
          ((r6 = (0 : Int32) →
            P (0 : Int32) m5) ∧
          (¬ r6 = (0 : Int32) →
            P (1 : Int32) m5)))))))
set_option maxRecDepth 20000 in
set_option maxHeartbeats 4000000 in
theorem b_X6_mayBreak {l1 : Int32} {m : vM} {P : Int32 → vM → Prop}  (h : wp_X6_mayBreak l1 m P) : J_X6_mayBreak_0 l1 m P := by
  show vJ mX6_mayBreak 4 87 197 none 0 [(0, .ref 0), (1, .int l1)] [] 197 SH m (vPi P)
  unfold wp_X6_mayBreak at h
  refine vJ.iload_n dX6_mayBreak_0 rfl rfl ?_
  refine vJ.iconst dX6_mayBreak_1 ci_0 ?_
  refine vJ.aload_n dX6_mayBreak_2 rfl rfl ?_
  refine vJ.getR (ci := 6) (k := 0) (j := 1) dX6_mayBreak_3 sh_0 (Nat.le_of_ble_eq_true rfl) rfl inX6 (Nat.le_of_ble_eq_true rfl) rfl fl_RX6_10 ?_
  refine vJ.getI (ci := 1) (k := 0) dX6_mayBreak_6 sh_1 (Nat.le_of_ble_eq_true rfl) rfl inX1 (Nat.le_of_ble_eq_true rfl) rfl fl_RX6_83 ?_
  refine vJ.iconst dX6_mayBreak_9 ci_1 ?_
  refine vJ.isub dX6_mayBreak_10 ?_
  refine vJ.callS (Yc := mX6_isWithin) (frc := 0) (loc := 0) (as := [.int l1, .int (0 : Int32), .int ((m.1 1 0) - (1 : Int32))]) dX6_mayBreak_11 rfl ml_RX6_55 st_yX6_isWithin co_X6_isWithin in_TableSetter pl_X6_isWithin (Nat.le_of_ble_eq_true rfl) (Nat.le_of_ble_eq_true rfl) (Nat.le_of_ble_eq_true rfl) ?_
  refine Ev.gi (e_X6_isWithin  h) (fun r2 m1 h => ?_)
  refine vJ.if_ne (tgt := 19) dX6_mayBreak_14 (by decide) (fun hc8 => ?_) (fun hc8 => ?_)
  · replace h := h.2 hc8
    refine vJ.aload_n dX6_mayBreak_19 rfl rfl ?_
    refine vJ.getR (ci := 6) (k := 0) (j := 1) dX6_mayBreak_20 sh_0 (Nat.le_of_ble_eq_true rfl) rfl inX6 (Nat.le_of_ble_eq_true rfl) rfl fl_RX6_10 ?_
    refine vJ.iload_n dX6_mayBreak_23 rfl rfl ?_
    refine vJ.aload_n dX6_mayBreak_24 rfl rfl ?_
    refine vJ.getR (ci := 6) (k := 0) (j := 1) dX6_mayBreak_25 sh_0 (Nat.le_of_ble_eq_true rfl) rfl inX6 (Nat.le_of_ble_eq_true rfl) rfl fl_RX6_10 ?_
    refine vJ.callV (ci := 1) (Yc := mX1_headRows) (frc := 3) (loc := 66) (as := []) dX6_mayBreak_28 rfl sh_1 (Nat.le_of_ble_eq_true rfl) rfl ml_RX6_190 im_yX1_headRows se_yX1_headRows co_X1_headRows in_TableSetter_Grid pl_X1_headRows (Nat.le_of_ble_eq_true rfl) (Nat.le_of_ble_eq_true rfl) (Nat.le_of_ble_eq_true rfl) ?_
    refine Ev.gi h (fun r4 m3 h => ?_)
    refine vJ.callV (ci := 1) (Yc := mX1_breaksAhead) (frc := 2) (loc := 43) (as := [.int l1, .int r4]) dX6_mayBreak_31 rfl sh_1 (Nat.le_of_ble_eq_true rfl) rfl ml_RX6_193 im_yX1_breaksAhead se_yX1_breaksAhead co_X1_breaksAhead in_TableSetter_Grid pl_X1_breaksAhead (Nat.le_of_ble_eq_true rfl) (Nat.le_of_ble_eq_true rfl) (Nat.le_of_ble_eq_true rfl) ?_
    refine Ev.gi h (fun r6 m5 h => ?_)
    refine vJ.if_eq (tgt := 41) dX6_mayBreak_34 (by decide) (fun hc7 => ?_) (fun hc7 => ?_)
    · replace h := h.1 hc7
      refine vJ.iconst dX6_mayBreak_41 ci_0 ?_
      exact vJ.ireturn dX6_mayBreak_42 rfl rfl rfl ⟨rfl, _, rfl, h⟩
    · replace h := h.2 hc7
      refine vJ.iconst dX6_mayBreak_37 ci_1 ?_
      refine vJ.goto (tgt := 42) dX6_mayBreak_38 (by decide) ?_
      exact vJ.ireturn dX6_mayBreak_42 rfl rfl rfl ⟨rfl, _, rfl, h⟩
  · replace h := h.1 hc8
    refine vJ.iconst dX6_mayBreak_17 ci_m1 ?_
    exact vJ.ireturn dX6_mayBreak_18 rfl rfl rfl ⟨rfl, _, rfl, h⟩
def EI_X6_mayBreak (l1 : Int32) (m : vM) (P : Int32 → vM → Prop) : Prop := Ev mX6_mayBreak 4 87 197 [.ref 0, .int l1] 197 SH m (vPi P)
theorem f_X6_mayBreak {l1 : Int32} {m : vM} {P : Int32 → vM → Prop} (h : J_X6_mayBreak_0 l1 m P) : EI_X6_mayBreak l1 m P := Ev.of pn_X6_mayBreak (Nat.le_of_ble_eq_true rfl) h
theorem e_X6_mayBreak {l1 : Int32} {m : vM} {P : Int32 → vM → Prop}  (h : wp_X6_mayBreak l1 m P) : EI_X6_mayBreak l1 m P := f_X6_mayBreak (b_X6_mayBreak  h)
def J_X6_count_0 (l1 : Int32) (m : vM) (P : Int32 → vM → Prop) : Prop := vJ mX6_count 4 92 197 none 0 [(0, .ref 0), (1, .int l1)] [] 197 SH m (vPi P)
def wp_X6_count (l1 : Int32) (m : vM) (P : Int32 → vM → Prop) : Prop :=
  ((l1 = (0 : Int32) →
    P (m.1 1 0) m) ∧
  (¬ l1 = (0 : Int32) →
    ((l1 = (1 : Int32) →
      P (m.1 1 1) m) ∧
    (¬ l1 = (1 : Int32) →
      ((l1 = (2 : Int32) →
        P (m.1 1 3) m) ∧
      (¬ l1 = (2 : Int32) →
        ((l1 = (3 : Int32) →
          EI_X1_presentCells m (fun r6 m5 =>
            P r6 m5)) ∧
        (¬ l1 = (3 : Int32) →
          ((l1 = (4 : Int32) →
            EI_X1_headRows m (fun r4 m3 =>
              P r4 m3)) ∧
          (¬ l1 = (4 : Int32) →
            ((l1 = (5 : Int32) →
              P (m.1 139 0) m) ∧
            (¬ l1 = (5 : Int32) →
              ((l1 = (6 : Int32) →
                wp_X6_heightOfTable m (fun r2 m1 =>
                  P r2 m1)) ∧
              (¬ l1 = (6 : Int32) →
                P (-1 : Int32) m))))))))))))))
set_option maxRecDepth 20000 in
set_option maxHeartbeats 4000000 in
theorem b_X6_count {l1 : Int32} {m : vM} {P : Int32 → vM → Prop}  (h : wp_X6_count l1 m P) : J_X6_count_0 l1 m P := by
  show vJ mX6_count 4 92 197 none 0 [(0, .ref 0), (1, .int l1)] [] 197 SH m (vPi P)
  unfold wp_X6_count at h
  refine vJ.iload_n dX6_count_0 rfl rfl ?_
  by_cases hk0 : l1 = (0 : Int32)
  · replace h := h.1 hk0
    refine vJ.tabIn (tgt := 44) dX6_count_1 (by rw [hk0]; decide) (by rw [hk0]; decide) (by rw [hk0]; rfl) (by decide) ?_
    refine vJ.aload_n dX6_count_44 rfl rfl ?_
    refine vJ.getR (ci := 6) (k := 0) (j := 1) dX6_count_45 sh_0 (Nat.le_of_ble_eq_true rfl) rfl inX6 (Nat.le_of_ble_eq_true rfl) rfl fl_RX6_10 ?_
    refine vJ.getI (ci := 1) (k := 0) dX6_count_48 sh_1 (Nat.le_of_ble_eq_true rfl) rfl inX1 (Nat.le_of_ble_eq_true rfl) rfl fl_RX6_83 ?_
    exact vJ.ireturn dX6_count_51 rfl rfl rfl ⟨rfl, _, rfl, h⟩
  · replace h := h.2 hk0
    by_cases hk1 : l1 = (1 : Int32)
    · replace h := h.1 hk1
      refine vJ.tabIn (tgt := 52) dX6_count_1 (by rw [hk1]; decide) (by rw [hk1]; decide) (by rw [hk1]; rfl) (by decide) ?_
      refine vJ.aload_n dX6_count_52 rfl rfl ?_
      refine vJ.getR (ci := 6) (k := 0) (j := 1) dX6_count_53 sh_0 (Nat.le_of_ble_eq_true rfl) rfl inX6 (Nat.le_of_ble_eq_true rfl) rfl fl_RX6_10 ?_
      refine vJ.getI (ci := 1) (k := 1) dX6_count_56 sh_1 (Nat.le_of_ble_eq_true rfl) rfl inX1 (Nat.le_of_ble_eq_true rfl) rfl fl_RX6_67 ?_
      exact vJ.ireturn dX6_count_59 rfl rfl rfl ⟨rfl, _, rfl, h⟩
    · replace h := h.2 hk1
      by_cases hk2 : l1 = (2 : Int32)
      · replace h := h.1 hk2
        refine vJ.tabIn (tgt := 60) dX6_count_1 (by rw [hk2]; decide) (by rw [hk2]; decide) (by rw [hk2]; rfl) (by decide) ?_
        refine vJ.aload_n dX6_count_60 rfl rfl ?_
        refine vJ.getR (ci := 6) (k := 0) (j := 1) dX6_count_61 sh_0 (Nat.le_of_ble_eq_true rfl) rfl inX6 (Nat.le_of_ble_eq_true rfl) rfl fl_RX6_10 ?_
        refine vJ.getI (ci := 1) (k := 3) dX6_count_64 sh_1 (Nat.le_of_ble_eq_true rfl) rfl inX1 (Nat.le_of_ble_eq_true rfl) rfl fl_RX6_80 ?_
        exact vJ.ireturn dX6_count_67 rfl rfl rfl ⟨rfl, _, rfl, h⟩
      · replace h := h.2 hk2
        by_cases hk3 : l1 = (3 : Int32)
        · replace h := h.1 hk3
          refine vJ.tabIn (tgt := 68) dX6_count_1 (by rw [hk3]; decide) (by rw [hk3]; decide) (by rw [hk3]; rfl) (by decide) ?_
          refine vJ.aload_n dX6_count_68 rfl rfl ?_
          refine vJ.getR (ci := 6) (k := 0) (j := 1) dX6_count_69 sh_0 (Nat.le_of_ble_eq_true rfl) rfl inX6 (Nat.le_of_ble_eq_true rfl) rfl fl_RX6_10 ?_
          refine vJ.callV (ci := 1) (Yc := mX1_presentCells) (frc := 2) (loc := 43) (as := []) dX6_count_72 rfl sh_1 (Nat.le_of_ble_eq_true rfl) rfl ml_RX6_196 im_yX1_presentCells se_yX1_presentCells co_X1_presentCells in_TableSetter_Grid pl_X1_presentCells (Nat.le_of_ble_eq_true rfl) (Nat.le_of_ble_eq_true rfl) (Nat.le_of_ble_eq_true rfl) ?_
          refine Ev.gi h (fun r6 m5 h => ?_)
          exact vJ.ireturn dX6_count_75 rfl rfl rfl ⟨rfl, _, rfl, h⟩
        · replace h := h.2 hk3
          by_cases hk4 : l1 = (4 : Int32)
          · replace h := h.1 hk4
            refine vJ.tabIn (tgt := 76) dX6_count_1 (by rw [hk4]; decide) (by rw [hk4]; decide) (by rw [hk4]; rfl) (by decide) ?_
            refine vJ.aload_n dX6_count_76 rfl rfl ?_
            refine vJ.getR (ci := 6) (k := 0) (j := 1) dX6_count_77 sh_0 (Nat.le_of_ble_eq_true rfl) rfl inX6 (Nat.le_of_ble_eq_true rfl) rfl fl_RX6_10 ?_
            refine vJ.callV (ci := 1) (Yc := mX1_headRows) (frc := 3) (loc := 66) (as := []) dX6_count_80 rfl sh_1 (Nat.le_of_ble_eq_true rfl) rfl ml_RX6_190 im_yX1_headRows se_yX1_headRows co_X1_headRows in_TableSetter_Grid pl_X1_headRows (Nat.le_of_ble_eq_true rfl) (Nat.le_of_ble_eq_true rfl) (Nat.le_of_ble_eq_true rfl) ?_
            refine Ev.gi h (fun r4 m3 h => ?_)
            exact vJ.ireturn dX6_count_83 rfl rfl rfl ⟨rfl, _, rfl, h⟩
          · replace h := h.2 hk4
            by_cases hk5 : l1 = (5 : Int32)
            · replace h := h.1 hk5
              refine vJ.tabIn (tgt := 84) dX6_count_1 (by rw [hk5]; decide) (by rw [hk5]; decide) (by rw [hk5]; rfl) (by decide) ?_
              refine vJ.aload_n dX6_count_84 rfl rfl ?_
              refine vJ.getR (ci := 6) (k := 3) (j := 139) dX6_count_85 sh_0 (Nat.le_of_ble_eq_true rfl) rfl inX6 (Nat.le_of_ble_eq_true rfl) rfl fl_RX6_37 ?_
              refine vJ.getI (ci := 3) (k := 0) dX6_count_88 sh_139 (Nat.le_of_ble_eq_true rfl) rfl inX3 (Nat.le_of_ble_eq_true rfl) rfl fl_RX6_180 ?_
              exact vJ.ireturn dX6_count_91 rfl rfl rfl ⟨rfl, _, rfl, h⟩
            · replace h := h.2 hk5
              by_cases hk6 : l1 = (6 : Int32)
              · replace h := h.1 hk6
                refine vJ.tabIn (tgt := 92) dX6_count_1 (by rw [hk6]; decide) (by rw [hk6]; decide) (by rw [hk6]; rfl) (by decide) ?_
                refine vJ.aload_n dX6_count_92 rfl rfl ?_
                refine vJ.callV (ci := 6) (Yc := mX6_heightOfTable) (frc := 3) (loc := 72) (as := []) dX6_count_93 rfl sh_0 (Nat.le_of_ble_eq_true rfl) rfl ml_RX6_163 im_yX6_heightOfTable se_yX6_heightOfTable co_X6_heightOfTable in_TableSetter pl_X6_heightOfTable (Nat.le_of_ble_eq_true rfl) (Nat.le_of_ble_eq_true rfl) (Nat.le_of_ble_eq_true rfl) ?_
                refine Ev.gi (e_X6_heightOfTable  h) (fun r2 m1 h => ?_)
                exact vJ.ireturn dX6_count_96 rfl rfl rfl ⟨rfl, _, rfl, h⟩
              · replace h := h.2 hk6
                refine vJ.tabOut (tgt := 97) dX6_count_1 (tab_out7 hk0 hk1 hk2 hk3 hk4 hk5 hk6) (by decide) ?_
                refine vJ.iconst dX6_count_97 ci_m1 ?_
                exact vJ.ireturn dX6_count_98 rfl rfl rfl ⟨rfl, _, rfl, h⟩
def EI_X6_count (l1 : Int32) (m : vM) (P : Int32 → vM → Prop) : Prop := Ev mX6_count 4 92 197 [.ref 0, .int l1] 197 SH m (vPi P)
theorem f_X6_count {l1 : Int32} {m : vM} {P : Int32 → vM → Prop} (h : J_X6_count_0 l1 m P) : EI_X6_count l1 m P := Ev.of pn_X6_count (Nat.le_of_ble_eq_true rfl) h
theorem e_X6_count {l1 : Int32} {m : vM} {P : Int32 → vM → Prop}  (h : wp_X6_count l1 m P) : EI_X6_count l1 m P := f_X6_count (b_X6_count  h)
def J_X6_finding_0  (m : vM) (P : Int32 → vM → Prop) : Prop := vJ mX6_finding 0 0 197 none 0 [(0, .ref 0)] [] 197 SH m (vPi P)
def wp_X6_finding  (m : vM) (P : Int32 → vM → Prop) : Prop :=
  P (m.1 0 5) m
set_option maxRecDepth 20000 in
set_option maxHeartbeats 4000000 in
theorem b_X6_finding  {m : vM} {P : Int32 → vM → Prop}  (h : wp_X6_finding  m P) : J_X6_finding_0  m P := by
  show vJ mX6_finding 0 0 197 none 0 [(0, .ref 0)] [] 197 SH m (vPi P)
  unfold wp_X6_finding at h
  refine vJ.aload_n dX6_finding_0 rfl rfl ?_
  refine vJ.getI (ci := 6) (k := 5) dX6_finding_1 sh_0 (Nat.le_of_ble_eq_true rfl) rfl inX6 (Nat.le_of_ble_eq_true rfl) rfl fl_RX6_45 ?_
  exact vJ.ireturn dX6_finding_4 rfl rfl rfl ⟨rfl, _, rfl, h⟩
def EI_X6_finding  (m : vM) (P : Int32 → vM → Prop) : Prop := Ev mX6_finding 0 0 197 [.ref 0] 197 SH m (vPi P)
theorem f_X6_finding  {m : vM} {P : Int32 → vM → Prop} (h : J_X6_finding_0  m P) : EI_X6_finding  m P := Ev.of pn_X6_finding (Nat.le_of_ble_eq_true rfl) h
theorem e_X6_finding  {m : vM} {P : Int32 → vM → Prop}  (h : wp_X6_finding  m P) : EI_X6_finding  m P := f_X6_finding (b_X6_finding  h)
def J_X6_findings_0 (l1 : Int32) (m : vM) (P : Int32 → vM → Prop) : Prop := vJ mX6_findings 1 22 197 none 0 [(0, .ref 0), (1, .int l1)] [] 197 SH m (vPi P)
def wp_X6_findings (l1 : Int32) (m : vM) (P : Int32 → vM → Prop) : Prop :=
  wp_X6_isWithin l1 (1 : Int32) (6 : Int32) m (fun r2 m1 =>
    ((r2 = (0 : Int32) →
      P (-1 : Int32) m1) ∧
    (¬ r2 = (0 : Int32) →
      vp_in l1 7 ∧
      P (m1.1 162 (Int32.toNatClampNeg l1)) m1)))
set_option maxRecDepth 20000 in
set_option maxHeartbeats 4000000 in
theorem b_X6_findings {l1 : Int32} {m : vM} {P : Int32 → vM → Prop}  (h : wp_X6_findings l1 m P) : J_X6_findings_0 l1 m P := by
  show vJ mX6_findings 1 22 197 none 0 [(0, .ref 0), (1, .int l1)] [] 197 SH m (vPi P)
  unfold wp_X6_findings at h
  refine vJ.iload_n dX6_findings_0 rfl rfl ?_
  refine vJ.iconst dX6_findings_1 ci_1 ?_
  refine vJ.bipush dX6_findings_2 cb_6 ?_
  refine vJ.callS (Yc := mX6_isWithin) (frc := 0) (loc := 0) (as := [.int l1, .int (1 : Int32), .int (6 : Int32)]) dX6_findings_4 rfl ml_RX6_55 st_yX6_isWithin co_X6_isWithin in_TableSetter pl_X6_isWithin (Nat.le_of_ble_eq_true rfl) (Nat.le_of_ble_eq_true rfl) (Nat.le_of_ble_eq_true rfl) ?_
  refine Ev.gi (e_X6_isWithin  h) (fun r2 m1 h => ?_)
  refine vJ.if_eq (tgt := 19) dX6_findings_7 (by decide) (fun hc4 => ?_) (fun hc4 => ?_)
  · replace h := h.1 hc4
    refine vJ.iconst dX6_findings_19 ci_m1 ?_
    exact vJ.ireturn dX6_findings_20 rfl rfl rfl ⟨rfl, _, rfl, h⟩
  · replace h := h.2 hc4
    refine vJ.aload_n dX6_findings_10 rfl rfl ?_
    refine vJ.getR (ci := 6) (k := 4) (j := 162) dX6_findings_11 sh_0 (Nat.le_of_ble_eq_true rfl) rfl inX6 (Nat.le_of_ble_eq_true rfl) rfl fl_RX6_41 ?_
    refine vJ.iload_n dX6_findings_14 rfl rfl ?_
    obtain ⟨hb3, h⟩ := h
    refine vJ.iald dX6_findings_15 sh_162 (Nat.le_of_ble_eq_true rfl) hb3 ?_
    refine vJ.goto (tgt := 20) dX6_findings_16 (by decide) ?_
    exact vJ.ireturn dX6_findings_20 rfl rfl rfl ⟨rfl, _, rfl, h⟩
def EI_X6_findings (l1 : Int32) (m : vM) (P : Int32 → vM → Prop) : Prop := Ev mX6_findings 1 22 197 [.ref 0, .int l1] 197 SH m (vPi P)
theorem f_X6_findings {l1 : Int32} {m : vM} {P : Int32 → vM → Prop} (h : J_X6_findings_0 l1 m P) : EI_X6_findings l1 m P := Ev.of pn_X6_findings (Nat.le_of_ble_eq_true rfl) h
theorem e_X6_findings {l1 : Int32} {m : vM} {P : Int32 → vM → Prop}  (h : wp_X6_findings l1 m P) : EI_X6_findings l1 m P := f_X6_findings (b_X6_findings  h)
def J_X6_mixed_0 (l0 : Int64) (a2 : Nat) (n2 : Nat) (l3 : Int32) (m : vM) (P : Int64 → vM → Prop) : Prop := vJ mX6_mixed 0 0 197 none 0 [(0, .long l0), (2, .ref a2), (3, .int l3)] [] 197 SH m (vPl P)
def J_X6_mixed_6 (a2 : Nat) (n2 : Nat) (l3 : Int32) (l4 : Int64) (l6 : Int32) (m : vM) (P : Int64 → vM → Prop) : Prop := vJ mX6_mixed 0 0 197 none 6 [(2, .ref a2), (3, .int l3), (4, .long l4), (6, .int l6)] [] 197 SH m (vPl P)
def wp_X6_mixed_0 (l0 : Int64) (a2 : Nat) (n2 : Nat) (l3 : Int32) (m : vM) (P : Int64 → vM → Prop) : Prop :=
  J_X6_mixed_6 a2 n2 l3 l0 (0 : Int32) m P
set_option maxRecDepth 20000 in
set_option maxHeartbeats 4000000 in
theorem b_X6_mixed_0 {l0 : Int64} {a2 : Nat} {n2 : Nat} {l3 : Int32} {m : vM} {P : Int64 → vM → Prop} (ha2 : SH a2 = (0, n2, vz)) (hw2 : a2 < 197) (h : wp_X6_mixed_0 l0 a2 n2 l3 m P) : J_X6_mixed_0 l0 a2 n2 l3 m P := by
  show vJ mX6_mixed 0 0 197 none 0 [(0, .long l0), (2, .ref a2), (3, .int l3)] [] 197 SH m (vPl P)
  unfold wp_X6_mixed_0 at h
  refine vJ.lload_n dX6_mixed_0 rfl rfl ?_
  refine vJ.lstore (ls2 := [(0, .long l0), (2, .ref a2), (3, .int l3), (4, .long l0)]) dX6_mixed_1 (Nat.le_of_ble_eq_true rfl) rfl ?_
  refine vJ.iconst dX6_mixed_3 ci_0 ?_
  refine vJ.istore (ls2 := [(0, .long l0), (2, .ref a2), (3, .int l3), (4, .long l0), (6, .int (0 : Int32))]) dX6_mixed_4 (Nat.le_of_ble_eq_true rfl) rfl ?_
  refine vJ.sub [1, 2, 3, 4] rfl ?_
  exact h
def EI_X6_mixed (l0 : Int64) (a2 : Nat) (n2 : Nat) (l3 : Int32) (m : vM) (P : Int64 → vM → Prop) : Prop := Ev mX6_mixed 0 0 197 [.long l0, .ref a2, .int l3] 197 SH m (vPl P)
theorem f_X6_mixed {l0 : Int64} {a2 : Nat} {n2 : Nat} {l3 : Int32} {m : vM} {P : Int64 → vM → Prop} (h : J_X6_mixed_0 l0 a2 n2 l3 m P) : EI_X6_mixed l0 a2 n2 l3 m P := Ev.of pn_X6_mixed (Nat.le_of_ble_eq_true rfl) h
def wp_X6_mixed_6 (a2 : Nat) (n2 : Nat) (l3 : Int32) (l4 : Int64) (l6 : Int32) (m : vM) (P : Int64 → vM → Prop) : Prop :=
  ((l3 ≤ l6 →
    P l4 m) ∧
  (¬ l3 ≤ l6 →
    (((nI n2) ≤ l6 →
      P l4 m) ∧
    (¬ (nI n2) ≤ l6 →
      vp_in l6 n2 ∧
      ∀ v2 : Int64, v2 = (((31 : Int64) * l4) + (Int32.toInt64 (m.1 a2 (Int32.toNatClampNeg l6)))) →
      J_X6_mixed_6 a2 n2 l3 v2 (l6 + (1 : Int32)) m P))))
set_option maxRecDepth 20000 in
set_option maxHeartbeats 4000000 in
theorem b_X6_mixed_6 {a2 : Nat} {n2 : Nat} {l3 : Int32} {l4 : Int64} {l6 : Int32} {m : vM} {P : Int64 → vM → Prop} (ha2 : SH a2 = (0, n2, vz)) (hw2 : a2 < 197) (h : wp_X6_mixed_6 a2 n2 l3 l4 l6 m P) : J_X6_mixed_6 a2 n2 l3 l4 l6 m P := by
  show vJ mX6_mixed 0 0 197 none 6 [(2, .ref a2), (3, .int l3), (4, .long l4), (6, .int l6)] [] 197 SH m (vPl P)
  unfold wp_X6_mixed_6 at h
  refine vJ.iload dX6_mixed_6 rfl ?_
  refine vJ.iload_n dX6_mixed_8 rfl rfl ?_
  refine vJ.icmp_ge (tgt := 39) dX6_mixed_9 (by decide) (fun hc4 => ?_) (fun hc4 => ?_)
  · replace h := h.1 hc4
    refine vJ.lload dX6_mixed_39 rfl ?_
    exact vJ.lreturn dX6_mixed_41 rfl rfl ⟨rfl, _, rfl, h⟩
  · replace h := h.2 hc4
    refine vJ.iload dX6_mixed_12 rfl ?_
    refine vJ.aload_n dX6_mixed_14 rfl rfl ?_
    refine vJ.alen0 (v := (nI n2)) dX6_mixed_15 ha2 hw2 rfl ?_
    refine vJ.icmp_ge (tgt := 39) dX6_mixed_16 (by decide) (fun hc3 => ?_) (fun hc3 => ?_)
    · replace h := h.1 hc3
      refine vJ.lload dX6_mixed_39 rfl ?_
      exact vJ.lreturn dX6_mixed_41 rfl rfl ⟨rfl, _, rfl, h⟩
    · replace h := h.2 hc3
      refine vJ.ldc2 dX6_mixed_19 kl_RX6_201 ?_
      refine vJ.lload dX6_mixed_22 rfl ?_
      refine vJ.lmul dX6_mixed_24 ?_
      refine vJ.aload_n dX6_mixed_25 rfl rfl ?_
      refine vJ.iload dX6_mixed_26 rfl ?_
      obtain ⟨hb1, h⟩ := h
      refine vJ.iald dX6_mixed_28 ha2 hw2 hb1 ?_
      refine vJ.i2l dX6_mixed_29 ?_
      refine vJ.ladd dX6_mixed_30 ?_
      refine vJ.topl (fun v2 ev2 => ?_)
      replace h := h v2 ev2
      refine vJ.lstore (ls2 := [(2, .ref a2), (3, .int l3), (4, .long v2), (6, .int l6)]) dX6_mixed_31 (Nat.le_of_ble_eq_true rfl) rfl ?_
      refine vJ.iinc (v := l6 + (1 : Int32)) (ls2 := [(2, .ref a2), (3, .int l3), (4, .long v2), (6, .int (l6 + (1 : Int32)))]) dX6_mixed_33 rfl (congrArg (l6 + ·) ci_1) (Nat.le_of_ble_eq_true rfl) rfl ?_
      refine vJ.goto (tgt := 6) dX6_mixed_36 (by decide) ?_
      exact h
def J_X6_mixedCell_0 (l0 : Int64) (i2 : Nat) (m : vM) (P : Int64 → vM → Prop) : Prop := vJ mX6_mixedCell 1 26 197 none 0 [(0, .long l0), (2, .ref (cA i2))] [] 197 SH m (vPl P)
def J_X6_mixedCell_5 (i2 : Nat) (l3 : Int64) (l5 : Int32) (m : vM) (P : Int64 → vM → Prop) : Prop := vJ mX6_mixedCell 1 26 197 none 5 [(2, .ref (cA i2)), (3, .long l3), (5, .int l5)] [] 197 SH m (vPl P)
def wp_X6_mixedCell_0 (l0 : Int64) (i2 : Nat) (m : vM) (P : Int64 → vM → Prop) : Prop :=
  J_X6_mixedCell_5 i2 l0 (0 : Int32) m P
set_option maxRecDepth 20000 in
set_option maxHeartbeats 4000000 in
theorem b_X6_mixedCell_0 {l0 : Int64} {i2 : Nat} {m : vM} {P : Int64 → vM → Prop} (hi2 : i2 < 40) (h : wp_X6_mixedCell_0 l0 i2 m P) : J_X6_mixedCell_0 l0 i2 m P := by
  show vJ mX6_mixedCell 1 26 197 none 0 [(0, .long l0), (2, .ref (cA i2))] [] 197 SH m (vPl P)
  unfold wp_X6_mixedCell_0 at h
  refine vJ.lload_n dX6_mixedCell_0 rfl rfl ?_
  refine vJ.lstore_n (ls2 := [(0, .long l0), (2, .ref (cA i2)), (3, .long l0)]) dX6_mixedCell_1 rfl (Nat.le_of_ble_eq_true rfl) rfl ?_
  refine vJ.iconst dX6_mixedCell_2 ci_0 ?_
  refine vJ.istore (ls2 := [(0, .long l0), (2, .ref (cA i2)), (3, .long l0), (5, .int (0 : Int32))]) dX6_mixedCell_3 (Nat.le_of_ble_eq_true rfl) rfl ?_
  refine vJ.sub [1, 2, 3] rfl ?_
  exact h
def EI_X6_mixedCell (l0 : Int64) (i2 : Nat) (m : vM) (P : Int64 → vM → Prop) : Prop := Ev mX6_mixedCell 1 26 197 [.long l0, .ref (cA i2)] 197 SH m (vPl P)
theorem f_X6_mixedCell {l0 : Int64} {i2 : Nat} {m : vM} {P : Int64 → vM → Prop} (h : J_X6_mixedCell_0 l0 i2 m P) : EI_X6_mixedCell l0 i2 m P := Ev.of pn_X6_mixedCell (Nat.le_of_ble_eq_true rfl) h
def wp_X6_mixedCell_5 (i2 : Nat) (l3 : Int64) (l5 : Int32) (m : vM) (P : Int64 → vM → Prop) : Prop :=
  (((6 : Int32) < l5 →
    EI_X6_mixed l3 (cA i2 + 1) 12 (m.1 (cA i2) 7) m (fun r2 m1 =>
      (((m1.1 (cA i2) 0) = (2 : Int32) →
        P (((31 : Int64) * r2) + (Int32.toInt64 (m1.1 (cA i2) 6))) m1) ∧
      (¬ (m1.1 (cA i2) 0) = (2 : Int32) →
        P r2 m1)))) ∧
  (¬ (6 : Int32) < l5 →
    wp_X0_fact i2 l5 m (fun r5 m4 =>
      ∀ v6 : Int64, v6 = (((31 : Int64) * l3) + (Int32.toInt64 r5)) →
      J_X6_mixedCell_5 i2 v6 (l5 + (1 : Int32)) m4 P)))
set_option maxRecDepth 20000 in
set_option maxHeartbeats 4000000 in
theorem b_X6_mixedCell_5 {i2 : Nat} {l3 : Int64} {l5 : Int32} {m : vM} {P : Int64 → vM → Prop} (hi2 : i2 < 40) (h : wp_X6_mixedCell_5 i2 l3 l5 m P) : J_X6_mixedCell_5 i2 l3 l5 m P := by
  show vJ mX6_mixedCell 1 26 197 none 5 [(2, .ref (cA i2)), (3, .long l3), (5, .int l5)] [] 197 SH m (vPl P)
  unfold wp_X6_mixedCell_5 at h
  refine vJ.iload dX6_mixedCell_5 rfl ?_
  refine vJ.bipush dX6_mixedCell_7 cb_6 ?_
  refine vJ.icmp_gt (tgt := 32) dX6_mixedCell_9 (by decide) (fun hc7 => ?_) (fun hc7 => ?_)
  · replace h := h.1 hc7
    refine vJ.lload_n dX6_mixedCell_32 rfl rfl ?_
    refine vJ.aload_n dX6_mixedCell_33 rfl rfl ?_
    refine vJ.getR (ci := 0) (k := 9) (j := cA i2 + 1) dX6_mixedCell_34 (sh_C hi2) (lt_C hi2) rfl inX0 (Nat.le_of_ble_eq_true rfl) rfl fl_RX6_217 ?_
    refine vJ.aload_n dX6_mixedCell_37 rfl rfl ?_
    refine vJ.getI (ci := 0) (k := 7) dX6_mixedCell_38 (sh_C hi2) (lt_C hi2) rfl inX0 (Nat.le_of_ble_eq_true rfl) rfl fl_RX6_129 ?_
    refine vJ.callS (Yc := mX6_mixed) (frc := 0) (loc := 0) (as := [.long l3, .ref (cA i2 + 1), .int (m.1 (cA i2) 7)]) dX6_mixedCell_41 rfl ml_RX6_206 st_yX6_mixed co_X6_mixed in_TableSetter pl_X6_mixed (Nat.le_of_ble_eq_true rfl) (Nat.le_of_ble_eq_true rfl) (Nat.le_of_ble_eq_true rfl) ?_
    refine Ev.gl h (fun r2 m1 h => ?_)
    refine vJ.lstore_n (ls2 := [(2, .ref (cA i2)), (3, .long r2), (5, .int l5)]) dX6_mixedCell_44 rfl (Nat.le_of_ble_eq_true rfl) rfl ?_
    refine vJ.aload_n dX6_mixedCell_45 rfl rfl ?_
    refine vJ.getI (ci := 0) (k := 0) dX6_mixedCell_46 (sh_C hi2) (lt_C hi2) rfl inX0 (Nat.le_of_ble_eq_true rfl) rfl fl_RX6_111 ?_
    refine vJ.iconst dX6_mixedCell_49 ci_2 ?_
    refine vJ.icmp_ne (tgt := 67) dX6_mixedCell_50 (by decide) (fun hc3 => ?_) (fun hc3 => ?_)
    · replace h := h.2 hc3
      refine vJ.lload_n dX6_mixedCell_67 rfl rfl ?_
      exact vJ.lreturn dX6_mixedCell_68 rfl rfl ⟨rfl, _, rfl, h⟩
    · replace h := h.1 hc3
      refine vJ.ldc2 dX6_mixedCell_53 kl_RX6_201 ?_
      refine vJ.lload_n dX6_mixedCell_56 rfl rfl ?_
      refine vJ.lmul dX6_mixedCell_57 ?_
      refine vJ.aload_n dX6_mixedCell_58 rfl rfl ?_
      refine vJ.getI (ci := 0) (k := 6) dX6_mixedCell_59 (sh_C hi2) (lt_C hi2) rfl inX0 (Nat.le_of_ble_eq_true rfl) rfl fl_RX6_139 ?_
      refine vJ.i2l dX6_mixedCell_62 ?_
      refine vJ.ladd dX6_mixedCell_63 ?_
      refine vJ.goto (tgt := 68) dX6_mixedCell_64 (by decide) ?_
      exact vJ.lreturn dX6_mixedCell_68 rfl rfl ⟨rfl, _, rfl, h⟩
  · replace h := h.2 hc7
    refine vJ.ldc2 dX6_mixedCell_12 kl_RX6_201 ?_
    refine vJ.lload_n dX6_mixedCell_15 rfl rfl ?_
    refine vJ.lmul dX6_mixedCell_16 ?_
    refine vJ.aload_n dX6_mixedCell_17 rfl rfl ?_
    refine vJ.iload dX6_mixedCell_18 rfl ?_
    refine vJ.callV (ci := 0) (Yc := mX0_fact) (frc := 0) (loc := 0) (as := [.int l5]) dX6_mixedCell_20 rfl (sh_C hi2) (lt_C hi2) rfl ml_RX6_108 im_yX0_fact se_yX0_fact co_X0_fact in_TableSetter_Cell pl_X0_fact (Nat.le_of_ble_eq_true rfl) (Nat.le_of_ble_eq_true rfl) (Nat.le_of_ble_eq_true rfl) ?_
    refine Ev.gi (e_X0_fact hi2 h) (fun r5 m4 h => ?_)
    refine vJ.i2l dX6_mixedCell_23 ?_
    refine vJ.ladd dX6_mixedCell_24 ?_
    refine vJ.topl (fun v6 ev6 => ?_)
    replace h := h v6 ev6
    refine vJ.lstore_n (ls2 := [(2, .ref (cA i2)), (3, .long v6), (5, .int l5)]) dX6_mixedCell_25 rfl (Nat.le_of_ble_eq_true rfl) rfl ?_
    refine vJ.iinc (v := l5 + (1 : Int32)) (ls2 := [(2, .ref (cA i2)), (3, .long v6), (5, .int (l5 + (1 : Int32)))]) dX6_mixedCell_26 rfl (congrArg (l5 + ·) ci_1) (Nat.le_of_ble_eq_true rfl) rfl ?_
    refine vJ.goto (tgt := 5) dX6_mixedCell_29 (by decide) ?_
    exact h
def J_X6_digest_0  (m : vM) (P : Int64 → vM → Prop) : Prop := vJ mX6_digest 2 51 197 none 0 [(0, .ref 0)] [] 197 SH m (vPl P)
def J_X6_digest_103 (l1 : Int64) (l3 : Int32) (m : vM) (P : Int64 → vM → Prop) : Prop := vJ mX6_digest 2 51 197 none 103 [(0, .ref 0), (1, .long l1), (3, .int l3)] [] 197 SH m (vPl P)
def wp_X6_digest_0  (m : vM) (P : Int64 → vM → Prop) : Prop :=
  ∀ v1 : Int64, v1 = (((31 : Int64) * (17 : Int64)) + (Int32.toInt64 (m.1 1 0))) →
  ∀ v2 : Int64, v2 = (((31 : Int64) * v1) + (Int32.toInt64 (m.1 1 1))) →
  ∀ v3 : Int64, v3 = (((31 : Int64) * v2) + (Int32.toInt64 (m.1 1 2))) →
  EI_X6_mixed v3 2 6 (m.1 1 1) m (fun r5 m4 =>
    EI_X6_mixed r5 130 6 (m4.1 1 1) m4 (fun r7 m6 =>
      EI_X6_mixed r7 3 10 (10 : Int32) m6 (fun r9 m8 =>
        J_X6_digest_103 r9 (0 : Int32) m8 P)))
set_option maxRecDepth 20000 in
set_option maxHeartbeats 4000000 in
theorem b_X6_digest_0  {m : vM} {P : Int64 → vM → Prop}  (h : wp_X6_digest_0  m P) : J_X6_digest_0  m P := by
  show vJ mX6_digest 2 51 197 none 0 [(0, .ref 0)] [] 197 SH m (vPl P)
  unfold wp_X6_digest_0 at h
  refine vJ.ldc2 dX6_digest_0 kl_RX6_199 ?_
  refine vJ.lstore_n (ls2 := [(0, .ref 0), (1, .long (17 : Int64))]) dX6_digest_3 rfl (Nat.le_of_ble_eq_true rfl) rfl ?_
  refine vJ.ldc2 dX6_digest_4 kl_RX6_201 ?_
  refine vJ.lload_n dX6_digest_7 rfl rfl ?_
  refine vJ.lmul dX6_digest_8 ?_
  refine vJ.aload_n dX6_digest_9 rfl rfl ?_
  refine vJ.getR (ci := 6) (k := 0) (j := 1) dX6_digest_10 sh_0 (Nat.le_of_ble_eq_true rfl) rfl inX6 (Nat.le_of_ble_eq_true rfl) rfl fl_RX6_10 ?_
  refine vJ.getI (ci := 1) (k := 0) dX6_digest_13 sh_1 (Nat.le_of_ble_eq_true rfl) rfl inX1 (Nat.le_of_ble_eq_true rfl) rfl fl_RX6_83 ?_
  refine vJ.i2l dX6_digest_16 ?_
  refine vJ.ladd dX6_digest_17 ?_
  refine vJ.topl (fun v1 ev1 => ?_)
  replace h := h v1 ev1
  refine vJ.lstore_n (ls2 := [(0, .ref 0), (1, .long v1)]) dX6_digest_18 rfl (Nat.le_of_ble_eq_true rfl) rfl ?_
  refine vJ.ldc2 dX6_digest_19 kl_RX6_201 ?_
  refine vJ.lload_n dX6_digest_22 rfl rfl ?_
  refine vJ.lmul dX6_digest_23 ?_
  refine vJ.aload_n dX6_digest_24 rfl rfl ?_
  refine vJ.getR (ci := 6) (k := 0) (j := 1) dX6_digest_25 sh_0 (Nat.le_of_ble_eq_true rfl) rfl inX6 (Nat.le_of_ble_eq_true rfl) rfl fl_RX6_10 ?_
  refine vJ.getI (ci := 1) (k := 1) dX6_digest_28 sh_1 (Nat.le_of_ble_eq_true rfl) rfl inX1 (Nat.le_of_ble_eq_true rfl) rfl fl_RX6_67 ?_
  refine vJ.i2l dX6_digest_31 ?_
  refine vJ.ladd dX6_digest_32 ?_
  refine vJ.topl (fun v2 ev2 => ?_)
  replace h := h v2 ev2
  refine vJ.lstore_n (ls2 := [(0, .ref 0), (1, .long v2)]) dX6_digest_33 rfl (Nat.le_of_ble_eq_true rfl) rfl ?_
  refine vJ.ldc2 dX6_digest_34 kl_RX6_201 ?_
  refine vJ.lload_n dX6_digest_37 rfl rfl ?_
  refine vJ.lmul dX6_digest_38 ?_
  refine vJ.aload_n dX6_digest_39 rfl rfl ?_
  refine vJ.getR (ci := 6) (k := 0) (j := 1) dX6_digest_40 sh_0 (Nat.le_of_ble_eq_true rfl) rfl inX6 (Nat.le_of_ble_eq_true rfl) rfl fl_RX6_10 ?_
  refine vJ.getI (ci := 1) (k := 2) dX6_digest_43 sh_1 (Nat.le_of_ble_eq_true rfl) rfl inX1 (Nat.le_of_ble_eq_true rfl) rfl fl_RX6_203 ?_
  refine vJ.i2l dX6_digest_46 ?_
  refine vJ.ladd dX6_digest_47 ?_
  refine vJ.topl (fun v3 ev3 => ?_)
  replace h := h v3 ev3
  refine vJ.lstore_n (ls2 := [(0, .ref 0), (1, .long v3)]) dX6_digest_48 rfl (Nat.le_of_ble_eq_true rfl) rfl ?_
  refine vJ.lload_n dX6_digest_49 rfl rfl ?_
  refine vJ.aload_n dX6_digest_50 rfl rfl ?_
  refine vJ.getR (ci := 6) (k := 0) (j := 1) dX6_digest_51 sh_0 (Nat.le_of_ble_eq_true rfl) rfl inX6 (Nat.le_of_ble_eq_true rfl) rfl fl_RX6_10 ?_
  refine vJ.getR (ci := 1) (k := 4) (j := 2) dX6_digest_54 sh_1 (Nat.le_of_ble_eq_true rfl) rfl inX1 (Nat.le_of_ble_eq_true rfl) rfl fl_RX6_70 ?_
  refine vJ.aload_n dX6_digest_57 rfl rfl ?_
  refine vJ.getR (ci := 6) (k := 0) (j := 1) dX6_digest_58 sh_0 (Nat.le_of_ble_eq_true rfl) rfl inX6 (Nat.le_of_ble_eq_true rfl) rfl fl_RX6_10 ?_
  refine vJ.getI (ci := 1) (k := 1) dX6_digest_61 sh_1 (Nat.le_of_ble_eq_true rfl) rfl inX1 (Nat.le_of_ble_eq_true rfl) rfl fl_RX6_67 ?_
  refine vJ.callS (Yc := mX6_mixed) (frc := 0) (loc := 0) (as := [.long v3, .ref 2, .int (m.1 1 1)]) dX6_digest_64 rfl ml_RX6_206 st_yX6_mixed co_X6_mixed in_TableSetter pl_X6_mixed (Nat.le_of_ble_eq_true rfl) (Nat.le_of_ble_eq_true rfl) (Nat.le_of_ble_eq_true rfl) ?_
  refine Ev.gl h (fun r5 m4 h => ?_)
  refine vJ.lstore_n (ls2 := [(0, .ref 0), (1, .long r5)]) dX6_digest_67 rfl (Nat.le_of_ble_eq_true rfl) rfl ?_
  refine vJ.lload_n dX6_digest_68 rfl rfl ?_
  refine vJ.aload_n dX6_digest_69 rfl rfl ?_
  refine vJ.getR (ci := 6) (k := 2) (j := 129) dX6_digest_70 sh_0 (Nat.le_of_ble_eq_true rfl) rfl inX6 (Nat.le_of_ble_eq_true rfl) rfl fl_RX6_30 ?_
  refine vJ.getR (ci := 5) (k := 0) (j := 130) dX6_digest_73 sh_129 (Nat.le_of_ble_eq_true rfl) rfl inX5 (Nat.le_of_ble_eq_true rfl) rfl fl_RX6_173 ?_
  refine vJ.aload_n dX6_digest_76 rfl rfl ?_
  refine vJ.getR (ci := 6) (k := 0) (j := 1) dX6_digest_77 sh_0 (Nat.le_of_ble_eq_true rfl) rfl inX6 (Nat.le_of_ble_eq_true rfl) rfl fl_RX6_10 ?_
  refine vJ.getI (ci := 1) (k := 1) dX6_digest_80 sh_1 (Nat.le_of_ble_eq_true rfl) rfl inX1 (Nat.le_of_ble_eq_true rfl) rfl fl_RX6_67 ?_
  refine vJ.callS (Yc := mX6_mixed) (frc := 0) (loc := 0) (as := [.long r5, .ref 130, .int (m4.1 1 1)]) dX6_digest_83 rfl ml_RX6_206 st_yX6_mixed co_X6_mixed in_TableSetter pl_X6_mixed (Nat.le_of_ble_eq_true rfl) (Nat.le_of_ble_eq_true rfl) (Nat.le_of_ble_eq_true rfl) ?_
  refine Ev.gl h (fun r7 m6 h => ?_)
  refine vJ.lstore_n (ls2 := [(0, .ref 0), (1, .long r7)]) dX6_digest_86 rfl (Nat.le_of_ble_eq_true rfl) rfl ?_
  refine vJ.lload_n dX6_digest_87 rfl rfl ?_
  refine vJ.aload_n dX6_digest_88 rfl rfl ?_
  refine vJ.getR (ci := 6) (k := 0) (j := 1) dX6_digest_89 sh_0 (Nat.le_of_ble_eq_true rfl) rfl inX6 (Nat.le_of_ble_eq_true rfl) rfl fl_RX6_10 ?_
  refine vJ.getR (ci := 1) (k := 5) (j := 3) dX6_digest_92 sh_1 (Nat.le_of_ble_eq_true rfl) rfl inX1 (Nat.le_of_ble_eq_true rfl) rfl fl_RX6_73 ?_
  refine vJ.bipush dX6_digest_95 cb_10 ?_
  refine vJ.callS (Yc := mX6_mixed) (frc := 0) (loc := 0) (as := [.long r7, .ref 3, .int (10 : Int32)]) dX6_digest_97 rfl ml_RX6_206 st_yX6_mixed co_X6_mixed in_TableSetter pl_X6_mixed (Nat.le_of_ble_eq_true rfl) (Nat.le_of_ble_eq_true rfl) (Nat.le_of_ble_eq_true rfl) ?_
  refine Ev.gl h (fun r9 m8 h => ?_)
  refine vJ.lstore_n (ls2 := [(0, .ref 0), (1, .long r9)]) dX6_digest_100 rfl (Nat.le_of_ble_eq_true rfl) rfl ?_
  refine vJ.iconst dX6_digest_101 ci_0 ?_
  refine vJ.istore_n (ls2 := [(0, .ref 0), (1, .long r9), (3, .int (0 : Int32))]) dX6_digest_102 rfl (Nat.le_of_ble_eq_true rfl) rfl ?_
  exact h
def EI_X6_digest  (m : vM) (P : Int64 → vM → Prop) : Prop := Ev mX6_digest 2 51 197 [.ref 0] 197 SH m (vPl P)
theorem f_X6_digest  {m : vM} {P : Int64 → vM → Prop} (h : J_X6_digest_0  m P) : EI_X6_digest  m P := Ev.of pn_X6_digest (Nat.le_of_ble_eq_true rfl) h
def J_X6_digest_169 (l1 : Int64) (l3 : Int32) (m : vM) (P : Int64 → vM → Prop) : Prop := vJ mX6_digest 2 51 197 none 169 [(0, .ref 0), (1, .long l1), (3, .int l3)] [] 197 SH m (vPl P)
def wp_X6_digest_103 (l1 : Int64) (l3 : Int32) (m : vM) (P : Int64 → vM → Prop) : Prop :=
  (((m.1 1 3) ≤ l3 →
    ∀ v1 : Int64, v1 = (((31 : Int64) * l1) + (Int32.toInt64 (m.1 139 0))) →
    J_X6_digest_169 v1 (0 : Int32) m P) ∧
  (¬ (m.1 1 3) ≤ l3 →
    wp_X1_present l3 m (fun o8 m2 =>
      ((o8 = none →
        ∀ v5 : Int64, v5 = (((31 : Int64) * l1) - (1 : Int64)) →
        J_X6_digest_103 v5 (l3 + (1 : Int32)) m2 P) ∧
      (∀ i3 : Nat, i3 < 40 → o8 = some i3 →
        EI_X6_mixedCell l1 i3 m2 (fun r7 m6 =>
          J_X6_digest_103 r7 (l3 + (1 : Int32)) m6 P))))))
set_option maxRecDepth 20000 in
set_option maxHeartbeats 4000000 in
theorem b_X6_digest_103 {l1 : Int64} {l3 : Int32} {m : vM} {P : Int64 → vM → Prop}  (h : wp_X6_digest_103 l1 l3 m P) : J_X6_digest_103 l1 l3 m P := by
  show vJ mX6_digest 2 51 197 none 103 [(0, .ref 0), (1, .long l1), (3, .int l3)] [] 197 SH m (vPl P)
  unfold wp_X6_digest_103 at h
  refine vJ.iload_n dX6_digest_103 rfl rfl ?_
  refine vJ.aload_n dX6_digest_104 rfl rfl ?_
  refine vJ.getR (ci := 6) (k := 0) (j := 1) dX6_digest_105 sh_0 (Nat.le_of_ble_eq_true rfl) rfl inX6 (Nat.le_of_ble_eq_true rfl) rfl fl_RX6_10 ?_
  refine vJ.getI (ci := 1) (k := 3) dX6_digest_108 sh_1 (Nat.le_of_ble_eq_true rfl) rfl inX1 (Nat.le_of_ble_eq_true rfl) rfl fl_RX6_80 ?_
  refine vJ.icmp_ge (tgt := 152) dX6_digest_111 (by decide) (fun hc9 => ?_) (fun hc9 => ?_)
  · replace h := h.1 hc9
    refine vJ.ldc2 dX6_digest_152 kl_RX6_201 ?_
    refine vJ.lload_n dX6_digest_155 rfl rfl ?_
    refine vJ.lmul dX6_digest_156 ?_
    refine vJ.aload_n dX6_digest_157 rfl rfl ?_
    refine vJ.getR (ci := 6) (k := 3) (j := 139) dX6_digest_158 sh_0 (Nat.le_of_ble_eq_true rfl) rfl inX6 (Nat.le_of_ble_eq_true rfl) rfl fl_RX6_37 ?_
    refine vJ.getI (ci := 3) (k := 0) dX6_digest_161 sh_139 (Nat.le_of_ble_eq_true rfl) rfl inX3 (Nat.le_of_ble_eq_true rfl) rfl fl_RX6_180 ?_
    refine vJ.i2l dX6_digest_164 ?_
    refine vJ.ladd dX6_digest_165 ?_
    refine vJ.topl (fun v1 ev1 => ?_)
    replace h := h v1 ev1
    refine vJ.lstore_n (ls2 := [(0, .ref 0), (1, .long v1), (3, .int l3)]) dX6_digest_166 rfl (Nat.le_of_ble_eq_true rfl) rfl ?_
    refine vJ.iconst dX6_digest_167 ci_0 ?_
    refine vJ.istore_n (ls2 := [(0, .ref 0), (1, .long v1), (3, .int (0 : Int32))]) dX6_digest_168 rfl (Nat.le_of_ble_eq_true rfl) rfl ?_
    exact h
  · replace h := h.2 hc9
    refine vJ.aload_n dX6_digest_114 rfl rfl ?_
    refine vJ.getR (ci := 6) (k := 0) (j := 1) dX6_digest_115 sh_0 (Nat.le_of_ble_eq_true rfl) rfl inX6 (Nat.le_of_ble_eq_true rfl) rfl fl_RX6_10 ?_
    refine vJ.iload_n dX6_digest_118 rfl rfl ?_
    refine vJ.callV (ci := 1) (Yc := mX1_present) (frc := 1) (loc := 21) (as := [.int l3]) dX6_digest_119 rfl sh_1 (Nat.le_of_ble_eq_true rfl) rfl ml_RX6_210 im_yX1_present se_yX1_present co_X1_present in_TableSetter_Grid pl_X1_present (Nat.le_of_ble_eq_true rfl) (Nat.le_of_ble_eq_true rfl) (Nat.le_of_ble_eq_true rfl) ?_
    refine Ev.gc (e_X1_present  h) (fun m2 h => ?_) (fun i3 m2 hi4 h => ?_)
    · replace h := h.1 rfl
      refine vJ.astoreN (ls2 := [(0, .ref 0), (1, .long l1), (3, .int l3), (4, .null)]) dX6_digest_122 (Nat.le_of_ble_eq_true rfl) rfl ?_
      refine vJ.aloadN dX6_digest_124 rfl ?_
      refine vJ.ifnonnullN dX6_digest_126 ?_
      refine vJ.ldc2 dX6_digest_129 kl_RX6_201 ?_
      refine vJ.lload_n dX6_digest_132 rfl rfl ?_
      refine vJ.lmul dX6_digest_133 ?_
      refine vJ.lconst dX6_digest_134 cl_1 ?_
      refine vJ.lsub dX6_digest_135 ?_
      refine vJ.goto (tgt := 145) dX6_digest_136 (by decide) ?_
      refine vJ.topl (fun v5 ev5 => ?_)
      replace h := h v5 ev5
      refine vJ.lstore_n (ls2 := [(0, .ref 0), (1, .long v5), (3, .int l3), (4, .null)]) dX6_digest_145 rfl (Nat.le_of_ble_eq_true rfl) rfl ?_
      refine vJ.iinc (v := l3 + (1 : Int32)) (ls2 := [(0, .ref 0), (1, .long v5), (3, .int (l3 + (1 : Int32))), (4, .null)]) dX6_digest_146 rfl (congrArg (l3 + ·) ci_1) (Nat.le_of_ble_eq_true rfl) rfl ?_
      refine vJ.goto (tgt := 103) dX6_digest_149 (by decide) ?_
      refine vJ.sub [0, 1, 2] rfl ?_
      exact h
    · replace h := h.2 i3 hi4 rfl
      refine vJ.astore (ls2 := [(0, .ref 0), (1, .long l1), (3, .int l3), (4, .ref (cA i3))]) dX6_digest_122 (Nat.le_of_ble_eq_true rfl) rfl ?_
      refine vJ.aload dX6_digest_124 rfl ?_
      refine vJ.ifnonnull (tgt := 139) dX6_digest_126 (by decide) ?_
      refine vJ.lload_n dX6_digest_139 rfl rfl ?_
      refine vJ.aload dX6_digest_140 rfl ?_
      refine vJ.callS (Yc := mX6_mixedCell) (frc := 1) (loc := 26) (as := [.long l1, .ref (cA i3)]) dX6_digest_142 rfl ml_RX6_213 st_yX6_mixedCell co_X6_mixedCell in_TableSetter pl_X6_mixedCell (Nat.le_of_ble_eq_true rfl) (Nat.le_of_ble_eq_true rfl) (Nat.le_of_ble_eq_true rfl) ?_
      refine Ev.gl h (fun r7 m6 h => ?_)
      refine vJ.lstore_n (ls2 := [(0, .ref 0), (1, .long r7), (3, .int l3), (4, .ref (cA i3))]) dX6_digest_145 rfl (Nat.le_of_ble_eq_true rfl) rfl ?_
      refine vJ.iinc (v := l3 + (1 : Int32)) (ls2 := [(0, .ref 0), (1, .long r7), (3, .int (l3 + (1 : Int32))), (4, .ref (cA i3))]) dX6_digest_146 rfl (congrArg (l3 + ·) ci_1) (Nat.le_of_ble_eq_true rfl) rfl ?_
      refine vJ.goto (tgt := 103) dX6_digest_149 (by decide) ?_
      refine vJ.sub [0, 1, 2] rfl ?_
      exact h
def wp_X6_digest_169 (l1 : Int64) (l3 : Int32) (m : vM) (P : Int64 → vM → Prop) : Prop :=
  (((m.1 139 0) ≤ l3 →
    P l1 m) ∧
  (¬ (m.1 139 0) ≤ l3 →
    (((16 : Int32) ≤ l3 →
      P l1 m) ∧
    (¬ (16 : Int32) ≤ l3 →
      vp_in l3 16 ∧
      EI_X6_mixed l1 (141 + (Int32.toNatClampNeg l3)) 4 (4 : Int32) m (fun r4 m3 =>
        J_X6_digest_169 r4 (l3 + (1 : Int32)) m3 P)))))
set_option maxRecDepth 20000 in
set_option maxHeartbeats 4000000 in
theorem b_X6_digest_169 {l1 : Int64} {l3 : Int32} {m : vM} {P : Int64 → vM → Prop}  (h : wp_X6_digest_169 l1 l3 m P) : J_X6_digest_169 l1 l3 m P := by
  show vJ mX6_digest 2 51 197 none 169 [(0, .ref 0), (1, .long l1), (3, .int l3)] [] 197 SH m (vPl P)
  unfold wp_X6_digest_169 at h
  refine vJ.iload_n dX6_digest_169 rfl rfl ?_
  refine vJ.aload_n dX6_digest_170 rfl rfl ?_
  refine vJ.getR (ci := 6) (k := 3) (j := 139) dX6_digest_171 sh_0 (Nat.le_of_ble_eq_true rfl) rfl inX6 (Nat.le_of_ble_eq_true rfl) rfl fl_RX6_37 ?_
  refine vJ.getI (ci := 3) (k := 0) dX6_digest_174 sh_139 (Nat.le_of_ble_eq_true rfl) rfl inX3 (Nat.le_of_ble_eq_true rfl) rfl fl_RX6_180 ?_
  refine vJ.icmp_ge (tgt := 207) dX6_digest_177 (by decide) (fun hc6 => ?_) (fun hc6 => ?_)
  · replace h := h.1 hc6
    refine vJ.lload_n dX6_digest_207 rfl rfl ?_
    exact vJ.lreturn dX6_digest_208 rfl rfl ⟨rfl, _, rfl, h⟩
  · replace h := h.2 hc6
    refine vJ.iload_n dX6_digest_180 rfl rfl ?_
    refine vJ.bipush dX6_digest_181 cb_16 ?_
    refine vJ.icmp_ge (tgt := 207) dX6_digest_183 (by decide) (fun hc5 => ?_) (fun hc5 => ?_)
    · replace h := h.1 hc5
      refine vJ.lload_n dX6_digest_207 rfl rfl ?_
      exact vJ.lreturn dX6_digest_208 rfl rfl ⟨rfl, _, rfl, h⟩
    · replace h := h.2 hc5
      refine vJ.lload_n dX6_digest_186 rfl rfl ?_
      refine vJ.aload_n dX6_digest_187 rfl rfl ?_
      refine vJ.getR (ci := 6) (k := 3) (j := 139) dX6_digest_188 sh_0 (Nat.le_of_ble_eq_true rfl) rfl inX6 (Nat.le_of_ble_eq_true rfl) rfl fl_RX6_37 ?_
      refine vJ.getR (ci := 3) (k := 1) (j := 140) dX6_digest_191 sh_139 (Nat.le_of_ble_eq_true rfl) rfl inX3 (Nat.le_of_ble_eq_true rfl) rfl fl_RX6_183 ?_
      refine vJ.iload_n dX6_digest_194 rfl rfl ?_
      obtain ⟨hb1, h⟩ := h
      have hi2 := vp_lt hb1
      refine vJ.aald5 dX6_digest_195 sh_140 (Nat.le_of_ble_eq_true rfl) hb1 (cs140_at hi2) ?_
      refine vJ.iconst dX6_digest_196 ci_4 ?_
      refine vJ.callS (Yc := mX6_mixed) (frc := 0) (loc := 0) (as := [.long l1, .ref (141 + (Int32.toNatClampNeg l3)), .int (4 : Int32)]) dX6_digest_197 rfl ml_RX6_206 st_yX6_mixed co_X6_mixed in_TableSetter pl_X6_mixed (Nat.le_of_ble_eq_true rfl) (Nat.le_of_ble_eq_true rfl) (Nat.le_of_ble_eq_true rfl) ?_
      refine Ev.gl h (fun r4 m3 h => ?_)
      refine vJ.lstore_n (ls2 := [(0, .ref 0), (1, .long r4), (3, .int l3)]) dX6_digest_200 rfl (Nat.le_of_ble_eq_true rfl) rfl ?_
      refine vJ.iinc (v := l3 + (1 : Int32)) (ls2 := [(0, .ref 0), (1, .long r4), (3, .int (l3 + (1 : Int32)))]) dX6_digest_201 rfl (congrArg (l3 + ·) ci_1) (Nat.le_of_ble_eq_true rfl) rfl ?_
      refine vJ.goto (tgt := 169) dX6_digest_204 (by decide) ?_
      exact h
