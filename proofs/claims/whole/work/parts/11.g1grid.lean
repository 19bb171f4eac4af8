def J_X1_begin_0 (l1 : Int32) (l2 : Int32) (l3 : Int32) (m : vM) (P : vM → Prop) : Prop := vJ mX1_begin 1 23 197 none 0 [(0, .ref 1), (1, .int l1), (2, .int l2), (3, .int l3)] [] 197 SH m (vPv P)
def wp_X1_begin (l1 : Int32) (l2 : Int32) (l3 : Int32) (m : vM) (P : vM → Prop) : Prop :=
  ∀ m1 : vM, m1 = upI m 1 0 l1 →
  ∀ m2 : vM, m2 = upI m1 1 1 l2 →
  ∀ m3 : vM, m3 = upI m2 1 2 l3 →
  ∀ m4 : vM, m4 = upI m3 1 3 (0 : Int32) →
  ∀ m5 : vM, m5 = fillA m4 2 6 (1 : Int32) →
  P m5
set_option maxRecDepth 20000 in
set_option maxHeartbeats 4000000 in
theorem b_X1_begin {l1 : Int32} {l2 : Int32} {l3 : Int32} {m : vM} {P : vM → Prop}  (h : wp_X1_begin l1 l2 l3 m P) : J_X1_begin_0 l1 l2 l3 m P := by
  show vJ mX1_begin 1 23 197 none 0 [(0, .ref 1), (1, .int l1), (2, .int l2), (3, .int l3)] [] 197 SH m (vPv P)
  unfold wp_X1_begin at h
  refine vJ.aload_n dX1_begin_0 rfl rfl ?_
  refine vJ.iload_n dX1_begin_1 rfl rfl ?_
  refine vJ.putI (ci := 1) (k := 0) dX1_begin_2 sh_1 (Nat.le_of_ble_eq_true rfl) rfl inX1 tyX1 tyX1_ok nmX1 (Nat.le_of_ble_eq_true rfl) rfl rfl fl_RX1_35 rfl rfl ?_
  refine vJ.topm (fun m1 em1 => ?_)
  replace h := h m1 em1
  refine vJ.aload_n dX1_begin_5 rfl rfl ?_
  refine vJ.iload_n dX1_begin_6 rfl rfl ?_
  refine vJ.putI (ci := 1) (k := 1) dX1_begin_7 sh_1 (Nat.le_of_ble_eq_true rfl) rfl inX1 tyX1 tyX1_ok nmX1 (Nat.le_of_ble_eq_true rfl) rfl rfl fl_RX1_39 rfl rfl ?_
  refine vJ.topm (fun m2 em2 => ?_)
  replace h := h m2 em2
  refine vJ.aload_n dX1_begin_10 rfl rfl ?_
  refine vJ.iload_n dX1_begin_11 rfl rfl ?_
  refine vJ.putI (ci := 1) (k := 2) dX1_begin_12 sh_1 (Nat.le_of_ble_eq_true rfl) rfl inX1 tyX1 tyX1_ok nmX1 (Nat.le_of_ble_eq_true rfl) rfl rfl fl_RX1_42 rfl rfl ?_
  refine vJ.topm (fun m3 em3 => ?_)
  replace h := h m3 em3
  refine vJ.aload_n dX1_begin_15 rfl rfl ?_
  refine vJ.iconst dX1_begin_16 ci_0 ?_
  refine vJ.putI (ci := 1) (k := 3) dX1_begin_17 sh_1 (Nat.le_of_ble_eq_true rfl) rfl inX1 tyX1 tyX1_ok nmX1 (Nat.le_of_ble_eq_true rfl) rfl rfl fl_RX1_45 rfl rfl ?_
  refine vJ.topm (fun m4 em4 => ?_)
  replace h := h m4 em4
  refine vJ.aload_n dX1_begin_20 rfl rfl ?_
  refine vJ.getR (ci := 1) (k := 4) (j := 2) dX1_begin_21 sh_1 (Nat.le_of_ble_eq_true rfl) rfl inX1 (Nat.le_of_ble_eq_true rfl) rfl fl_RX1_9 ?_
  refine vJ.iconst dX1_begin_24 ci_1 ?_
  refine vJ.callS (Yc := mJ7_fill_53178) (frc := 0) (loc := 0) (as := [.ref 2, .int (1 : Int32)]) dX1_begin_25 rfl ml_RX1_25 st_yJ7_fill_53178 co_J7_fill_53178 in_java_util_Arrays pl_J7_fill_53178 (Nat.le_of_ble_eq_true rfl) (Nat.le_of_ble_eq_true rfl) (Nat.le_of_ble_eq_true rfl) ?_
  refine ev_fill (a := 2) (v := (1 : Int32)) sh_2 (Nat.le_of_ble_eq_true rfl) (fun m5 em5 => ?_)
  replace h := h m5 em5
  exact vJ.vreturn dX1_begin_28 rfl rfl ⟨rfl, rfl, h⟩
def EI_X1_begin (l1 : Int32) (l2 : Int32) (l3 : Int32) (m : vM) (P : vM → Prop) : Prop := Ev mX1_begin 1 23 197 [.ref 1, .int l1, .int l2, .int l3] 197 SH m (vPv P)
theorem f_X1_begin {l1 : Int32} {l2 : Int32} {l3 : Int32} {m : vM} {P : vM → Prop} (h : J_X1_begin_0 l1 l2 l3 m P) : EI_X1_begin l1 l2 l3 m P := Ev.of pn_X1_begin (Nat.le_of_ble_eq_true rfl) h
theorem e_X1_begin {l1 : Int32} {l2 : Int32} {l3 : Int32} {m : vM} {P : vM → Prop}  (h : wp_X1_begin l1 l2 l3 m P) : EI_X1_begin l1 l2 l3 m P := f_X1_begin (b_X1_begin  h)
def J_X1_add_0 (l1 : Int32) (l2 : Int32) (l3 : Int32) (l4 : Int32) (l5 : Int32) (m : vM) (P : Int32 → vM → Prop) : Prop := vJ mX1_add 4 89 197 none 0 [(0, .ref 1), (1, .int l1), (2, .int l2), (3, .int l3), (4, .int l4), (5, .int l5)] [] 197 SH m (vPi P)
def wp_X1_add (l1 : Int32) (l2 : Int32) (l3 : Int32) (l4 : Int32) (l5 : Int32) (m : vM) (P : Int32 → vM → Prop) : Prop :=
  (((40 : Int32) ≤ (m.1 1 3) →
    P (-2 : Int32) m) ∧
  (¬ (40 : Int32) ≤ (m.1 1 3) →
    vp_in (m.1 1 3) 40 ∧
    vp_in (m.1 1 3) 40 ∧
    wp_X0_begin (Int32.toNatClampNeg (m.1 1 3)) l1 l2 l3 l4 l5 m (fun m5 =>
      ∀ m6 : vM, m6 = upI m5 1 3 ((m5.1 1 3) + (1 : Int32)) →
      P ((m6.1 1 3) - (1 : Int32)) m6)))
set_option maxRecDepth 20000 in
set_option maxHeartbeats 4000000 in
theorem b_X1_add {l1 : Int32} {l2 : Int32} {l3 : Int32} {l4 : Int32} {l5 : Int32} {m : vM} {P : Int32 → vM → Prop}  (h : wp_X1_add l1 l2 l3 l4 l5 m P) : J_X1_add_0 l1 l2 l3 l4 l5 m P := by
  show vJ mX1_add 4 89 197 none 0 [(0, .ref 1), (1, .int l1), (2, .int l2), (3, .int l3), (4, .int l4), (5, .int l5)] [] 197 SH m (vPi P)
  unfold wp_X1_add at h
  refine vJ.aload_n dX1_add_0 rfl rfl ?_
  refine vJ.getI (ci := 1) (k := 3) dX1_add_1 sh_1 (Nat.le_of_ble_eq_true rfl) rfl inX1 (Nat.le_of_ble_eq_true rfl) rfl fl_RX1_45 ?_
  refine vJ.aload_n dX1_add_4 rfl rfl ?_
  refine vJ.getR (ci := 1) (k := 6) (j := 4) dX1_add_5 sh_1 (Nat.le_of_ble_eq_true rfl) rfl inX1 (Nat.le_of_ble_eq_true rfl) rfl fl_RX1_20 ?_
  refine vJ.alen3 (v := (40 : Int32)) dX1_add_8 sh_4 (Nat.le_of_ble_eq_true rfl) rfl ?_
  refine vJ.icmp_ge (tgt := 24) dX1_add_9 (by decide) (fun hc7 => ?_) (fun hc7 => ?_)
  · replace h := h.1 hc7
    refine vJ.bipush dX1_add_24 cb_m2 ?_
    exact vJ.ireturn dX1_add_26 rfl rfl rfl ⟨rfl, _, rfl, h⟩
  · replace h := h.2 hc7
    refine vJ.aload_n dX1_add_12 rfl rfl ?_
    refine vJ.getR (ci := 1) (k := 6) (j := 4) dX1_add_13 sh_1 (Nat.le_of_ble_eq_true rfl) rfl inX1 (Nat.le_of_ble_eq_true rfl) rfl fl_RX1_20 ?_
    refine vJ.aload_n dX1_add_16 rfl rfl ?_
    refine vJ.getI (ci := 1) (k := 3) dX1_add_17 sh_1 (Nat.le_of_ble_eq_true rfl) rfl inX1 (Nat.le_of_ble_eq_true rfl) rfl fl_RX1_45 ?_
    obtain ⟨hb1, h⟩ := h
    have hi2 := vp_lt hb1
    refine vJ.aaldS dX1_add_20 sh_4 (Nat.le_of_ble_eq_true rfl) hb1 (cs4_at hi2) ?_
    refine vJ.ifnonnull (tgt := 27) dX1_add_21 (by decide) ?_
    refine vJ.aload_n dX1_add_27 rfl rfl ?_
    refine vJ.getR (ci := 1) (k := 6) (j := 4) dX1_add_28 sh_1 (Nat.le_of_ble_eq_true rfl) rfl inX1 (Nat.le_of_ble_eq_true rfl) rfl fl_RX1_20 ?_
    refine vJ.aload_n dX1_add_31 rfl rfl ?_
    refine vJ.getI (ci := 1) (k := 3) dX1_add_32 sh_1 (Nat.le_of_ble_eq_true rfl) rfl inX1 (Nat.le_of_ble_eq_true rfl) rfl fl_RX1_45 ?_
    obtain ⟨hb3, h⟩ := h
    have hi4 := vp_lt hb3
    refine vJ.aaldS dX1_add_35 sh_4 (Nat.le_of_ble_eq_true rfl) hb3 (cs4_at hi4) ?_
    refine vJ.iload_n dX1_add_36 rfl rfl ?_
    refine vJ.iload_n dX1_add_37 rfl rfl ?_
    refine vJ.iload_n dX1_add_38 rfl rfl ?_
    refine vJ.iload dX1_add_39 rfl ?_
    refine vJ.iload dX1_add_41 rfl ?_
    refine vJ.callV (ci := 0) (Yc := mX0_begin) (frc := 3) (loc := 64) (as := [.int l1, .int l2, .int l3, .int l4, .int l5]) dX1_add_43 rfl (sh_C hi4) (lt_C hi4) rfl ml_RX1_56 im_yX0_begin se_yX0_begin co_X0_begin in_TableSetter_Cell pl_X0_begin (Nat.le_of_ble_eq_true rfl) (Nat.le_of_ble_eq_true rfl) (Nat.le_of_ble_eq_true rfl) ?_
    refine Ev.gv (e_X0_begin hi4 h) (fun m5 h => ?_)
    refine vJ.aload_n dX1_add_46 rfl rfl ?_
    refine vJ.dup dX1_add_47 rfl ?_
    refine vJ.getI (ci := 1) (k := 3) dX1_add_48 sh_1 (Nat.le_of_ble_eq_true rfl) rfl inX1 (Nat.le_of_ble_eq_true rfl) rfl fl_RX1_45 ?_
    refine vJ.iconst dX1_add_51 ci_1 ?_
    refine vJ.iadd dX1_add_52 ?_
    refine vJ.putI (ci := 1) (k := 3) dX1_add_53 sh_1 (Nat.le_of_ble_eq_true rfl) rfl inX1 tyX1 tyX1_ok nmX1 (Nat.le_of_ble_eq_true rfl) rfl rfl fl_RX1_45 rfl rfl ?_
    refine vJ.topm (fun m6 em6 => ?_)
    replace h := h m6 em6
    refine vJ.aload_n dX1_add_56 rfl rfl ?_
    refine vJ.getI (ci := 1) (k := 3) dX1_add_57 sh_1 (Nat.le_of_ble_eq_true rfl) rfl inX1 (Nat.le_of_ble_eq_true rfl) rfl fl_RX1_45 ?_
    refine vJ.iconst dX1_add_60 ci_1 ?_
    refine vJ.isub dX1_add_61 ?_
    exact vJ.ireturn dX1_add_62 rfl rfl rfl ⟨rfl, _, rfl, h⟩
def EI_X1_add (l1 : Int32) (l2 : Int32) (l3 : Int32) (l4 : Int32) (l5 : Int32) (m : vM) (P : Int32 → vM → Prop) : Prop := Ev mX1_add 4 89 197 [.ref 1, .int l1, .int l2, .int l3, .int l4, .int l5] 197 SH m (vPi P)
theorem f_X1_add {l1 : Int32} {l2 : Int32} {l3 : Int32} {l4 : Int32} {l5 : Int32} {m : vM} {P : Int32 → vM → Prop} (h : J_X1_add_0 l1 l2 l3 l4 l5 m P) : EI_X1_add l1 l2 l3 l4 l5 m P := Ev.of pn_X1_add (Nat.le_of_ble_eq_true rfl) h
theorem e_X1_add {l1 : Int32} {l2 : Int32} {l3 : Int32} {l4 : Int32} {l5 : Int32} {m : vM} {P : Int32 → vM → Prop}  (h : wp_X1_add l1 l2 l3 l4 l5 m P) : EI_X1_add l1 l2 l3 l4 l5 m P := f_X1_add (b_X1_add  h)
def J_X1_numbered_0 (l1 : Int32) (m : vM) (P : Option Nat → vM → Prop) : Prop := vJ mX1_numbered 0 0 197 none 0 [(0, .ref 1), (1, .int l1)] [] 197 SH m (vPc P)
def wp_X1_numbered (l1 : Int32) (m : vM) (P : Option Nat → vM → Prop) : Prop :=
  ((l1 < (0 : Int32) →
    P none m) ∧
  (¬ l1 < (0 : Int32) →
    (((m.1 1 3) ≤ l1 →
      P none m) ∧
    (¬ (m.1 1 3) ≤ l1 →
      (((40 : Int32) ≤ l1 →
        P none m) ∧
      (¬ (40 : Int32) ≤ l1 →
        vp_in l1 40 ∧
        P (some (Int32.toNatClampNeg l1)) m))))))
set_option maxRecDepth 20000 in
set_option maxHeartbeats 4000000 in
theorem b_X1_numbered {l1 : Int32} {m : vM} {P : Option Nat → vM → Prop}  (h : wp_X1_numbered l1 m P) : J_X1_numbered_0 l1 m P := by
  show vJ mX1_numbered 0 0 197 none 0 [(0, .ref 1), (1, .int l1)] [] 197 SH m (vPc P)
  unfold wp_X1_numbered at h
  refine vJ.iload_n dX1_numbered_0 rfl rfl ?_
  refine vJ.if_lt (tgt := 30) dX1_numbered_1 (by decide) (fun hc5 => ?_) (fun hc5 => ?_)
  · replace h := h.1 hc5
    refine vJ.null dX1_numbered_30 ?_
    exact vJ.areturn dX1_numbered_31 rfl (Or.inl rfl) rfl ⟨rfl, none, rfl, (fun _ q => nomatch q), h⟩
  · replace h := h.2 hc5
    refine vJ.iload_n dX1_numbered_4 rfl rfl ?_
    refine vJ.aload_n dX1_numbered_5 rfl rfl ?_
    refine vJ.getI (ci := 1) (k := 3) dX1_numbered_6 sh_1 (Nat.le_of_ble_eq_true rfl) rfl inX1 (Nat.le_of_ble_eq_true rfl) rfl fl_RX1_45 ?_
    refine vJ.icmp_ge (tgt := 30) dX1_numbered_9 (by decide) (fun hc4 => ?_) (fun hc4 => ?_)
    · replace h := h.1 hc4
      refine vJ.null dX1_numbered_30 ?_
      exact vJ.areturn dX1_numbered_31 rfl (Or.inl rfl) rfl ⟨rfl, none, rfl, (fun _ q => nomatch q), h⟩
    · replace h := h.2 hc4
      refine vJ.iload_n dX1_numbered_12 rfl rfl ?_
      refine vJ.aload_n dX1_numbered_13 rfl rfl ?_
      refine vJ.getR (ci := 1) (k := 6) (j := 4) dX1_numbered_14 sh_1 (Nat.le_of_ble_eq_true rfl) rfl inX1 (Nat.le_of_ble_eq_true rfl) rfl fl_RX1_20 ?_
      refine vJ.alen3 (v := (40 : Int32)) dX1_numbered_17 sh_4 (Nat.le_of_ble_eq_true rfl) rfl ?_
      refine vJ.icmp_ge (tgt := 30) dX1_numbered_18 (by decide) (fun hc3 => ?_) (fun hc3 => ?_)
      · replace h := h.1 hc3
        refine vJ.null dX1_numbered_30 ?_
        exact vJ.areturn dX1_numbered_31 rfl (Or.inl rfl) rfl ⟨rfl, none, rfl, (fun _ q => nomatch q), h⟩
      · replace h := h.2 hc3
        refine vJ.aload_n dX1_numbered_21 rfl rfl ?_
        refine vJ.getR (ci := 1) (k := 6) (j := 4) dX1_numbered_22 sh_1 (Nat.le_of_ble_eq_true rfl) rfl inX1 (Nat.le_of_ble_eq_true rfl) rfl fl_RX1_20 ?_
        refine vJ.iload_n dX1_numbered_25 rfl rfl ?_
        obtain ⟨hb1, h⟩ := h
        have hi2 := vp_lt hb1
        refine vJ.aaldS dX1_numbered_26 sh_4 (Nat.le_of_ble_eq_true rfl) hb1 (cs4_at hi2) ?_
        refine vJ.goto (tgt := 31) dX1_numbered_27 (by decide) ?_
        exact vJ.areturn dX1_numbered_31 rfl (Or.inr ⟨_, rfl⟩) rfl ⟨rfl, some (Int32.toNatClampNeg l1), rfl, (fun _ q => by cases q; exact hi2), h⟩
def EI_X1_numbered (l1 : Int32) (m : vM) (P : Option Nat → vM → Prop) : Prop := Ev mX1_numbered 0 0 197 [.ref 1, .int l1] 197 SH m (vPc P)
theorem f_X1_numbered {l1 : Int32} {m : vM} {P : Option Nat → vM → Prop} (h : J_X1_numbered_0 l1 m P) : EI_X1_numbered l1 m P := Ev.of pn_X1_numbered (Nat.le_of_ble_eq_true rfl) h
theorem e_X1_numbered {l1 : Int32} {m : vM} {P : Option Nat → vM → Prop}  (h : wp_X1_numbered l1 m P) : EI_X1_numbered l1 m P := f_X1_numbered (b_X1_numbered  h)
def J_X1_present_0 (l1 : Int32) (m : vM) (P : Option Nat → vM → Prop) : Prop := vJ mX1_present 1 21 197 none 0 [(0, .ref 1), (1, .int l1)] [] 197 SH m (vPc P)
def wp_X1_present (l1 : Int32) (m : vM) (P : Option Nat → vM → Prop) : Prop :=
  wp_X1_numbered l1 m (fun o5 m1 =>
    ((o5 = none →
      P none m1) ∧
    (∀ i2 : Nat, i2 < 40 → o5 = some i2 →
      (((m1.1 (cA i2) 8) = (0 : Int32) →
        P (some i2) m1) ∧
      (¬ (m1.1 (cA i2) 8) = (0 : Int32) →
        P none m1)))))
set_option maxRecDepth 20000 in
set_option maxHeartbeats 4000000 in
theorem b_X1_present {l1 : Int32} {m : vM} {P : Option Nat → vM → Prop}  (h : wp_X1_present l1 m P) : J_X1_present_0 l1 m P := by
  show vJ mX1_present 1 21 197 none 0 [(0, .ref 1), (1, .int l1)] [] 197 SH m (vPc P)
  unfold wp_X1_present at h
  refine vJ.aload_n dX1_present_0 rfl rfl ?_
  refine vJ.iload_n dX1_present_1 rfl rfl ?_
  refine vJ.callV (ci := 1) (Yc := mX1_numbered) (frc := 0) (loc := 0) (as := [.int l1]) dX1_present_2 rfl sh_1 (Nat.le_of_ble_eq_true rfl) rfl ml_RX1_48 im_yX1_numbered se_yX1_numbered co_X1_numbered in_TableSetter_Grid pl_X1_numbered (Nat.le_of_ble_eq_true rfl) (Nat.le_of_ble_eq_true rfl) (Nat.le_of_ble_eq_true rfl) ?_
  refine Ev.gc (e_X1_numbered  h) (fun m1 h => ?_) (fun i2 m1 hi3 h => ?_)
  · replace h := h.1 rfl
    refine vJ.astore_nN (ls2 := [(0, .ref 1), (1, .int l1), (2, .null)]) dX1_present_5 rfl (Nat.le_of_ble_eq_true rfl) rfl ?_
    refine vJ.aload_nN dX1_present_6 rfl rfl ?_
    refine vJ.ifnullN (tgt := 17) dX1_present_7 (by decide) ?_
    refine vJ.null dX1_present_17 ?_
    refine vJ.goto (tgt := 22) dX1_present_18 (by decide) ?_
    exact vJ.areturn dX1_present_22 rfl (Or.inl rfl) rfl ⟨rfl, none, rfl, (fun _ q => nomatch q), h⟩
  · replace h := h.2 i2 hi3 rfl
    refine vJ.astore_n (ls2 := [(0, .ref 1), (1, .int l1), (2, .ref (cA i2))]) dX1_present_5 rfl (Nat.le_of_ble_eq_true rfl) rfl ?_
    refine vJ.aload_n dX1_present_6 rfl rfl ?_
    refine vJ.ifnull dX1_present_7 ?_
    refine vJ.aload_n dX1_present_10 rfl rfl ?_
    refine vJ.getI (ci := 0) (k := 8) dX1_present_11 (sh_C hi3) (lt_C hi3) rfl inX0 (Nat.le_of_ble_eq_true rfl) rfl fl_RX1_52 ?_
    refine vJ.if_eq (tgt := 21) dX1_present_14 (by decide) (fun hc4 => ?_) (fun hc4 => ?_)
    · replace h := h.1 hc4
      refine vJ.aload_n dX1_present_21 rfl rfl ?_
      exact vJ.areturn dX1_present_22 rfl (Or.inr ⟨_, rfl⟩) rfl ⟨rfl, some i2, rfl, (fun _ q => by cases q; exact hi3), h⟩
    · replace h := h.2 hc4
      refine vJ.null dX1_present_17 ?_
      refine vJ.goto (tgt := 22) dX1_present_18 (by decide) ?_
      exact vJ.areturn dX1_present_22 rfl (Or.inl rfl) rfl ⟨rfl, none, rfl, (fun _ q => nomatch q), h⟩
def EI_X1_present (l1 : Int32) (m : vM) (P : Option Nat → vM → Prop) : Prop := Ev mX1_present 1 21 197 [.ref 1, .int l1] 197 SH m (vPc P)
theorem f_X1_present {l1 : Int32} {m : vM} {P : Option Nat → vM → Prop} (h : J_X1_present_0 l1 m P) : EI_X1_present l1 m P := Ev.of pn_X1_present (Nat.le_of_ble_eq_true rfl) h
theorem e_X1_present {l1 : Int32} {m : vM} {P : Option Nat → vM → Prop}  (h : wp_X1_present l1 m P) : EI_X1_present l1 m P := f_X1_present (b_X1_present  h)
def J_X1_firstOn_0 (l1 : Int32) (l2 : Int32) (l3 : Int32) (l4 : Int32) (m : vM) (P : Int32 → vM → Prop) : Prop := vJ mX1_firstOn 2 43 197 none 0 [(0, .ref 1), (1, .int l1), (2, .int l2), (3, .int l3), (4, .int l4)] [] 197 SH m (vPi P)
def J_X1_firstOn_3 (l1 : Int32) (l2 : Int32) (l3 : Int32) (l4 : Int32) (l5 : Int32) (m : vM) (P : Int32 → vM → Prop) : Prop := vJ mX1_firstOn 2 43 197 none 3 [(0, .ref 1), (1, .int l1), (2, .int l2), (3, .int l3), (4, .int l4), (5, .int l5)] [] 197 SH m (vPi P)
def wp_X1_firstOn_0 (l1 : Int32) (l2 : Int32) (l3 : Int32) (l4 : Int32) (m : vM) (P : Int32 → vM → Prop) : Prop :=
  J_X1_firstOn_3 l1 l2 l3 l4 (0 : Int32) m P
set_option maxRecDepth 20000 in
set_option maxHeartbeats 4000000 in
theorem b_X1_firstOn_0 {l1 : Int32} {l2 : Int32} {l3 : Int32} {l4 : Int32} {m : vM} {P : Int32 → vM → Prop}  (h : wp_X1_firstOn_0 l1 l2 l3 l4 m P) : J_X1_firstOn_0 l1 l2 l3 l4 m P := by
  show vJ mX1_firstOn 2 43 197 none 0 [(0, .ref 1), (1, .int l1), (2, .int l2), (3, .int l3), (4, .int l4)] [] 197 SH m (vPi P)
  unfold wp_X1_firstOn_0 at h
  refine vJ.iconst dX1_firstOn_0 ci_0 ?_
  refine vJ.istore (ls2 := [(0, .ref 1), (1, .int l1), (2, .int l2), (3, .int l3), (4, .int l4), (5, .int (0 : Int32))]) dX1_firstOn_1 (Nat.le_of_ble_eq_true rfl) rfl ?_
  exact h
def EI_X1_firstOn (l1 : Int32) (l2 : Int32) (l3 : Int32) (l4 : Int32) (m : vM) (P : Int32 → vM → Prop) : Prop := Ev mX1_firstOn 2 43 197 [.ref 1, .int l1, .int l2, .int l3, .int l4] 197 SH m (vPi P)
theorem f_X1_firstOn {l1 : Int32} {l2 : Int32} {l3 : Int32} {l4 : Int32} {m : vM} {P : Int32 → vM → Prop} (h : J_X1_firstOn_0 l1 l2 l3 l4 m P) : EI_X1_firstOn l1 l2 l3 l4 m P := Ev.of pn_X1_firstOn (Nat.le_of_ble_eq_true rfl) h
def wp_X1_firstOn_3 (l1 : Int32) (l2 : Int32) (l3 : Int32) (l4 : Int32) (l5 : Int32) (m : vM) (P : Int32 → vM → Prop) : Prop :=
  (((m.1 1 3) ≤ l5 →
    P (-9 : Int32) m) ∧
  (¬ (m.1 1 3) ≤ l5 →
    wp_X1_present l5 m (fun o7 m1 =>
      ((o7 = none →
        J_X1_firstOn_3 l1 l2 l3 l4 (l5 + (1 : Int32)) m1 P) ∧
      (∀ i2 : Nat, i2 < 40 → o7 = some i2 →
        wp_X0_meets i2 l1 l2 l3 l4 m1 (fun r5 m4 =>
          ((r5 = (0 : Int32) →
            J_X1_firstOn_3 l1 l2 l3 l4 (l5 + (1 : Int32)) m4 P) ∧
          (¬ r5 = (0 : Int32) →
            P l5 m4))))))))
set_option maxRecDepth 20000 in
set_option maxHeartbeats 4000000 in
theorem b_X1_firstOn_3 {l1 : Int32} {l2 : Int32} {l3 : Int32} {l4 : Int32} {l5 : Int32} {m : vM} {P : Int32 → vM → Prop}  (h : wp_X1_firstOn_3 l1 l2 l3 l4 l5 m P) : J_X1_firstOn_3 l1 l2 l3 l4 l5 m P := by
  show vJ mX1_firstOn 2 43 197 none 3 [(0, .ref 1), (1, .int l1), (2, .int l2), (3, .int l3), (4, .int l4), (5, .int l5)] [] 197 SH m (vPi P)
  unfold wp_X1_firstOn_3 at h
  refine vJ.iload dX1_firstOn_3 rfl ?_
  refine vJ.aload_n dX1_firstOn_5 rfl rfl ?_
  refine vJ.getI (ci := 1) (k := 3) dX1_firstOn_6 sh_1 (Nat.le_of_ble_eq_true rfl) rfl inX1 (Nat.le_of_ble_eq_true rfl) rfl fl_RX1_45 ?_
  refine vJ.icmp_ge (tgt := 47) dX1_firstOn_9 (by decide) (fun hc8 => ?_) (fun hc8 => ?_)
  · replace h := h.1 hc8
    refine vJ.bipush dX1_firstOn_47 cb_m9 ?_
    exact vJ.ireturn dX1_firstOn_49 rfl rfl rfl ⟨rfl, _, rfl, h⟩
  · replace h := h.2 hc8
    refine vJ.aload_n dX1_firstOn_12 rfl rfl ?_
    refine vJ.iload dX1_firstOn_13 rfl ?_
    refine vJ.callV (ci := 1) (Yc := mX1_present) (frc := 1) (loc := 21) (as := [.int l5]) dX1_firstOn_15 rfl sh_1 (Nat.le_of_ble_eq_true rfl) rfl ml_RX1_59 im_yX1_present se_yX1_present co_X1_present in_TableSetter_Grid pl_X1_present (Nat.le_of_ble_eq_true rfl) (Nat.le_of_ble_eq_true rfl) (Nat.le_of_ble_eq_true rfl) ?_
    refine Ev.gc (e_X1_present  h) (fun m1 h => ?_) (fun i2 m1 hi3 h => ?_)
    · replace h := h.1 rfl
      refine vJ.astoreN (ls2 := [(0, .ref 1), (1, .int l1), (2, .int l2), (3, .int l3), (4, .int l4), (5, .int l5), (6, .null)]) dX1_firstOn_18 (Nat.le_of_ble_eq_true rfl) rfl ?_
      refine vJ.aloadN dX1_firstOn_20 rfl ?_
      refine vJ.ifnullN (tgt := 41) dX1_firstOn_22 (by decide) ?_
      refine vJ.iinc (v := l5 + (1 : Int32)) (ls2 := [(0, .ref 1), (1, .int l1), (2, .int l2), (3, .int l3), (4, .int l4), (5, .int (l5 + (1 : Int32))), (6, .null)]) dX1_firstOn_41 rfl (congrArg (l5 + ·) ci_1) (Nat.le_of_ble_eq_true rfl) rfl ?_
      refine vJ.goto (tgt := 3) dX1_firstOn_44 (by decide) ?_
      refine vJ.sub [0, 1, 2, 3, 4, 5] rfl ?_
      exact h
    · replace h := h.2 i2 hi3 rfl
      refine vJ.astore (ls2 := [(0, .ref 1), (1, .int l1), (2, .int l2), (3, .int l3), (4, .int l4), (5, .int l5), (6, .ref (cA i2))]) dX1_firstOn_18 (Nat.le_of_ble_eq_true rfl) rfl ?_
      refine vJ.aload dX1_firstOn_20 rfl ?_
      refine vJ.ifnull dX1_firstOn_22 ?_
      refine vJ.aload dX1_firstOn_25 rfl ?_
      refine vJ.iload_n dX1_firstOn_27 rfl rfl ?_
      refine vJ.iload_n dX1_firstOn_28 rfl rfl ?_
      refine vJ.iload_n dX1_firstOn_29 rfl rfl ?_
      refine vJ.iload dX1_firstOn_30 rfl ?_
      refine vJ.callV (ci := 0) (Yc := mX0_meets) (frc := 0) (loc := 0) (as := [.int l1, .int l2, .int l3, .int l4]) dX1_firstOn_32 rfl (sh_C hi3) (lt_C hi3) rfl ml_RX1_62 im_yX0_meets se_yX0_meets co_X0_meets in_TableSetter_Cell pl_X0_meets (Nat.le_of_ble_eq_true rfl) (Nat.le_of_ble_eq_true rfl) (Nat.le_of_ble_eq_true rfl) ?_
      refine Ev.gi (e_X0_meets hi3 h) (fun r5 m4 h => ?_)
      refine vJ.if_eq (tgt := 41) dX1_firstOn_35 (by decide) (fun hc6 => ?_) (fun hc6 => ?_)
      · replace h := h.1 hc6
        refine vJ.iinc (v := l5 + (1 : Int32)) (ls2 := [(0, .ref 1), (1, .int l1), (2, .int l2), (3, .int l3), (4, .int l4), (5, .int (l5 + (1 : Int32))), (6, .ref (cA i2))]) dX1_firstOn_41 rfl (congrArg (l5 + ·) ci_1) (Nat.le_of_ble_eq_true rfl) rfl ?_
        refine vJ.goto (tgt := 3) dX1_firstOn_44 (by decide) ?_
        refine vJ.sub [0, 1, 2, 3, 4, 5] rfl ?_
        exact h
      · replace h := h.2 hc6
        refine vJ.iload dX1_firstOn_38 rfl ?_
        exact vJ.ireturn dX1_firstOn_40 rfl rfl rfl ⟨rfl, _, rfl, h⟩
def J_X1_spanOf_0 (i1 : Nat) (a2 : Nat) (n2 : Nat) (m : vM) (P : Int32 → vM → Prop) : Prop := vJ mX1_spanOf 1 21 197 none 0 [(0, .ref 1), (1, .ref (cA i1)), (2, .ref a2)] [] 197 SH m (vPi P)
def J_X1_spanOf_34 (a2 : Nat) (n2 : Nat) (l3 : Int32) (l4 : Int32) (l5 : Int32) (m : vM) (P : Int32 → vM → Prop) : Prop := vJ mX1_spanOf 1 21 197 none 34 [(2, .ref a2), (3, .int l3), (4, .int l4), (5, .int l5)] [] 197 SH m (vPi P)
def wp_X1_spanOf_0 (i1 : Nat) (a2 : Nat) (n2 : Nat) (m : vM) (P : Int32 → vM → Prop) : Prop :=
  ∀ v1 : Int32, v1 = (if (nI n2) < ((m.1 (cA i1) 2) + (m.1 (cA i1) 4)) then (nI n2) else ((m.1 (cA i1) 2) + (m.1 (cA i1) 4))) →
  ∀ v2 : Int32, v2 = (((m.1 (cA i1) 4) - (1 : Int32)) * (m.1 1 2)) →
  ∀ v3 : Int32, v3 = (m.1 (cA i1) 2) →
  J_X1_spanOf_34 a2 n2 v1 v2 v3 m P
set_option maxRecDepth 20000 in
set_option maxHeartbeats 4000000 in
theorem b_X1_spanOf_0 {i1 : Nat} {a2 : Nat} {n2 : Nat} {m : vM} {P : Int32 → vM → Prop} (hi1 : i1 < 40) (ha2 : SH a2 = (0, n2, vz)) (hw2 : a2 < 197) (h : wp_X1_spanOf_0 i1 a2 n2 m P) : J_X1_spanOf_0 i1 a2 n2 m P := by
  show vJ mX1_spanOf 1 21 197 none 0 [(0, .ref 1), (1, .ref (cA i1)), (2, .ref a2)] [] 197 SH m (vPi P)
  unfold wp_X1_spanOf_0 at h
  refine vJ.aload_n dX1_spanOf_0 rfl rfl ?_
  refine vJ.getI (ci := 0) (k := 2) dX1_spanOf_1 (sh_C hi1) (lt_C hi1) rfl inX0 (Nat.le_of_ble_eq_true rfl) rfl fl_RX1_82 ?_
  refine vJ.aload_n dX1_spanOf_4 rfl rfl ?_
  refine vJ.getI (ci := 0) (k := 4) dX1_spanOf_5 (sh_C hi1) (lt_C hi1) rfl inX0 (Nat.le_of_ble_eq_true rfl) rfl fl_RX1_85 ?_
  refine vJ.iadd dX1_spanOf_8 ?_
  refine vJ.aload_n dX1_spanOf_9 rfl rfl ?_
  refine vJ.alen0 (v := (nI n2)) dX1_spanOf_10 ha2 hw2 rfl ?_
  refine vJ.mmin dX1_spanOf_11 ml_RX1_88 st_Lib_Math_min_name in_java_lang_Math co_Math_min (Nat.le_of_ble_eq_true rfl) (Nat.le_of_ble_eq_true rfl) ?_
  refine vJ.topi (fun v1 ev1 => ?_)
  replace h := h v1 ev1
  refine vJ.istore_n (ls2 := [(0, .ref 1), (1, .ref (cA i1)), (2, .ref a2), (3, .int v1)]) dX1_spanOf_14 rfl (Nat.le_of_ble_eq_true rfl) rfl ?_
  refine vJ.aload_n dX1_spanOf_15 rfl rfl ?_
  refine vJ.getI (ci := 0) (k := 4) dX1_spanOf_16 (sh_C hi1) (lt_C hi1) rfl inX0 (Nat.le_of_ble_eq_true rfl) rfl fl_RX1_85 ?_
  refine vJ.iconst dX1_spanOf_19 ci_1 ?_
  refine vJ.isub dX1_spanOf_20 ?_
  refine vJ.aload_n dX1_spanOf_21 rfl rfl ?_
  refine vJ.getI (ci := 1) (k := 2) dX1_spanOf_22 sh_1 (Nat.le_of_ble_eq_true rfl) rfl inX1 (Nat.le_of_ble_eq_true rfl) rfl fl_RX1_42 ?_
  refine vJ.imul dX1_spanOf_25 ?_
  refine vJ.topi (fun v2 ev2 => ?_)
  replace h := h v2 ev2
  refine vJ.istore (ls2 := [(0, .ref 1), (1, .ref (cA i1)), (2, .ref a2), (3, .int v1), (4, .int v2)]) dX1_spanOf_26 (Nat.le_of_ble_eq_true rfl) rfl ?_
  refine vJ.aload_n dX1_spanOf_28 rfl rfl ?_
  refine vJ.getI (ci := 0) (k := 2) dX1_spanOf_29 (sh_C hi1) (lt_C hi1) rfl inX0 (Nat.le_of_ble_eq_true rfl) rfl fl_RX1_82 ?_
  refine vJ.topi (fun v3 ev3 => ?_)
  replace h := h v3 ev3
  refine vJ.istore (ls2 := [(0, .ref 1), (1, .ref (cA i1)), (2, .ref a2), (3, .int v1), (4, .int v2), (5, .int v3)]) dX1_spanOf_32 (Nat.le_of_ble_eq_true rfl) rfl ?_
  refine vJ.sub [2, 3, 4, 5] rfl ?_
  exact h
def EI_X1_spanOf (i1 : Nat) (a2 : Nat) (n2 : Nat) (m : vM) (P : Int32 → vM → Prop) : Prop := Ev mX1_spanOf 1 21 197 [.ref 1, .ref (cA i1), .ref a2] 197 SH m (vPi P)
theorem f_X1_spanOf {i1 : Nat} {a2 : Nat} {n2 : Nat} {m : vM} {P : Int32 → vM → Prop} (h : J_X1_spanOf_0 i1 a2 n2 m P) : EI_X1_spanOf i1 a2 n2 m P := Ev.of pn_X1_spanOf (Nat.le_of_ble_eq_true rfl) h
def wp_X1_spanOf_34 (a2 : Nat) (n2 : Nat) (l3 : Int32) (l4 : Int32) (l5 : Int32) (m : vM) (P : Int32 → vM → Prop) : Prop :=
  ((l3 ≤ l5 →
    P l4 m) ∧
  (¬ l3 ≤ l5 →
    vp_in l5 n2 ∧
    ∀ v2 : Int32, v2 = (l4 + (m.1 a2 (Int32.toNatClampNeg l5))) →
    J_X1_spanOf_34 a2 n2 l3 v2 (l5 + (1 : Int32)) m P))
set_option maxRecDepth 20000 in
set_option maxHeartbeats 4000000 in
theorem b_X1_spanOf_34 {a2 : Nat} {n2 : Nat} {l3 : Int32} {l4 : Int32} {l5 : Int32} {m : vM} {P : Int32 → vM → Prop} (ha2 : SH a2 = (0, n2, vz)) (hw2 : a2 < 197) (h : wp_X1_spanOf_34 a2 n2 l3 l4 l5 m P) : J_X1_spanOf_34 a2 n2 l3 l4 l5 m P := by
  show vJ mX1_spanOf 1 21 197 none 34 [(2, .ref a2), (3, .int l3), (4, .int l4), (5, .int l5)] [] 197 SH m (vPi P)
  unfold wp_X1_spanOf_34 at h
  refine vJ.iload dX1_spanOf_34 rfl ?_
  refine vJ.iload_n dX1_spanOf_36 rfl rfl ?_
  refine vJ.icmp_ge (tgt := 55) dX1_spanOf_37 (by decide) (fun hc3 => ?_) (fun hc3 => ?_)
  · replace h := h.1 hc3
    refine vJ.iload dX1_spanOf_55 rfl ?_
    exact vJ.ireturn dX1_spanOf_57 rfl rfl rfl ⟨rfl, _, rfl, h⟩
  · replace h := h.2 hc3
    refine vJ.iload dX1_spanOf_40 rfl ?_
    refine vJ.aload_n dX1_spanOf_42 rfl rfl ?_
    refine vJ.iload dX1_spanOf_43 rfl ?_
    obtain ⟨hb1, h⟩ := h
    refine vJ.iald dX1_spanOf_45 ha2 hw2 hb1 ?_
    refine vJ.iadd dX1_spanOf_46 ?_
    refine vJ.topi (fun v2 ev2 => ?_)
    replace h := h v2 ev2
    refine vJ.istore (ls2 := [(2, .ref a2), (3, .int l3), (4, .int v2), (5, .int l5)]) dX1_spanOf_47 (Nat.le_of_ble_eq_true rfl) rfl ?_
    refine vJ.iinc (v := l5 + (1 : Int32)) (ls2 := [(2, .ref a2), (3, .int l3), (4, .int v2), (5, .int (l5 + (1 : Int32)))]) dX1_spanOf_49 rfl (congrArg (l5 + ·) ci_1) (Nat.le_of_ble_eq_true rfl) rfl ?_
    refine vJ.goto (tgt := 34) dX1_spanOf_52 (by decide) ?_
    exact h
def J_X1_gaps_0  (m : vM) (P : Int32 → vM → Prop) : Prop := vJ mX1_gaps 0 0 197 none 0 [(0, .ref 1)] [] 197 SH m (vPi P)
def wp_X1_gaps  (m : vM) (P : Int32 → vM → Prop) : Prop :=
  P (((m.1 1 1) - (1 : Int32)) * (m.1 1 2)) m
set_option maxRecDepth 20000 in
set_option maxHeartbeats 4000000 in
theorem b_X1_gaps  {m : vM} {P : Int32 → vM → Prop}  (h : wp_X1_gaps  m P) : J_X1_gaps_0  m P := by
  show vJ mX1_gaps 0 0 197 none 0 [(0, .ref 1)] [] 197 SH m (vPi P)
  unfold wp_X1_gaps at h
  refine vJ.aload_n dX1_gaps_0 rfl rfl ?_
  refine vJ.getI (ci := 1) (k := 1) dX1_gaps_1 sh_1 (Nat.le_of_ble_eq_true rfl) rfl inX1 (Nat.le_of_ble_eq_true rfl) rfl fl_RX1_39 ?_
  refine vJ.iconst dX1_gaps_4 ci_1 ?_
  refine vJ.isub dX1_gaps_5 ?_
  refine vJ.aload_n dX1_gaps_6 rfl rfl ?_
  refine vJ.getI (ci := 1) (k := 2) dX1_gaps_7 sh_1 (Nat.le_of_ble_eq_true rfl) rfl inX1 (Nat.le_of_ble_eq_true rfl) rfl fl_RX1_42 ?_
  refine vJ.imul dX1_gaps_10 ?_
  exact vJ.ireturn dX1_gaps_11 rfl rfl rfl ⟨rfl, _, rfl, h⟩
def EI_X1_gaps  (m : vM) (P : Int32 → vM → Prop) : Prop := Ev mX1_gaps 0 0 197 [.ref 1] 197 SH m (vPi P)
theorem f_X1_gaps  {m : vM} {P : Int32 → vM → Prop} (h : J_X1_gaps_0  m P) : EI_X1_gaps  m P := Ev.of pn_X1_gaps (Nat.le_of_ble_eq_true rfl) h
theorem e_X1_gaps  {m : vM} {P : Int32 → vM → Prop}  (h : wp_X1_gaps  m P) : EI_X1_gaps  m P := f_X1_gaps (b_X1_gaps  h)
def J_X1_breaksAhead_0 (l1 : Int32) (l2 : Int32) (m : vM) (P : Int32 → vM → Prop) : Prop := vJ mX1_breaksAhead 2 43 197 none 0 [(0, .ref 1), (1, .int l1), (2, .int l2)] [] 197 SH m (vPi P)
def J_X1_breaksAhead_9 (l1 : Int32) (l3 : Int32) (m : vM) (P : Int32 → vM → Prop) : Prop := vJ mX1_breaksAhead 2 43 197 none 9 [(0, .ref 1), (1, .int l1), (3, .int l3)] [] 197 SH m (vPi P)
def wp_X1_breaksAhead_0 (l1 : Int32) (l2 : Int32) (m : vM) (P : Int32 → vM → Prop) : Prop :=
  ((l2 < l1 →
    J_X1_breaksAhead_9 l1 (0 : Int32) m P) ∧
  (¬ l2 < l1 →
    P (0 : Int32) m))
set_option maxRecDepth 20000 in
set_option maxHeartbeats 4000000 in
theorem b_X1_breaksAhead_0 {l1 : Int32} {l2 : Int32} {m : vM} {P : Int32 → vM → Prop}  (h : wp_X1_breaksAhead_0 l1 l2 m P) : J_X1_breaksAhead_0 l1 l2 m P := by
  show vJ mX1_breaksAhead 2 43 197 none 0 [(0, .ref 1), (1, .int l1), (2, .int l2)] [] 197 SH m (vPi P)
  unfold wp_X1_breaksAhead_0 at h
  refine vJ.iload_n dX1_breaksAhead_0 rfl rfl ?_
  refine vJ.iload_n dX1_breaksAhead_1 rfl rfl ?_
  refine vJ.icmp_gt (tgt := 7) dX1_breaksAhead_2 (by decide) (fun hc1 => ?_) (fun hc1 => ?_)
  · replace h := h.1 hc1
    refine vJ.iconst dX1_breaksAhead_7 ci_0 ?_
    refine vJ.istore_n (ls2 := [(0, .ref 1), (1, .int l1), (2, .int l2), (3, .int (0 : Int32))]) dX1_breaksAhead_8 rfl (Nat.le_of_ble_eq_true rfl) rfl ?_
    refine vJ.sub [0, 1, 3] rfl ?_
    exact h
  · replace h := h.2 hc1
    refine vJ.iconst dX1_breaksAhead_5 ci_0 ?_
    exact vJ.ireturn dX1_breaksAhead_6 rfl (by decide) rfl ⟨rfl, _, rfl, h⟩
def EI_X1_breaksAhead (l1 : Int32) (l2 : Int32) (m : vM) (P : Int32 → vM → Prop) : Prop := Ev mX1_breaksAhead 2 43 197 [.ref 1, .int l1, .int l2] 197 SH m (vPi P)
theorem f_X1_breaksAhead {l1 : Int32} {l2 : Int32} {m : vM} {P : Int32 → vM → Prop} (h : J_X1_breaksAhead_0 l1 l2 m P) : EI_X1_breaksAhead l1 l2 m P := Ev.of pn_X1_breaksAhead (Nat.le_of_ble_eq_true rfl) h
def wp_X1_breaksAhead_9 (l1 : Int32) (l3 : Int32) (m : vM) (P : Int32 → vM → Prop) : Prop :=
  (((m.1 1 3) ≤ l3 →
    P (1 : Int32) m) ∧
  (¬ (m.1 1 3) ≤ l3 →
    wp_X1_present l3 m (fun o11 m1 =>
      ((o11 = none →
        J_X1_breaksAhead_9 l1 (l3 + (1 : Int32)) m1 P) ∧
      (∀ i2 : Nat, i2 < 40 → o11 = some i2 →
        (((m1.1 (cA i2) 0) = (3 : Int32) →
          J_X1_breaksAhead_9 l1 (l3 + (1 : Int32)) m1 P) ∧
        (¬ (m1.1 (cA i2) 0) = (3 : Int32) →
          wp_X0_liesOnRow i2 l1 m1 (fun r5 m4 =>
            ((r5 = (0 : Int32) →
              J_X1_breaksAhead_9 l1 (l3 + (1 : Int32)) m4 P) ∧
            (¬ r5 = (0 : Int32) →
              wp_X0_liesOnRow i2 (l1 - (1 : Int32)) m4 (fun r7 m6 =>
                ((r7 = (0 : Int32) →
                  J_X1_breaksAhead_9 l1 (l3 + (1 : Int32)) m6 P) ∧
                (¬ r7 = (0 : Int32) →
                  P (0 : Int32) m6)))))))))))))
set_option maxRecDepth 20000 in
set_option maxHeartbeats 4000000 in
theorem b_X1_breaksAhead_9 {l1 : Int32} {l3 : Int32} {m : vM} {P : Int32 → vM → Prop}  (h : wp_X1_breaksAhead_9 l1 l3 m P) : J_X1_breaksAhead_9 l1 l3 m P := by
  show vJ mX1_breaksAhead 2 43 197 none 9 [(0, .ref 1), (1, .int l1), (3, .int l3)] [] 197 SH m (vPi P)
  unfold wp_X1_breaksAhead_9 at h
  refine vJ.iload_n dX1_breaksAhead_9 rfl rfl ?_
  refine vJ.aload_n dX1_breaksAhead_10 rfl rfl ?_
  refine vJ.getI (ci := 1) (k := 3) dX1_breaksAhead_11 sh_1 (Nat.le_of_ble_eq_true rfl) rfl inX1 (Nat.le_of_ble_eq_true rfl) rfl fl_RX1_45 ?_
  refine vJ.icmp_ge (tgt := 66) dX1_breaksAhead_14 (by decide) (fun hc12 => ?_) (fun hc12 => ?_)
  · replace h := h.1 hc12
    refine vJ.iconst dX1_breaksAhead_66 ci_1 ?_
    exact vJ.ireturn dX1_breaksAhead_67 rfl (by decide) rfl ⟨rfl, _, rfl, h⟩
  · replace h := h.2 hc12
    refine vJ.aload_n dX1_breaksAhead_17 rfl rfl ?_
    refine vJ.iload_n dX1_breaksAhead_18 rfl rfl ?_
    refine vJ.callV (ci := 1) (Yc := mX1_present) (frc := 1) (loc := 21) (as := [.int l3]) dX1_breaksAhead_19 rfl sh_1 (Nat.le_of_ble_eq_true rfl) rfl ml_RX1_59 im_yX1_present se_yX1_present co_X1_present in_TableSetter_Grid pl_X1_present (Nat.le_of_ble_eq_true rfl) (Nat.le_of_ble_eq_true rfl) (Nat.le_of_ble_eq_true rfl) ?_
    refine Ev.gc (e_X1_present  h) (fun m1 h => ?_) (fun i2 m1 hi3 h => ?_)
    · replace h := h.1 rfl
      refine vJ.astoreN (ls2 := [(0, .ref 1), (1, .int l1), (3, .int l3), (4, .null)]) dX1_breaksAhead_22 (Nat.le_of_ble_eq_true rfl) rfl ?_
      refine vJ.aloadN dX1_breaksAhead_24 rfl ?_
      refine vJ.ifnullN (tgt := 60) dX1_breaksAhead_26 (by decide) ?_
      refine vJ.iinc (v := l3 + (1 : Int32)) (ls2 := [(0, .ref 1), (1, .int l1), (3, .int (l3 + (1 : Int32))), (4, .null)]) dX1_breaksAhead_60 rfl (congrArg (l3 + ·) ci_1) (Nat.le_of_ble_eq_true rfl) rfl ?_
      refine vJ.goto (tgt := 9) dX1_breaksAhead_63 (by decide) ?_
      refine vJ.sub [0, 1, 2] rfl ?_
      exact h
    · replace h := h.2 i2 hi3 rfl
      refine vJ.astore (ls2 := [(0, .ref 1), (1, .int l1), (3, .int l3), (4, .ref (cA i2))]) dX1_breaksAhead_22 (Nat.le_of_ble_eq_true rfl) rfl ?_
      refine vJ.aload dX1_breaksAhead_24 rfl ?_
      refine vJ.ifnull dX1_breaksAhead_26 ?_
      refine vJ.aload dX1_breaksAhead_29 rfl ?_
      refine vJ.getI (ci := 0) (k := 0) dX1_breaksAhead_31 (sh_C hi3) (lt_C hi3) rfl inX0 (Nat.le_of_ble_eq_true rfl) rfl fl_RX1_70 ?_
      refine vJ.iconst dX1_breaksAhead_34 ci_3 ?_
      refine vJ.icmp_eq (tgt := 60) dX1_breaksAhead_35 (by decide) (fun hc10 => ?_) (fun hc10 => ?_)
      · replace h := h.1 hc10
        refine vJ.iinc (v := l3 + (1 : Int32)) (ls2 := [(0, .ref 1), (1, .int l1), (3, .int (l3 + (1 : Int32))), (4, .ref (cA i2))]) dX1_breaksAhead_60 rfl (congrArg (l3 + ·) ci_1) (Nat.le_of_ble_eq_true rfl) rfl ?_
        refine vJ.goto (tgt := 9) dX1_breaksAhead_63 (by decide) ?_
        refine vJ.sub [0, 1, 2] rfl ?_
        exact h
      · replace h := h.2 hc10
        refine vJ.aload dX1_breaksAhead_38 rfl ?_
        refine vJ.iload_n dX1_breaksAhead_40 rfl rfl ?_
        refine vJ.callV (ci := 0) (Yc := mX0_liesOnRow) (frc := 0) (loc := 0) (as := [.int l1]) dX1_breaksAhead_41 rfl (sh_C hi3) (lt_C hi3) rfl ml_RX1_73 im_yX0_liesOnRow se_yX0_liesOnRow co_X0_liesOnRow in_TableSetter_Cell pl_X0_liesOnRow (Nat.le_of_ble_eq_true rfl) (Nat.le_of_ble_eq_true rfl) (Nat.le_of_ble_eq_true rfl) ?_
        refine Ev.gi (e_X0_liesOnRow hi3 h) (fun r5 m4 h => ?_)
        refine vJ.if_eq (tgt := 60) dX1_breaksAhead_44 (by decide) (fun hc9 => ?_) (fun hc9 => ?_)
        · replace h := h.1 hc9
          refine vJ.iinc (v := l3 + (1 : Int32)) (ls2 := [(0, .ref 1), (1, .int l1), (3, .int (l3 + (1 : Int32))), (4, .ref (cA i2))]) dX1_breaksAhead_60 rfl (congrArg (l3 + ·) ci_1) (Nat.le_of_ble_eq_true rfl) rfl ?_
          refine vJ.goto (tgt := 9) dX1_breaksAhead_63 (by decide) ?_
          refine vJ.sub [0, 1, 2] rfl ?_
          exact h
        · replace h := h.2 hc9
          refine vJ.aload dX1_breaksAhead_47 rfl ?_
          refine vJ.iload_n dX1_breaksAhead_49 rfl rfl ?_
          refine vJ.iconst dX1_breaksAhead_50 ci_1 ?_
          refine vJ.isub dX1_breaksAhead_51 ?_
          refine vJ.callV (ci := 0) (Yc := mX0_liesOnRow) (frc := 0) (loc := 0) (as := [.int (l1 - (1 : Int32))]) dX1_breaksAhead_52 rfl (sh_C hi3) (lt_C hi3) rfl ml_RX1_73 im_yX0_liesOnRow se_yX0_liesOnRow co_X0_liesOnRow in_TableSetter_Cell pl_X0_liesOnRow (Nat.le_of_ble_eq_true rfl) (Nat.le_of_ble_eq_true rfl) (Nat.le_of_ble_eq_true rfl) ?_
          refine Ev.gi (e_X0_liesOnRow hi3 h) (fun r7 m6 h => ?_)
          refine vJ.if_eq (tgt := 60) dX1_breaksAhead_55 (by decide) (fun hc8 => ?_) (fun hc8 => ?_)
          · replace h := h.1 hc8
            refine vJ.iinc (v := l3 + (1 : Int32)) (ls2 := [(0, .ref 1), (1, .int l1), (3, .int (l3 + (1 : Int32))), (4, .ref (cA i2))]) dX1_breaksAhead_60 rfl (congrArg (l3 + ·) ci_1) (Nat.le_of_ble_eq_true rfl) rfl ?_
            refine vJ.goto (tgt := 9) dX1_breaksAhead_63 (by decide) ?_
            refine vJ.sub [0, 1, 2] rfl ?_
            exact h
          · replace h := h.2 hc8
            refine vJ.iconst dX1_breaksAhead_58 ci_0 ?_
            exact vJ.ireturn dX1_breaksAhead_59 rfl (by decide) rfl ⟨rfl, _, rfl, h⟩
def J_X1_hasHead_0 (l1 : Int32) (m : vM) (P : Int32 → vM → Prop) : Prop := vJ mX1_hasHead 2 43 197 none 0 [(0, .ref 1), (1, .int l1)] [] 197 SH m (vPi P)
def J_X1_hasHead_2 (l1 : Int32) (l2 : Int32) (m : vM) (P : Int32 → vM → Prop) : Prop := vJ mX1_hasHead 2 43 197 none 2 [(0, .ref 1), (1, .int l1), (2, .int l2)] [] 197 SH m (vPi P)
def wp_X1_hasHead_0 (l1 : Int32) (m : vM) (P : Int32 → vM → Prop) : Prop :=
  J_X1_hasHead_2 l1 (0 : Int32) m P
set_option maxRecDepth 20000 in
set_option maxHeartbeats 4000000 in
theorem b_X1_hasHead_0 {l1 : Int32} {m : vM} {P : Int32 → vM → Prop}  (h : wp_X1_hasHead_0 l1 m P) : J_X1_hasHead_0 l1 m P := by
  show vJ mX1_hasHead 2 43 197 none 0 [(0, .ref 1), (1, .int l1)] [] 197 SH m (vPi P)
  unfold wp_X1_hasHead_0 at h
  refine vJ.iconst dX1_hasHead_0 ci_0 ?_
  refine vJ.istore_n (ls2 := [(0, .ref 1), (1, .int l1), (2, .int (0 : Int32))]) dX1_hasHead_1 rfl (Nat.le_of_ble_eq_true rfl) rfl ?_
  exact h
def EI_X1_hasHead (l1 : Int32) (m : vM) (P : Int32 → vM → Prop) : Prop := Ev mX1_hasHead 2 43 197 [.ref 1, .int l1] 197 SH m (vPi P)
theorem f_X1_hasHead {l1 : Int32} {m : vM} {P : Int32 → vM → Prop} (h : J_X1_hasHead_0 l1 m P) : EI_X1_hasHead l1 m P := Ev.of pn_X1_hasHead (Nat.le_of_ble_eq_true rfl) h
def wp_X1_hasHead_2 (l1 : Int32) (l2 : Int32) (m : vM) (P : Int32 → vM → Prop) : Prop :=
  (((m.1 1 3) ≤ l2 →
    P (0 : Int32) m) ∧
  (¬ (m.1 1 3) ≤ l2 →
    wp_X1_present l2 m (fun o8 m1 =>
      ((o8 = none →
        J_X1_hasHead_2 l1 (l2 + (1 : Int32)) m1 P) ∧
      (∀ i2 : Nat, i2 < 40 → o8 = some i2 →
        (((m1.1 (cA i2) 0) = (1 : Int32) →
          wp_X0_liesOnRow i2 l1 m1 (fun r5 m4 =>
            ((r5 = (0 : Int32) →
              J_X1_hasHead_2 l1 (l2 + (1 : Int32)) m4 P) ∧
            (¬ r5 = (0 : Int32) →
              P (1 : Int32) m4)))) ∧
        (¬ (m1.1 (cA i2) 0) = (1 : Int32) →
          J_X1_hasHead_2 l1 (l2 + (1 : Int32)) m1 P)))))))
set_option maxRecDepth 20000 in
set_option maxHeartbeats 4000000 in
theorem b_X1_hasHead_2 {l1 : Int32} {l2 : Int32} {m : vM} {P : Int32 → vM → Prop}  (h : wp_X1_hasHead_2 l1 l2 m P) : J_X1_hasHead_2 l1 l2 m P := by
  show vJ mX1_hasHead 2 43 197 none 2 [(0, .ref 1), (1, .int l1), (2, .int l2)] [] 197 SH m (vPi P)
  unfold wp_X1_hasHead_2 at h
  refine vJ.iload_n dX1_hasHead_2 rfl rfl ?_
  refine vJ.aload_n dX1_hasHead_3 rfl rfl ?_
  refine vJ.getI (ci := 1) (k := 3) dX1_hasHead_4 sh_1 (Nat.le_of_ble_eq_true rfl) rfl inX1 (Nat.le_of_ble_eq_true rfl) rfl fl_RX1_45 ?_
  refine vJ.icmp_ge (tgt := 44) dX1_hasHead_7 (by decide) (fun hc9 => ?_) (fun hc9 => ?_)
  · replace h := h.1 hc9
    refine vJ.iconst dX1_hasHead_44 ci_0 ?_
    exact vJ.ireturn dX1_hasHead_45 rfl (by decide) rfl ⟨rfl, _, rfl, h⟩
  · replace h := h.2 hc9
    refine vJ.aload_n dX1_hasHead_10 rfl rfl ?_
    refine vJ.iload_n dX1_hasHead_11 rfl rfl ?_
    refine vJ.callV (ci := 1) (Yc := mX1_present) (frc := 1) (loc := 21) (as := [.int l2]) dX1_hasHead_12 rfl sh_1 (Nat.le_of_ble_eq_true rfl) rfl ml_RX1_59 im_yX1_present se_yX1_present co_X1_present in_TableSetter_Grid pl_X1_present (Nat.le_of_ble_eq_true rfl) (Nat.le_of_ble_eq_true rfl) (Nat.le_of_ble_eq_true rfl) ?_
    refine Ev.gc (e_X1_present  h) (fun m1 h => ?_) (fun i2 m1 hi3 h => ?_)
    · replace h := h.1 rfl
      refine vJ.astore_nN (ls2 := [(0, .ref 1), (1, .int l1), (2, .int l2), (3, .null)]) dX1_hasHead_15 rfl (Nat.le_of_ble_eq_true rfl) rfl ?_
      refine vJ.aload_nN dX1_hasHead_16 rfl rfl ?_
      refine vJ.ifnullN (tgt := 38) dX1_hasHead_17 (by decide) ?_
      refine vJ.iinc (v := l2 + (1 : Int32)) (ls2 := [(0, .ref 1), (1, .int l1), (2, .int (l2 + (1 : Int32))), (3, .null)]) dX1_hasHead_38 rfl (congrArg (l2 + ·) ci_1) (Nat.le_of_ble_eq_true rfl) rfl ?_
      refine vJ.goto (tgt := 2) dX1_hasHead_41 (by decide) ?_
      refine vJ.sub [0, 1, 2] rfl ?_
      exact h
    · replace h := h.2 i2 hi3 rfl
      refine vJ.astore_n (ls2 := [(0, .ref 1), (1, .int l1), (2, .int l2), (3, .ref (cA i2))]) dX1_hasHead_15 rfl (Nat.le_of_ble_eq_true rfl) rfl ?_
      refine vJ.aload_n dX1_hasHead_16 rfl rfl ?_
      refine vJ.ifnull dX1_hasHead_17 ?_
      refine vJ.aload_n dX1_hasHead_20 rfl rfl ?_
      refine vJ.getI (ci := 0) (k := 0) dX1_hasHead_21 (sh_C hi3) (lt_C hi3) rfl inX0 (Nat.le_of_ble_eq_true rfl) rfl fl_RX1_70 ?_
      refine vJ.iconst dX1_hasHead_24 ci_1 ?_
      refine vJ.icmp_ne (tgt := 38) dX1_hasHead_25 (by decide) (fun hc7 => ?_) (fun hc7 => ?_)
      · replace h := h.2 hc7
        refine vJ.iinc (v := l2 + (1 : Int32)) (ls2 := [(0, .ref 1), (1, .int l1), (2, .int (l2 + (1 : Int32))), (3, .ref (cA i2))]) dX1_hasHead_38 rfl (congrArg (l2 + ·) ci_1) (Nat.le_of_ble_eq_true rfl) rfl ?_
        refine vJ.goto (tgt := 2) dX1_hasHead_41 (by decide) ?_
        refine vJ.sub [0, 1, 2] rfl ?_
        exact h
      · replace h := h.1 hc7
        refine vJ.aload_n dX1_hasHead_28 rfl rfl ?_
        refine vJ.iload_n dX1_hasHead_29 rfl rfl ?_
        refine vJ.callV (ci := 0) (Yc := mX0_liesOnRow) (frc := 0) (loc := 0) (as := [.int l1]) dX1_hasHead_30 rfl (sh_C hi3) (lt_C hi3) rfl ml_RX1_73 im_yX0_liesOnRow se_yX0_liesOnRow co_X0_liesOnRow in_TableSetter_Cell pl_X0_liesOnRow (Nat.le_of_ble_eq_true rfl) (Nat.le_of_ble_eq_true rfl) (Nat.le_of_ble_eq_true rfl) ?_
        refine Ev.gi (e_X0_liesOnRow hi3 h) (fun r5 m4 h => ?_)
        refine vJ.if_eq (tgt := 38) dX1_hasHead_33 (by decide) (fun hc6 => ?_) (fun hc6 => ?_)
        · replace h := h.1 hc6
          refine vJ.iinc (v := l2 + (1 : Int32)) (ls2 := [(0, .ref 1), (1, .int l1), (2, .int (l2 + (1 : Int32))), (3, .ref (cA i2))]) dX1_hasHead_38 rfl (congrArg (l2 + ·) ci_1) (Nat.le_of_ble_eq_true rfl) rfl ?_
          refine vJ.goto (tgt := 2) dX1_hasHead_41 (by decide) ?_
          refine vJ.sub [0, 1, 2] rfl ?_
          exact h
        · replace h := h.2 hc6
          refine vJ.iconst dX1_hasHead_36 ci_1 ?_
          exact vJ.ireturn dX1_hasHead_37 rfl (by decide) rfl ⟨rfl, _, rfl, h⟩
def J_X1_headRows_0  (m : vM) (P : Int32 → vM → Prop) : Prop := vJ mX1_headRows 3 66 197 none 0 [(0, .ref 1)] [] 197 SH m (vPi P)
def J_X1_headRows_2 (l1 : Int32) (m : vM) (P : Int32 → vM → Prop) : Prop := vJ mX1_headRows 3 66 197 none 2 [(0, .ref 1), (1, .int l1)] [] 197 SH m (vPi P)
def wp_X1_headRows_0  (m : vM) (P : Int32 → vM → Prop) : Prop :=
  J_X1_headRows_2 (0 : Int32) m P
set_option maxRecDepth 20000 in
set_option maxHeartbeats 4000000 in
theorem b_X1_headRows_0  {m : vM} {P : Int32 → vM → Prop}  (h : wp_X1_headRows_0  m P) : J_X1_headRows_0  m P := by
  show vJ mX1_headRows 3 66 197 none 0 [(0, .ref 1)] [] 197 SH m (vPi P)
  unfold wp_X1_headRows_0 at h
  refine vJ.iconst dX1_headRows_0 ci_0 ?_
  refine vJ.istore_n (ls2 := [(0, .ref 1), (1, .int (0 : Int32))]) dX1_headRows_1 rfl (Nat.le_of_ble_eq_true rfl) rfl ?_
  exact h
def EI_X1_headRows  (m : vM) (P : Int32 → vM → Prop) : Prop := Ev mX1_headRows 3 66 197 [.ref 1] 197 SH m (vPi P)
theorem f_X1_headRows  {m : vM} {P : Int32 → vM → Prop} (h : J_X1_headRows_0  m P) : EI_X1_headRows  m P := Ev.of pn_X1_headRows (Nat.le_of_ble_eq_true rfl) h
def wp_X1_headRows_2 (l1 : Int32) (m : vM) (P : Int32 → vM → Prop) : Prop :=
  (((m.1 1 0) ≤ l1 →
    P l1 m) ∧
  (¬ (m.1 1 0) ≤ l1 →
    EI_X1_hasHead l1 m (fun r2 m1 =>
      ((r2 = (0 : Int32) →
        P l1 m1) ∧
      (¬ r2 = (0 : Int32) →
        J_X1_headRows_2 (l1 + (1 : Int32)) m1 P)))))
set_option maxRecDepth 20000 in
set_option maxHeartbeats 4000000 in
theorem b_X1_headRows_2 {l1 : Int32} {m : vM} {P : Int32 → vM → Prop}  (h : wp_X1_headRows_2 l1 m P) : J_X1_headRows_2 l1 m P := by
  show vJ mX1_headRows 3 66 197 none 2 [(0, .ref 1), (1, .int l1)] [] 197 SH m (vPi P)
  unfold wp_X1_headRows_2 at h
  refine vJ.iload_n dX1_headRows_2 rfl rfl ?_
  refine vJ.aload_n dX1_headRows_3 rfl rfl ?_
  refine vJ.getI (ci := 1) (k := 0) dX1_headRows_4 sh_1 (Nat.le_of_ble_eq_true rfl) rfl inX1 (Nat.le_of_ble_eq_true rfl) rfl fl_RX1_35 ?_
  refine vJ.icmp_ge (tgt := 24) dX1_headRows_7 (by decide) (fun hc4 => ?_) (fun hc4 => ?_)
  · replace h := h.1 hc4
    refine vJ.iload_n dX1_headRows_24 rfl rfl ?_
    exact vJ.ireturn dX1_headRows_25 rfl rfl rfl ⟨rfl, _, rfl, h⟩
  · replace h := h.2 hc4
    refine vJ.aload_n dX1_headRows_10 rfl rfl ?_
    refine vJ.iload_n dX1_headRows_11 rfl rfl ?_
    refine vJ.callV (ci := 1) (Yc := mX1_hasHead) (frc := 2) (loc := 43) (as := [.int l1]) dX1_headRows_12 rfl sh_1 (Nat.le_of_ble_eq_true rfl) rfl ml_RX1_66 im_yX1_hasHead se_yX1_hasHead co_X1_hasHead in_TableSetter_Grid pl_X1_hasHead (Nat.le_of_ble_eq_true rfl) (Nat.le_of_ble_eq_true rfl) (Nat.le_of_ble_eq_true rfl) ?_
    refine Ev.gi h (fun r2 m1 h => ?_)
    refine vJ.if_eq (tgt := 24) dX1_headRows_15 (by decide) (fun hc3 => ?_) (fun hc3 => ?_)
    · replace h := h.1 hc3
      refine vJ.iload_n dX1_headRows_24 rfl rfl ?_
      exact vJ.ireturn dX1_headRows_25 rfl rfl rfl ⟨rfl, _, rfl, h⟩
    · replace h := h.2 hc3
      refine vJ.iinc (v := l1 + (1 : Int32)) (ls2 := [(0, .ref 1), (1, .int (l1 + (1 : Int32)))]) dX1_headRows_18 rfl (congrArg (l1 + ·) ci_1) (Nat.le_of_ble_eq_true rfl) rfl ?_
      refine vJ.goto (tgt := 2) dX1_headRows_21 (by decide) ?_
      exact h
def J_X1_firstCall_0 (l1 : Int32) (m : vM) (P : Int32 → vM → Prop) : Prop := vJ mX1_firstCall 2 43 197 none 0 [(0, .ref 1), (1, .int l1)] [] 197 SH m (vPi P)
def J_X1_firstCall_5 (l1 : Int32) (l2 : Int32) (l3 : Int32) (m : vM) (P : Int32 → vM → Prop) : Prop := vJ mX1_firstCall 2 43 197 none 5 [(0, .ref 1), (1, .int l1), (2, .int l2), (3, .int l3)] [] 197 SH m (vPi P)
def wp_X1_firstCall_0 (l1 : Int32) (m : vM) (P : Int32 → vM → Prop) : Prop :=
  J_X1_firstCall_5 l1 (-9 : Int32) (0 : Int32) m P
set_option maxRecDepth 20000 in
set_option maxHeartbeats 4000000 in
theorem b_X1_firstCall_0 {l1 : Int32} {m : vM} {P : Int32 → vM → Prop}  (h : wp_X1_firstCall_0 l1 m P) : J_X1_firstCall_0 l1 m P := by
  show vJ mX1_firstCall 2 43 197 none 0 [(0, .ref 1), (1, .int l1)] [] 197 SH m (vPi P)
  unfold wp_X1_firstCall_0 at h
  refine vJ.bipush dX1_firstCall_0 cb_m9 ?_
  refine vJ.istore_n (ls2 := [(0, .ref 1), (1, .int l1), (2, .int (-9 : Int32))]) dX1_firstCall_2 rfl (Nat.le_of_ble_eq_true rfl) rfl ?_
  refine vJ.iconst dX1_firstCall_3 ci_0 ?_
  refine vJ.istore_n (ls2 := [(0, .ref 1), (1, .int l1), (2, .int (-9 : Int32)), (3, .int (0 : Int32))]) dX1_firstCall_4 rfl (Nat.le_of_ble_eq_true rfl) rfl ?_
  exact h
def EI_X1_firstCall (l1 : Int32) (m : vM) (P : Int32 → vM → Prop) : Prop := Ev mX1_firstCall 2 43 197 [.ref 1, .int l1] 197 SH m (vPi P)
theorem f_X1_firstCall {l1 : Int32} {m : vM} {P : Int32 → vM → Prop} (h : J_X1_firstCall_0 l1 m P) : EI_X1_firstCall l1 m P := Ev.of pn_X1_firstCall (Nat.le_of_ble_eq_true rfl) h
def wp_X1_firstCall_5 (l1 : Int32) (l2 : Int32) (l3 : Int32) (m : vM) (P : Int32 → vM → Prop) : Prop :=
  (((m.1 1 3) ≤ l3 →
    P l2 m) ∧
  (¬ (m.1 1 3) ≤ l3 →
    wp_X1_present l3 m (fun o9 m1 =>
      ((o9 = none →
        J_X1_firstCall_5 l1 l2 (l3 + (1 : Int32)) m1 P) ∧
      (∀ i2 : Nat, i2 < 40 → o9 = some i2 →
        (((((m1.1 (cA i2) 5) >>> (l1 &&& 31)) &&& (1 : Int32)) = (1 : Int32) →
          ((l2 = (-9 : Int32) →
            ∀ v4 : Int32, v4 = (m1.1 (cA i2) 1) →
            J_X1_firstCall_5 l1 v4 (l3 + (1 : Int32)) m1 P) ∧
          (¬ l2 = (-9 : Int32) →
            ((l2 ≤ (m1.1 (cA i2) 1) →
              J_X1_firstCall_5 l1 l2 (l3 + (1 : Int32)) m1 P) ∧
            (¬ l2 ≤ (m1.1 (cA i2) 1) →
              ∀ v5 : Int32, v5 = (m1.1 (cA i2) 1) →
              J_X1_firstCall_5 l1 v5 (l3 + (1 : Int32)) m1 P))))) ∧
        (¬ (((m1.1 (cA i2) 5) >>> (l1 &&& 31)) &&& (1 : Int32)) = (1 : Int32) →
          J_X1_firstCall_5 l1 l2 (l3 + (1 : Int32)) m1 P)))))))
set_option maxRecDepth 20000 in
set_option maxHeartbeats 4000000 in
theorem b_X1_firstCall_5 {l1 : Int32} {l2 : Int32} {l3 : Int32} {m : vM} {P : Int32 → vM → Prop}  (h : wp_X1_firstCall_5 l1 l2 l3 m P) : J_X1_firstCall_5 l1 l2 l3 m P := by
  show vJ mX1_firstCall 2 43 197 none 5 [(0, .ref 1), (1, .int l1), (2, .int l2), (3, .int l3)] [] 197 SH m (vPi P)
  unfold wp_X1_firstCall_5 at h
  refine vJ.iload_n dX1_firstCall_5 rfl rfl ?_
  refine vJ.aload_n dX1_firstCall_6 rfl rfl ?_
  refine vJ.getI (ci := 1) (k := 3) dX1_firstCall_7 sh_1 (Nat.le_of_ble_eq_true rfl) rfl inX1 (Nat.le_of_ble_eq_true rfl) rfl fl_RX1_45 ?_
  refine vJ.icmp_ge (tgt := 65) dX1_firstCall_10 (by decide) (fun hc10 => ?_) (fun hc10 => ?_)
  · replace h := h.1 hc10
    refine vJ.iload_n dX1_firstCall_65 rfl rfl ?_
    exact vJ.ireturn dX1_firstCall_66 rfl rfl rfl ⟨rfl, _, rfl, h⟩
  · replace h := h.2 hc10
    refine vJ.aload_n dX1_firstCall_13 rfl rfl ?_
    refine vJ.iload_n dX1_firstCall_14 rfl rfl ?_
    refine vJ.callV (ci := 1) (Yc := mX1_present) (frc := 1) (loc := 21) (as := [.int l3]) dX1_firstCall_15 rfl sh_1 (Nat.le_of_ble_eq_true rfl) rfl ml_RX1_59 im_yX1_present se_yX1_present co_X1_present in_TableSetter_Grid pl_X1_present (Nat.le_of_ble_eq_true rfl) (Nat.le_of_ble_eq_true rfl) (Nat.le_of_ble_eq_true rfl) ?_
    refine Ev.gc (e_X1_present  h) (fun m1 h => ?_) (fun i2 m1 hi3 h => ?_)
    · replace h := h.1 rfl
      refine vJ.astoreN (ls2 := [(0, .ref 1), (1, .int l1), (2, .int l2), (3, .int l3), (4, .null)]) dX1_firstCall_18 (Nat.le_of_ble_eq_true rfl) rfl ?_
      refine vJ.aloadN dX1_firstCall_20 rfl ?_
      refine vJ.ifnullN (tgt := 59) dX1_firstCall_22 (by decide) ?_
      refine vJ.iinc (v := l3 + (1 : Int32)) (ls2 := [(0, .ref 1), (1, .int l1), (2, .int l2), (3, .int (l3 + (1 : Int32))), (4, .null)]) dX1_firstCall_59 rfl (congrArg (l3 + ·) ci_1) (Nat.le_of_ble_eq_true rfl) rfl ?_
      refine vJ.goto (tgt := 5) dX1_firstCall_62 (by decide) ?_
      refine vJ.sub [0, 1, 2, 3] rfl ?_
      exact h
    · replace h := h.2 i2 hi3 rfl
      refine vJ.astore (ls2 := [(0, .ref 1), (1, .int l1), (2, .int l2), (3, .int l3), (4, .ref (cA i2))]) dX1_firstCall_18 (Nat.le_of_ble_eq_true rfl) rfl ?_
      refine vJ.aload dX1_firstCall_20 rfl ?_
      refine vJ.ifnull dX1_firstCall_22 ?_
      refine vJ.aload dX1_firstCall_25 rfl ?_
      refine vJ.getI (ci := 0) (k := 5) dX1_firstCall_27 (sh_C hi3) (lt_C hi3) rfl inX0 (Nat.le_of_ble_eq_true rfl) rfl fl_RX1_76 ?_
      refine vJ.iload_n dX1_firstCall_30 rfl rfl ?_
      refine vJ.ishr dX1_firstCall_31 ?_
      refine vJ.iconst dX1_firstCall_32 ci_1 ?_
      refine vJ.iand dX1_firstCall_33 ?_
      refine vJ.iconst dX1_firstCall_34 ci_1 ?_
      refine vJ.icmp_ne (tgt := 59) dX1_firstCall_35 (by decide) (fun hc8 => ?_) (fun hc8 => ?_)
      · replace h := h.2 hc8
        refine vJ.iinc (v := l3 + (1 : Int32)) (ls2 := [(0, .ref 1), (1, .int l1), (2, .int l2), (3, .int (l3 + (1 : Int32))), (4, .ref (cA i2))]) dX1_firstCall_59 rfl (congrArg (l3 + ·) ci_1) (Nat.le_of_ble_eq_true rfl) rfl ?_
        refine vJ.goto (tgt := 5) dX1_firstCall_62 (by decide) ?_
        refine vJ.sub [0, 1, 2, 3] rfl ?_
        exact h
      · replace h := h.1 hc8
        refine vJ.iload_n dX1_firstCall_38 rfl rfl ?_
        refine vJ.bipush dX1_firstCall_39 cb_m9 ?_
        refine vJ.icmp_eq (tgt := 53) dX1_firstCall_41 (by decide) (fun hc7 => ?_) (fun hc7 => ?_)
        · replace h := h.1 hc7
          refine vJ.aload dX1_firstCall_53 rfl ?_
          refine vJ.getI (ci := 0) (k := 1) dX1_firstCall_55 (sh_C hi3) (lt_C hi3) rfl inX0 (Nat.le_of_ble_eq_true rfl) rfl fl_RX1_79 ?_
          refine vJ.topi (fun v4 ev4 => ?_)
          replace h := h v4 ev4
          refine vJ.istore_n (ls2 := [(0, .ref 1), (1, .int l1), (2, .int v4), (3, .int l3), (4, .ref (cA i2))]) dX1_firstCall_58 rfl (Nat.le_of_ble_eq_true rfl) rfl ?_
          refine vJ.iinc (v := l3 + (1 : Int32)) (ls2 := [(0, .ref 1), (1, .int l1), (2, .int v4), (3, .int (l3 + (1 : Int32))), (4, .ref (cA i2))]) dX1_firstCall_59 rfl (congrArg (l3 + ·) ci_1) (Nat.le_of_ble_eq_true rfl) rfl ?_
          refine vJ.goto (tgt := 5) dX1_firstCall_62 (by decide) ?_
          refine vJ.sub [0, 1, 2, 3] rfl ?_
          exact h
        · replace h := h.2 hc7
          refine vJ.aload dX1_firstCall_44 rfl ?_
          refine vJ.getI (ci := 0) (k := 1) dX1_firstCall_46 (sh_C hi3) (lt_C hi3) rfl inX0 (Nat.le_of_ble_eq_true rfl) rfl fl_RX1_79 ?_
          refine vJ.iload_n dX1_firstCall_49 rfl rfl ?_
          refine vJ.icmp_ge (tgt := 59) dX1_firstCall_50 (by decide) (fun hc6 => ?_) (fun hc6 => ?_)
          · replace h := h.1 hc6
            refine vJ.iinc (v := l3 + (1 : Int32)) (ls2 := [(0, .ref 1), (1, .int l1), (2, .int l2), (3, .int (l3 + (1 : Int32))), (4, .ref (cA i2))]) dX1_firstCall_59 rfl (congrArg (l3 + ·) ci_1) (Nat.le_of_ble_eq_true rfl) rfl ?_
            refine vJ.goto (tgt := 5) dX1_firstCall_62 (by decide) ?_
            refine vJ.sub [0, 1, 2, 3] rfl ?_
            exact h
          · replace h := h.2 hc6
            refine vJ.aload dX1_firstCall_53 rfl ?_
            refine vJ.getI (ci := 0) (k := 1) dX1_firstCall_55 (sh_C hi3) (lt_C hi3) rfl inX0 (Nat.le_of_ble_eq_true rfl) rfl fl_RX1_79 ?_
            refine vJ.topi (fun v5 ev5 => ?_)
            replace h := h v5 ev5
            refine vJ.istore_n (ls2 := [(0, .ref 1), (1, .int l1), (2, .int v5), (3, .int l3), (4, .ref (cA i2))]) dX1_firstCall_58 rfl (Nat.le_of_ble_eq_true rfl) rfl ?_
            refine vJ.iinc (v := l3 + (1 : Int32)) (ls2 := [(0, .ref 1), (1, .int l1), (2, .int v5), (3, .int (l3 + (1 : Int32))), (4, .ref (cA i2))]) dX1_firstCall_59 rfl (congrArg (l3 + ·) ci_1) (Nat.le_of_ble_eq_true rfl) rfl ?_
            refine vJ.goto (tgt := 5) dX1_firstCall_62 (by decide) ?_
            refine vJ.sub [0, 1, 2, 3] rfl ?_
            exact h
def J_X1_presentCells_0  (m : vM) (P : Int32 → vM → Prop) : Prop := vJ mX1_presentCells 2 43 197 none 0 [(0, .ref 1)] [] 197 SH m (vPi P)
def J_X1_presentCells_4 (l1 : Int32) (l2 : Int32) (m : vM) (P : Int32 → vM → Prop) : Prop := vJ mX1_presentCells 2 43 197 none 4 [(0, .ref 1), (1, .int l1), (2, .int l2)] [] 197 SH m (vPi P)
def wp_X1_presentCells_0  (m : vM) (P : Int32 → vM → Prop) : Prop :=
  J_X1_presentCells_4 (0 : Int32) (0 : Int32) m P
set_option maxRecDepth 20000 in
set_option maxHeartbeats 4000000 in
theorem b_X1_presentCells_0  {m : vM} {P : Int32 → vM → Prop}  (h : wp_X1_presentCells_0  m P) : J_X1_presentCells_0  m P := by
  show vJ mX1_presentCells 2 43 197 none 0 [(0, .ref 1)] [] 197 SH m (vPi P)
  unfold wp_X1_presentCells_0 at h
  refine vJ.iconst dX1_presentCells_0 ci_0 ?_
  refine vJ.istore_n (ls2 := [(0, .ref 1), (1, .int (0 : Int32))]) dX1_presentCells_1 rfl (Nat.le_of_ble_eq_true rfl) rfl ?_
  refine vJ.iconst dX1_presentCells_2 ci_0 ?_
  refine vJ.istore_n (ls2 := [(0, .ref 1), (1, .int (0 : Int32)), (2, .int (0 : Int32))]) dX1_presentCells_3 rfl (Nat.le_of_ble_eq_true rfl) rfl ?_
  exact h
def EI_X1_presentCells  (m : vM) (P : Int32 → vM → Prop) : Prop := Ev mX1_presentCells 2 43 197 [.ref 1] 197 SH m (vPi P)
theorem f_X1_presentCells  {m : vM} {P : Int32 → vM → Prop} (h : J_X1_presentCells_0  m P) : EI_X1_presentCells  m P := Ev.of pn_X1_presentCells (Nat.le_of_ble_eq_true rfl) h
def wp_X1_presentCells_4 (l1 : Int32) (l2 : Int32) (m : vM) (P : Int32 → vM → Prop) : Prop :=
  (((m.1 1 3) ≤ l2 →
    P l1 m) ∧
  (¬ (m.1 1 3) ≤ l2 →
    wp_X1_present l2 m (fun o4 m1 =>
      ((o4 = none →
        J_X1_presentCells_4 l1 (l2 + (1 : Int32)) m1 P) ∧
      (∀ i2 : Nat, i2 < 40 → o4 = some i2 →
        J_X1_presentCells_4 (l1 + (1 : Int32)) (l2 + (1 : Int32)) m1 P)))))
set_option maxRecDepth 20000 in
set_option maxHeartbeats 4000000 in
theorem b_X1_presentCells_4 {l1 : Int32} {l2 : Int32} {m : vM} {P : Int32 → vM → Prop}  (h : wp_X1_presentCells_4 l1 l2 m P) : J_X1_presentCells_4 l1 l2 m P := by
  show vJ mX1_presentCells 2 43 197 none 4 [(0, .ref 1), (1, .int l1), (2, .int l2)] [] 197 SH m (vPi P)
  unfold wp_X1_presentCells_4 at h
  refine vJ.iload_n dX1_presentCells_4 rfl rfl ?_
  refine vJ.aload_n dX1_presentCells_5 rfl rfl ?_
  refine vJ.getI (ci := 1) (k := 3) dX1_presentCells_6 sh_1 (Nat.le_of_ble_eq_true rfl) rfl inX1 (Nat.le_of_ble_eq_true rfl) rfl fl_RX1_45 ?_
  refine vJ.icmp_ge (tgt := 29) dX1_presentCells_9 (by decide) (fun hc5 => ?_) (fun hc5 => ?_)
  · replace h := h.1 hc5
    refine vJ.iload_n dX1_presentCells_29 rfl rfl ?_
    exact vJ.ireturn dX1_presentCells_30 rfl rfl rfl ⟨rfl, _, rfl, h⟩
  · replace h := h.2 hc5
    refine vJ.aload_n dX1_presentCells_12 rfl rfl ?_
    refine vJ.iload_n dX1_presentCells_13 rfl rfl ?_
    refine vJ.callV (ci := 1) (Yc := mX1_present) (frc := 1) (loc := 21) (as := [.int l2]) dX1_presentCells_14 rfl sh_1 (Nat.le_of_ble_eq_true rfl) rfl ml_RX1_59 im_yX1_present se_yX1_present co_X1_present in_TableSetter_Grid pl_X1_present (Nat.le_of_ble_eq_true rfl) (Nat.le_of_ble_eq_true rfl) (Nat.le_of_ble_eq_true rfl) ?_
    refine Ev.gc (e_X1_present  h) (fun m1 h => ?_) (fun i2 m1 hi3 h => ?_)
    · replace h := h.1 rfl
      refine vJ.ifnullN (tgt := 23) dX1_presentCells_17 (by decide) ?_
      refine vJ.iinc (v := l2 + (1 : Int32)) (ls2 := [(0, .ref 1), (1, .int l1), (2, .int (l2 + (1 : Int32)))]) dX1_presentCells_23 rfl (congrArg (l2 + ·) ci_1) (Nat.le_of_ble_eq_true rfl) rfl ?_
      refine vJ.goto (tgt := 4) dX1_presentCells_26 (by decide) ?_
      exact h
    · replace h := h.2 i2 hi3 rfl
      refine vJ.ifnull dX1_presentCells_17 ?_
      refine vJ.iinc (v := l1 + (1 : Int32)) (ls2 := [(0, .ref 1), (1, .int (l1 + (1 : Int32))), (2, .int l2)]) dX1_presentCells_20 rfl (congrArg (l1 + ·) ci_1) (Nat.le_of_ble_eq_true rfl) rfl ?_
      refine vJ.iinc (v := l2 + (1 : Int32)) (ls2 := [(0, .ref 1), (1, .int (l1 + (1 : Int32))), (2, .int (l2 + (1 : Int32)))]) dX1_presentCells_23 rfl (congrArg (l2 + ·) ci_1) (Nat.le_of_ble_eq_true rfl) rfl ?_
      refine vJ.goto (tgt := 4) dX1_presentCells_26 (by decide) ?_
      exact h
