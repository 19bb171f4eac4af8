def J_X7_in_0 (l0 : Int32) (l1 : Int32) (l2 : Int32) (m : vM) (P : Int32 → vM → Prop) : Prop := vJ mX7_in 0 0 197 none 0 [(0, .int l0), (1, .int l1), (2, .int l2)] [] 197 SH m (vPi P)
def wp_X7_in (l0 : Int32) (l1 : Int32) (l2 : Int32) (m : vM) (P : Int32 → vM → Prop) : Prop :=
  ((l0 < l1 →
    P (0 : Int32) m) ∧
  (¬ l0 < l1 →
    ((l2 < l0 →
      P (0 : Int32) m) ∧
    (¬ l2 < l0 →
      P (1 : Int32) m))))
set_option maxRecDepth 20000 in
set_option maxHeartbeats 4000000 in
theorem b_X7_in {l0 : Int32} {l1 : Int32} {l2 : Int32} {m : vM} {P : Int32 → vM → Prop}  (h : wp_X7_in l0 l1 l2 m P) : J_X7_in_0 l0 l1 l2 m P := by
  show vJ mX7_in 0 0 197 none 0 [(0, .int l0), (1, .int l1), (2, .int l2)] [] 197 SH m (vPi P)
  unfold wp_X7_in at h
  refine vJ.iload_n dX7_in_0 rfl rfl ?_
  refine vJ.iload_n dX7_in_1 rfl rfl ?_
  refine vJ.icmp_lt (tgt := 14) dX7_in_2 (by decide) (fun hc2 => ?_) (fun hc2 => ?_)
  · replace h := h.1 hc2
    refine vJ.iconst dX7_in_14 ci_0 ?_
    exact vJ.ireturn dX7_in_15 rfl (by decide) rfl ⟨rfl, _, rfl, h⟩
  · replace h := h.2 hc2
    refine vJ.iload_n dX7_in_5 rfl rfl ?_
    refine vJ.iload_n dX7_in_6 rfl rfl ?_
    refine vJ.icmp_gt (tgt := 14) dX7_in_7 (by decide) (fun hc1 => ?_) (fun hc1 => ?_)
    · replace h := h.1 hc1
      refine vJ.iconst dX7_in_14 ci_0 ?_
      exact vJ.ireturn dX7_in_15 rfl (by decide) rfl ⟨rfl, _, rfl, h⟩
    · replace h := h.2 hc1
      refine vJ.iconst dX7_in_10 ci_1 ?_
      refine vJ.goto (tgt := 15) dX7_in_11 (by decide) ?_
      exact vJ.ireturn dX7_in_15 rfl (by decide) rfl ⟨rfl, _, rfl, h⟩
def EI_X7_in (l0 : Int32) (l1 : Int32) (l2 : Int32) (m : vM) (P : Int32 → vM → Prop) : Prop := Ev mX7_in 0 0 197 [.int l0, .int l1, .int l2] 197 SH m (vPi P)
theorem f_X7_in {l0 : Int32} {l1 : Int32} {l2 : Int32} {m : vM} {P : Int32 → vM → Prop} (h : J_X7_in_0 l0 l1 l2 m P) : EI_X7_in l0 l1 l2 m P := Ev.of pn_X7_in (Nat.le_of_ble_eq_true rfl) h
theorem e_X7_in {l0 : Int32} {l1 : Int32} {l2 : Int32} {m : vM} {P : Int32 → vM → Prop}  (h : wp_X7_in l0 l1 l2 m P) : EI_X7_in l0 l1 l2 m P := f_X7_in (b_X7_in  h)
def J_X7_meets_0 (l1 : Int32) (m : vM) (P : Int32 → vM → Prop) : Prop := vJ mX7_meets 0 0 197 none 0 [(0, .ref 163), (1, .int l1)] [] 197 SH m (vPi P)
def wp_X7_meets (l1 : Int32) (m : vM) (P : Int32 → vM → Prop) : Prop :=
  ∀ m1 : vM, m1 = upI m 163 0 l1 →
  vp_in l1 7 ∧
  vp_in l1 7 ∧
  ∀ m4 : vM, m4 = upI m1 164 (Int32.toNatClampNeg l1) ((m1.1 164 (Int32.toNatClampNeg l1)) + (1 : Int32)) →
  P (-3 : Int32) m4
set_option maxRecDepth 20000 in
set_option maxHeartbeats 4000000 in
theorem b_X7_meets {l1 : Int32} {m : vM} {P : Int32 → vM → Prop}  (h : wp_X7_meets l1 m P) : J_X7_meets_0 l1 m P := by
  show vJ mX7_meets 0 0 197 none 0 [(0, .ref 163), (1, .int l1)] [] 197 SH m (vPi P)
  unfold wp_X7_meets at h
  refine vJ.aload_n dX7_meets_0 rfl rfl ?_
  refine vJ.iload_n dX7_meets_1 rfl rfl ?_
  refine vJ.putI (ci := 7) (k := 0) dX7_meets_2 sh_163 (Nat.le_of_ble_eq_true rfl) rfl inX7 tyX7 tyX7_ok nmX7 (Nat.le_of_ble_eq_true rfl) rfl rfl fl_RX7_115 rfl rfl ?_
  refine vJ.topm (fun m1 em1 => ?_)
  replace h := h m1 em1
  refine vJ.aload_n dX7_meets_5 rfl rfl ?_
  refine vJ.getR (ci := 7) (k := 1) (j := 164) dX7_meets_6 sh_163 (Nat.le_of_ble_eq_true rfl) rfl inX7 (Nat.le_of_ble_eq_true rfl) rfl fl_RX7_7 ?_
  refine vJ.iload_n dX7_meets_9 rfl rfl ?_
  refine vJ.dup2 dX7_meets_10 rfl rfl ?_
  obtain ⟨hb2, h⟩ := h
  refine vJ.iald dX7_meets_11 sh_164 (Nat.le_of_ble_eq_true rfl) hb2 ?_
  refine vJ.iconst dX7_meets_12 ci_1 ?_
  refine vJ.iadd dX7_meets_13 ?_
  obtain ⟨hb3, h⟩ := h
  refine vJ.iast dX7_meets_14 sh_164 (Nat.le_of_ble_eq_true rfl) hb3 ?_
  refine vJ.topm (fun m4 em4 => ?_)
  replace h := h m4 em4
  refine vJ.bipush dX7_meets_15 cb_m3 ?_
  exact vJ.ireturn dX7_meets_17 rfl rfl rfl ⟨rfl, _, rfl, h⟩
def EI_X7_meets (l1 : Int32) (m : vM) (P : Int32 → vM → Prop) : Prop := Ev mX7_meets 0 0 197 [.ref 163, .int l1] 197 SH m (vPi P)
theorem f_X7_meets {l1 : Int32} {m : vM} {P : Int32 → vM → Prop} (h : J_X7_meets_0 l1 m P) : EI_X7_meets l1 m P := Ev.of pn_X7_meets (Nat.le_of_ble_eq_true rfl) h
theorem e_X7_meets {l1 : Int32} {m : vM} {P : Int32 → vM → Prop}  (h : wp_X7_meets l1 m P) : EI_X7_meets l1 m P := f_X7_meets (b_X7_meets  h)
def J_X7_finding_0  (m : vM) (P : Int32 → vM → Prop) : Prop := vJ mX7_finding 0 0 197 none 0 [(0, .ref 163)] [] 197 SH m (vPi P)
def wp_X7_finding  (m : vM) (P : Int32 → vM → Prop) : Prop :=
  P (m.1 163 0) m
set_option maxRecDepth 20000 in
set_option maxHeartbeats 4000000 in
theorem b_X7_finding  {m : vM} {P : Int32 → vM → Prop}  (h : wp_X7_finding  m P) : J_X7_finding_0  m P := by
  show vJ mX7_finding 0 0 197 none 0 [(0, .ref 163)] [] 197 SH m (vPi P)
  unfold wp_X7_finding at h
  refine vJ.aload_n dX7_finding_0 rfl rfl ?_
  refine vJ.getI (ci := 7) (k := 0) dX7_finding_1 sh_163 (Nat.le_of_ble_eq_true rfl) rfl inX7 (Nat.le_of_ble_eq_true rfl) rfl fl_RX7_115 ?_
  exact vJ.ireturn dX7_finding_4 rfl rfl rfl ⟨rfl, _, rfl, h⟩
def EI_X7_finding  (m : vM) (P : Int32 → vM → Prop) : Prop := Ev mX7_finding 0 0 197 [.ref 163] 197 SH m (vPi P)
theorem f_X7_finding  {m : vM} {P : Int32 → vM → Prop} (h : J_X7_finding_0  m P) : EI_X7_finding  m P := Ev.of pn_X7_finding (Nat.le_of_ble_eq_true rfl) h
theorem e_X7_finding  {m : vM} {P : Int32 → vM → Prop}  (h : wp_X7_finding  m P) : EI_X7_finding  m P := f_X7_finding (b_X7_finding  h)
def J_X7_findings_0 (l1 : Int32) (m : vM) (P : Int32 → vM → Prop) : Prop := vJ mX7_findings 1 22 197 none 0 [(0, .ref 163), (1, .int l1)] [] 197 SH m (vPi P)
def wp_X7_findings (l1 : Int32) (m : vM) (P : Int32 → vM → Prop) : Prop :=
  wp_X7_in l1 (1 : Int32) (6 : Int32) m (fun r2 m1 =>
    ((r2 = (0 : Int32) →
      P (-1 : Int32) m1) ∧
    (¬ r2 = (0 : Int32) →
      vp_in l1 7 ∧
      P (m1.1 164 (Int32.toNatClampNeg l1)) m1)))
set_option maxRecDepth 20000 in
set_option maxHeartbeats 4000000 in
theorem b_X7_findings {l1 : Int32} {m : vM} {P : Int32 → vM → Prop}  (h : wp_X7_findings l1 m P) : J_X7_findings_0 l1 m P := by
  show vJ mX7_findings 1 22 197 none 0 [(0, .ref 163), (1, .int l1)] [] 197 SH m (vPi P)
  unfold wp_X7_findings at h
  refine vJ.iload_n dX7_findings_0 rfl rfl ?_
  refine vJ.iconst dX7_findings_1 ci_1 ?_
  refine vJ.bipush dX7_findings_2 cb_6 ?_
  refine vJ.callS (Yc := mX7_in) (frc := 0) (loc := 0) (as := [.int l1, .int (1 : Int32), .int (6 : Int32)]) dX7_findings_4 rfl ml_RX7_119 st_yX7_in co_X7_in in_TableSetterModel pl_X7_in (Nat.le_of_ble_eq_true rfl) (Nat.le_of_ble_eq_true rfl) (Nat.le_of_ble_eq_true rfl) ?_
  refine Ev.gi (e_X7_in  h) (fun r2 m1 h => ?_)
  refine vJ.if_eq (tgt := 19) dX7_findings_7 (by decide) (fun hc4 => ?_) (fun hc4 => ?_)
  · replace h := h.1 hc4
    refine vJ.iconst dX7_findings_19 ci_m1 ?_
    exact vJ.ireturn dX7_findings_20 rfl rfl rfl ⟨rfl, _, rfl, h⟩
  · replace h := h.2 hc4
    refine vJ.aload_n dX7_findings_10 rfl rfl ?_
    refine vJ.getR (ci := 7) (k := 1) (j := 164) dX7_findings_11 sh_163 (Nat.le_of_ble_eq_true rfl) rfl inX7 (Nat.le_of_ble_eq_true rfl) rfl fl_RX7_7 ?_
    refine vJ.iload_n dX7_findings_14 rfl rfl ?_
    obtain ⟨hb3, h⟩ := h
    refine vJ.iald dX7_findings_15 sh_164 (Nat.le_of_ble_eq_true rfl) hb3 ?_
    refine vJ.goto (tgt := 20) dX7_findings_16 (by decide) ?_
    exact vJ.ireturn dX7_findings_20 rfl rfl rfl ⟨rfl, _, rfl, h⟩
def EI_X7_findings (l1 : Int32) (m : vM) (P : Int32 → vM → Prop) : Prop := Ev mX7_findings 1 22 197 [.ref 163, .int l1] 197 SH m (vPi P)
theorem f_X7_findings {l1 : Int32} {m : vM} {P : Int32 → vM → Prop} (h : J_X7_findings_0 l1 m P) : EI_X7_findings l1 m P := Ev.of pn_X7_findings (Nat.le_of_ble_eq_true rfl) h
theorem e_X7_findings {l1 : Int32} {m : vM} {P : Int32 → vM → Prop}  (h : wp_X7_findings l1 m P) : EI_X7_findings l1 m P := f_X7_findings (b_X7_findings  h)
def J_X7_begin_0 (l1 : Int32) (l2 : Int32) (l3 : Int32) (m : vM) (P : vM → Prop) : Prop := vJ mX7_begin 0 0 197 none 0 [(0, .ref 163), (1, .int l1), (2, .int l2), (3, .int l3)] [] 197 SH m (vPv P)
def J_X7_begin_34 (l4 : Int32) (m : vM) (P : vM → Prop) : Prop := vJ mX7_begin 0 0 197 none 34 [(0, .ref 163), (4, .int l4)] [] 197 SH m (vPv P)
def wp_X7_begin_0 (l1 : Int32) (l2 : Int32) (l3 : Int32) (m : vM) (P : vM → Prop) : Prop :=
  ∀ m1 : vM, m1 = upI m 163 2 l1 →
  ∀ m2 : vM, m2 = upI m1 163 3 l2 →
  ∀ m3 : vM, m3 = upI m2 163 4 l3 →
  ∀ m4 : vM, m4 = upI m3 163 7 (0 : Int32) →
  ∀ m5 : vM, m5 = upI m4 163 18 (-9 : Int32) →
  ∀ m6 : vM, m6 = upI m5 163 32 (0 : Int32) →
  J_X7_begin_34 (0 : Int32) m6 P
set_option maxRecDepth 20000 in
set_option maxHeartbeats 4000000 in
theorem b_X7_begin_0 {l1 : Int32} {l2 : Int32} {l3 : Int32} {m : vM} {P : vM → Prop}  (h : wp_X7_begin_0 l1 l2 l3 m P) : J_X7_begin_0 l1 l2 l3 m P := by
  show vJ mX7_begin 0 0 197 none 0 [(0, .ref 163), (1, .int l1), (2, .int l2), (3, .int l3)] [] 197 SH m (vPv P)
  unfold wp_X7_begin_0 at h
  refine vJ.aload_n dX7_begin_0 rfl rfl ?_
  refine vJ.iload_n dX7_begin_1 rfl rfl ?_
  refine vJ.putI (ci := 7) (k := 2) dX7_begin_2 sh_163 (Nat.le_of_ble_eq_true rfl) rfl inX7 tyX7 tyX7_ok nmX7 (Nat.le_of_ble_eq_true rfl) rfl rfl fl_RX7_123 rfl rfl ?_
  refine vJ.topm (fun m1 em1 => ?_)
  replace h := h m1 em1
  refine vJ.aload_n dX7_begin_5 rfl rfl ?_
  refine vJ.iload_n dX7_begin_6 rfl rfl ?_
  refine vJ.putI (ci := 7) (k := 3) dX7_begin_7 sh_163 (Nat.le_of_ble_eq_true rfl) rfl inX7 tyX7 tyX7_ok nmX7 (Nat.le_of_ble_eq_true rfl) rfl rfl fl_RX7_126 rfl rfl ?_
  refine vJ.topm (fun m2 em2 => ?_)
  replace h := h m2 em2
  refine vJ.aload_n dX7_begin_10 rfl rfl ?_
  refine vJ.iload_n dX7_begin_11 rfl rfl ?_
  refine vJ.putI (ci := 7) (k := 4) dX7_begin_12 sh_163 (Nat.le_of_ble_eq_true rfl) rfl inX7 tyX7 tyX7_ok nmX7 (Nat.le_of_ble_eq_true rfl) rfl rfl fl_RX7_129 rfl rfl ?_
  refine vJ.topm (fun m3 em3 => ?_)
  replace h := h m3 em3
  refine vJ.aload_n dX7_begin_15 rfl rfl ?_
  refine vJ.iconst dX7_begin_16 ci_0 ?_
  refine vJ.putI (ci := 7) (k := 7) dX7_begin_17 sh_163 (Nat.le_of_ble_eq_true rfl) rfl inX7 tyX7 tyX7_ok nmX7 (Nat.le_of_ble_eq_true rfl) rfl rfl fl_RX7_132 rfl rfl ?_
  refine vJ.topm (fun m4 em4 => ?_)
  replace h := h m4 em4
  refine vJ.aload_n dX7_begin_20 rfl rfl ?_
  refine vJ.bipush dX7_begin_21 cb_m9 ?_
  refine vJ.putI (ci := 7) (k := 18) dX7_begin_23 sh_163 (Nat.le_of_ble_eq_true rfl) rfl inX7 tyX7 tyX7_ok nmX7 (Nat.le_of_ble_eq_true rfl) rfl rfl fl_RX7_135 rfl rfl ?_
  refine vJ.topm (fun m5 em5 => ?_)
  replace h := h m5 em5
  refine vJ.aload_n dX7_begin_26 rfl rfl ?_
  refine vJ.iconst dX7_begin_27 ci_0 ?_
  refine vJ.putI (ci := 7) (k := 32) dX7_begin_28 sh_163 (Nat.le_of_ble_eq_true rfl) rfl inX7 tyX7 tyX7_ok nmX7 (Nat.le_of_ble_eq_true rfl) rfl rfl fl_RX7_138 rfl rfl ?_
  refine vJ.topm (fun m6 em6 => ?_)
  replace h := h m6 em6
  refine vJ.iconst dX7_begin_31 ci_0 ?_
  refine vJ.istore (ls2 := [(0, .ref 163), (1, .int l1), (2, .int l2), (3, .int l3), (4, .int (0 : Int32))]) dX7_begin_32 (Nat.le_of_ble_eq_true rfl) rfl ?_
  refine vJ.sub [0, 4] rfl ?_
  exact h
def EI_X7_begin (l1 : Int32) (l2 : Int32) (l3 : Int32) (m : vM) (P : vM → Prop) : Prop := Ev mX7_begin 0 0 197 [.ref 163, .int l1, .int l2, .int l3] 197 SH m (vPv P)
theorem f_X7_begin {l1 : Int32} {l2 : Int32} {l3 : Int32} {m : vM} {P : vM → Prop} (h : J_X7_begin_0 l1 l2 l3 m P) : EI_X7_begin l1 l2 l3 m P := Ev.of pn_X7_begin (Nat.le_of_ble_eq_true rfl) h
def J_X7_begin_66 (l4 : Int32) (m : vM) (P : vM → Prop) : Prop := vJ mX7_begin 0 0 197 none 66 [(0, .ref 163), (4, .int l4)] [] 197 SH m (vPv P)
def wp_X7_begin_34 (l4 : Int32) (m : vM) (P : vM → Prop) : Prop :=
  (((6 : Int32) ≤ l4 →
    J_X7_begin_66 (0 : Int32) m P) ∧
  (¬ (6 : Int32) ≤ l4 →
    vp_in l4 6 ∧
    ∀ m2 : vM, m2 = upI m 165 (Int32.toNatClampNeg l4) (1 : Int32) →
    vp_in l4 6 ∧
    ∀ m4 : vM, m4 = upI m2 181 (Int32.toNatClampNeg l4) (0 : Int32) →
    J_X7_begin_34 (l4 + (1 : Int32)) m4 P))
set_option maxRecDepth 20000 in
set_option maxHeartbeats 4000000 in
theorem b_X7_begin_34 {l4 : Int32} {m : vM} {P : vM → Prop}  (h : wp_X7_begin_34 l4 m P) : J_X7_begin_34 l4 m P := by
  show vJ mX7_begin 0 0 197 none 34 [(0, .ref 163), (4, .int l4)] [] 197 SH m (vPv P)
  unfold wp_X7_begin_34 at h
  refine vJ.iload dX7_begin_34 rfl ?_
  refine vJ.bipush dX7_begin_36 cb_6 ?_
  refine vJ.icmp_ge (tgt := 63) dX7_begin_38 (by decide) (fun hc5 => ?_) (fun hc5 => ?_)
  · replace h := h.1 hc5
    refine vJ.iconst dX7_begin_63 ci_0 ?_
    refine vJ.istore (ls2 := [(0, .ref 163), (4, .int (0 : Int32))]) dX7_begin_64 (Nat.le_of_ble_eq_true rfl) rfl ?_
    exact h
  · replace h := h.2 hc5
    refine vJ.aload_n dX7_begin_41 rfl rfl ?_
    refine vJ.getR (ci := 7) (k := 5) (j := 165) dX7_begin_42 sh_163 (Nat.le_of_ble_eq_true rfl) rfl inX7 (Nat.le_of_ble_eq_true rfl) rfl fl_RX7_13 ?_
    refine vJ.iload dX7_begin_45 rfl ?_
    refine vJ.iconst dX7_begin_47 ci_1 ?_
    obtain ⟨hb1, h⟩ := h
    refine vJ.iast dX7_begin_48 sh_165 (Nat.le_of_ble_eq_true rfl) hb1 ?_
    refine vJ.topm (fun m2 em2 => ?_)
    replace h := h m2 em2
    refine vJ.aload_n dX7_begin_49 rfl rfl ?_
    refine vJ.getR (ci := 7) (k := 23) (j := 181) dX7_begin_50 sh_163 (Nat.le_of_ble_eq_true rfl) rfl inX7 (Nat.le_of_ble_eq_true rfl) rfl fl_RX7_62 ?_
    refine vJ.iload dX7_begin_53 rfl ?_
    refine vJ.iconst dX7_begin_55 ci_0 ?_
    obtain ⟨hb3, h⟩ := h
    refine vJ.iast dX7_begin_56 sh_181 (Nat.le_of_ble_eq_true rfl) hb3 ?_
    refine vJ.topm (fun m4 em4 => ?_)
    replace h := h m4 em4
    refine vJ.iinc (v := l4 + (1 : Int32)) (ls2 := [(0, .ref 163), (4, .int (l4 + (1 : Int32)))]) dX7_begin_57 rfl (congrArg (l4 + ·) ci_1) (Nat.le_of_ble_eq_true rfl) rfl ?_
    refine vJ.goto (tgt := 34) dX7_begin_60 (by decide) ?_
    exact h
def wp_X7_begin_66 (l4 : Int32) (m : vM) (P : vM → Prop) : Prop :=
  (((16 : Int32) ≤ l4 →
    P m) ∧
  (¬ (16 : Int32) ≤ l4 →
    vp_in l4 16 ∧
    ∀ m2 : vM, m2 = upI m 193 (Int32.toNatClampNeg l4) (-9 : Int32) →
    J_X7_begin_66 (l4 + (1 : Int32)) m2 P))
set_option maxRecDepth 20000 in
set_option maxHeartbeats 4000000 in
theorem b_X7_begin_66 {l4 : Int32} {m : vM} {P : vM → Prop}  (h : wp_X7_begin_66 l4 m P) : J_X7_begin_66 l4 m P := by
  show vJ mX7_begin 0 0 197 none 66 [(0, .ref 163), (4, .int l4)] [] 197 SH m (vPv P)
  unfold wp_X7_begin_66 at h
  refine vJ.iload dX7_begin_66 rfl ?_
  refine vJ.bipush dX7_begin_68 cb_16 ?_
  refine vJ.icmp_ge (tgt := 88) dX7_begin_70 (by decide) (fun hc3 => ?_) (fun hc3 => ?_)
  · replace h := h.1 hc3
    exact vJ.vreturn dX7_begin_88 rfl rfl ⟨rfl, rfl, h⟩
  · replace h := h.2 hc3
    refine vJ.aload_n dX7_begin_73 rfl rfl ?_
    refine vJ.getR (ci := 7) (k := 37) (j := 193) dX7_begin_74 sh_163 (Nat.le_of_ble_eq_true rfl) rfl inX7 (Nat.le_of_ble_eq_true rfl) rfl fl_RX7_98 ?_
    refine vJ.iload dX7_begin_77 rfl ?_
    refine vJ.bipush dX7_begin_79 cb_m9 ?_
    obtain ⟨hb1, h⟩ := h
    refine vJ.iast dX7_begin_81 sh_193 (Nat.le_of_ble_eq_true rfl) hb1 ?_
    refine vJ.topm (fun m2 em2 => ?_)
    replace h := h m2 em2
    refine vJ.iinc (v := l4 + (1 : Int32)) (ls2 := [(0, .ref 163), (4, .int (l4 + (1 : Int32)))]) dX7_begin_82 rfl (congrArg (l4 + ·) ci_1) (Nat.le_of_ble_eq_true rfl) rfl ?_
    refine vJ.goto (tgt := 66) dX7_begin_85 (by decide) ?_
    exact h
def J_X7_table_0 (l1 : Int32) (l2 : Int32) (l3 : Int32) (m : vM) (P : Int32 → vM → Prop) : Prop := vJ mX7_table 1 24 197 none 0 [(0, .ref 163), (1, .int l1), (2, .int l2), (3, .int l3)] [] 197 SH m (vPi P)
def wp_X7_table (l1 : Int32) (l2 : Int32) (l3 : Int32) (m : vM) (P : Int32 → vM → Prop) : Prop :=
  wp_X7_in l1 (1 : Int32) (16 : Int32) m (fun r2 m1 =>
    ((r2 = (0 : Int32) →
      P (-1 : Int32) m1) ∧
    (¬ r2 = (0 : Int32) →
      wp_X7_in l2 (1 : Int32) (6 : Int32) m1 (fun r4 m3 =>
        ((r4 = (0 : Int32) →
          P (-1 : Int32) m3) ∧
        (¬ r4 = (0 : Int32) →
          wp_X7_in l3 (0 : Int32) (3 : Int32) m3 (fun r6 m5 =>
            ((r6 = (0 : Int32) →
              P (-1 : Int32) m5) ∧
            (¬ r6 = (0 : Int32) →
              EI_X7_begin l1 l2 l3 m5 (fun m7 =>
                P (l1 * l2) m7))))))))))
set_option maxRecDepth 20000 in
set_option maxHeartbeats 4000000 in
theorem b_X7_table {l1 : Int32} {l2 : Int32} {l3 : Int32} {m : vM} {P : Int32 → vM → Prop}  (h : wp_X7_table l1 l2 l3 m P) : J_X7_table_0 l1 l2 l3 m P := by
  show vJ mX7_table 1 24 197 none 0 [(0, .ref 163), (1, .int l1), (2, .int l2), (3, .int l3)] [] 197 SH m (vPi P)
  unfold wp_X7_table at h
  refine vJ.iload_n dX7_table_0 rfl rfl ?_
  refine vJ.iconst dX7_table_1 ci_1 ?_
  refine vJ.bipush dX7_table_2 cb_16 ?_
  refine vJ.callS (Yc := mX7_in) (frc := 0) (loc := 0) (as := [.int l1, .int (1 : Int32), .int (16 : Int32)]) dX7_table_4 rfl ml_RX7_119 st_yX7_in co_X7_in in_TableSetterModel pl_X7_in (Nat.le_of_ble_eq_true rfl) (Nat.le_of_ble_eq_true rfl) (Nat.le_of_ble_eq_true rfl) ?_
  refine Ev.gi (e_X7_in  h) (fun r2 m1 h => ?_)
  refine vJ.if_eq (tgt := 29) dX7_table_7 (by decide) (fun hc10 => ?_) (fun hc10 => ?_)
  · replace h := h.1 hc10
    refine vJ.iconst dX7_table_29 ci_m1 ?_
    exact vJ.ireturn dX7_table_30 rfl rfl rfl ⟨rfl, _, rfl, h⟩
  · replace h := h.2 hc10
    refine vJ.iload_n dX7_table_10 rfl rfl ?_
    refine vJ.iconst dX7_table_11 ci_1 ?_
    refine vJ.bipush dX7_table_12 cb_6 ?_
    refine vJ.callS (Yc := mX7_in) (frc := 0) (loc := 0) (as := [.int l2, .int (1 : Int32), .int (6 : Int32)]) dX7_table_14 rfl ml_RX7_119 st_yX7_in co_X7_in in_TableSetterModel pl_X7_in (Nat.le_of_ble_eq_true rfl) (Nat.le_of_ble_eq_true rfl) (Nat.le_of_ble_eq_true rfl) ?_
    refine Ev.gi (e_X7_in  h) (fun r4 m3 h => ?_)
    refine vJ.if_eq (tgt := 29) dX7_table_17 (by decide) (fun hc9 => ?_) (fun hc9 => ?_)
    · replace h := h.1 hc9
      refine vJ.iconst dX7_table_29 ci_m1 ?_
      exact vJ.ireturn dX7_table_30 rfl rfl rfl ⟨rfl, _, rfl, h⟩
    · replace h := h.2 hc9
      refine vJ.iload_n dX7_table_20 rfl rfl ?_
      refine vJ.iconst dX7_table_21 ci_0 ?_
      refine vJ.iconst dX7_table_22 ci_3 ?_
      refine vJ.callS (Yc := mX7_in) (frc := 0) (loc := 0) (as := [.int l3, .int (0 : Int32), .int (3 : Int32)]) dX7_table_23 rfl ml_RX7_119 st_yX7_in co_X7_in in_TableSetterModel pl_X7_in (Nat.le_of_ble_eq_true rfl) (Nat.le_of_ble_eq_true rfl) (Nat.le_of_ble_eq_true rfl) ?_
      refine Ev.gi (e_X7_in  h) (fun r6 m5 h => ?_)
      refine vJ.if_ne (tgt := 31) dX7_table_26 (by decide) (fun hc8 => ?_) (fun hc8 => ?_)
      · replace h := h.2 hc8
        refine vJ.aload_n dX7_table_31 rfl rfl ?_
        refine vJ.iload_n dX7_table_32 rfl rfl ?_
        refine vJ.iload_n dX7_table_33 rfl rfl ?_
        refine vJ.iload_n dX7_table_34 rfl rfl ?_
        refine vJ.callV (ci := 7) (Yc := mX7_begin) (frc := 0) (loc := 0) (as := [.int l1, .int l2, .int l3]) dX7_table_35 rfl sh_163 (Nat.le_of_ble_eq_true rfl) rfl ml_RX7_111 im_yX7_begin se_yX7_begin co_X7_begin in_TableSetterModel pl_X7_begin (Nat.le_of_ble_eq_true rfl) (Nat.le_of_ble_eq_true rfl) (Nat.le_of_ble_eq_true rfl) ?_
        refine Ev.gv h (fun m7 h => ?_)
        refine vJ.iload_n dX7_table_38 rfl rfl ?_
        refine vJ.iload_n dX7_table_39 rfl rfl ?_
        refine vJ.imul dX7_table_40 ?_
        exact vJ.ireturn dX7_table_41 rfl rfl rfl ⟨rfl, _, rfl, h⟩
      · replace h := h.1 hc8
        refine vJ.iconst dX7_table_29 ci_m1 ?_
        exact vJ.ireturn dX7_table_30 rfl rfl rfl ⟨rfl, _, rfl, h⟩
def EI_X7_table (l1 : Int32) (l2 : Int32) (l3 : Int32) (m : vM) (P : Int32 → vM → Prop) : Prop := Ev mX7_table 1 24 197 [.ref 163, .int l1, .int l2, .int l3] 197 SH m (vPi P)
theorem f_X7_table {l1 : Int32} {l2 : Int32} {l3 : Int32} {m : vM} {P : Int32 → vM → Prop} (h : J_X7_table_0 l1 l2 l3 m P) : EI_X7_table l1 l2 l3 m P := Ev.of pn_X7_table (Nat.le_of_ble_eq_true rfl) h
theorem e_X7_table {l1 : Int32} {l2 : Int32} {l3 : Int32} {m : vM} {P : Int32 → vM → Prop}  (h : wp_X7_table l1 l2 l3 m P) : EI_X7_table l1 l2 l3 m P := f_X7_table (b_X7_table  h)
def J_X7_isRow_0 (l1 : Int32) (m : vM) (P : Int32 → vM → Prop) : Prop := vJ mX7_isRow 1 22 197 none 0 [(0, .ref 163), (1, .int l1)] [] 197 SH m (vPi P)
def wp_X7_isRow (l1 : Int32) (m : vM) (P : Int32 → vM → Prop) : Prop :=
  wp_X7_in l1 (0 : Int32) ((m.1 163 2) - (1 : Int32)) m (fun r2 m1 =>
    (r2 &&& 1 = r2) ∧
    P r2 m1)
set_option maxRecDepth 20000 in
set_option maxHeartbeats 4000000 in
theorem b_X7_isRow {l1 : Int32} {m : vM} {P : Int32 → vM → Prop}  (h : wp_X7_isRow l1 m P) : J_X7_isRow_0 l1 m P := by
  show vJ mX7_isRow 1 22 197 none 0 [(0, .ref 163), (1, .int l1)] [] 197 SH m (vPi P)
  unfold wp_X7_isRow at h
  refine vJ.iload_n dX7_isRow_0 rfl rfl ?_
  refine vJ.iconst dX7_isRow_1 ci_0 ?_
  refine vJ.aload_n dX7_isRow_2 rfl rfl ?_
  refine vJ.getI (ci := 7) (k := 2) dX7_isRow_3 sh_163 (Nat.le_of_ble_eq_true rfl) rfl inX7 (Nat.le_of_ble_eq_true rfl) rfl fl_RX7_123 ?_
  refine vJ.iconst dX7_isRow_6 ci_1 ?_
  refine vJ.isub dX7_isRow_7 ?_
  refine vJ.callS (Yc := mX7_in) (frc := 0) (loc := 0) (as := [.int l1, .int (0 : Int32), .int ((m.1 163 2) - (1 : Int32))]) dX7_isRow_8 rfl ml_RX7_119 st_yX7_in co_X7_in in_TableSetterModel pl_X7_in (Nat.le_of_ble_eq_true rfl) (Nat.le_of_ble_eq_true rfl) (Nat.le_of_ble_eq_true rfl) ?_
  refine Ev.gi (e_X7_in  h) (fun r2 m1 h => ?_)
  obtain ⟨hn3, h⟩ := h
  exact vJ.ireturn dX7_isRow_11 rfl (congrArg Value.int hn3) rfl ⟨rfl, _, rfl, h⟩
def EI_X7_isRow (l1 : Int32) (m : vM) (P : Int32 → vM → Prop) : Prop := Ev mX7_isRow 1 22 197 [.ref 163, .int l1] 197 SH m (vPi P)
theorem f_X7_isRow {l1 : Int32} {m : vM} {P : Int32 → vM → Prop} (h : J_X7_isRow_0 l1 m P) : EI_X7_isRow l1 m P := Ev.of pn_X7_isRow (Nat.le_of_ble_eq_true rfl) h
theorem e_X7_isRow {l1 : Int32} {m : vM} {P : Int32 → vM → Prop}  (h : wp_X7_isRow l1 m P) : EI_X7_isRow l1 m P := f_X7_isRow (b_X7_isRow  h)
def J_X7_isColumn_0 (l1 : Int32) (m : vM) (P : Int32 → vM → Prop) : Prop := vJ mX7_isColumn 1 22 197 none 0 [(0, .ref 163), (1, .int l1)] [] 197 SH m (vPi P)
def wp_X7_isColumn (l1 : Int32) (m : vM) (P : Int32 → vM → Prop) : Prop :=
  wp_X7_in l1 (0 : Int32) ((m.1 163 3) - (1 : Int32)) m (fun r2 m1 =>
    (r2 &&& 1 = r2) ∧
    P r2 m1)
set_option maxRecDepth 20000 in
set_option maxHeartbeats 4000000 in
theorem b_X7_isColumn {l1 : Int32} {m : vM} {P : Int32 → vM → Prop}  (h : wp_X7_isColumn l1 m P) : J_X7_isColumn_0 l1 m P := by
  show vJ mX7_isColumn 1 22 197 none 0 [(0, .ref 163), (1, .int l1)] [] 197 SH m (vPi P)
  unfold wp_X7_isColumn at h
  refine vJ.iload_n dX7_isColumn_0 rfl rfl ?_
  refine vJ.iconst dX7_isColumn_1 ci_0 ?_
  refine vJ.aload_n dX7_isColumn_2 rfl rfl ?_
  refine vJ.getI (ci := 7) (k := 3) dX7_isColumn_3 sh_163 (Nat.le_of_ble_eq_true rfl) rfl inX7 (Nat.le_of_ble_eq_true rfl) rfl fl_RX7_126 ?_
  refine vJ.iconst dX7_isColumn_6 ci_1 ?_
  refine vJ.isub dX7_isColumn_7 ?_
  refine vJ.callS (Yc := mX7_in) (frc := 0) (loc := 0) (as := [.int l1, .int (0 : Int32), .int ((m.1 163 3) - (1 : Int32))]) dX7_isColumn_8 rfl ml_RX7_119 st_yX7_in co_X7_in in_TableSetterModel pl_X7_in (Nat.le_of_ble_eq_true rfl) (Nat.le_of_ble_eq_true rfl) (Nat.le_of_ble_eq_true rfl) ?_
  refine Ev.gi (e_X7_in  h) (fun r2 m1 h => ?_)
  obtain ⟨hn3, h⟩ := h
  exact vJ.ireturn dX7_isColumn_11 rfl (congrArg Value.int hn3) rfl ⟨rfl, _, rfl, h⟩
def EI_X7_isColumn (l1 : Int32) (m : vM) (P : Int32 → vM → Prop) : Prop := Ev mX7_isColumn 1 22 197 [.ref 163, .int l1] 197 SH m (vPi P)
theorem f_X7_isColumn {l1 : Int32} {m : vM} {P : Int32 → vM → Prop} (h : J_X7_isColumn_0 l1 m P) : EI_X7_isColumn l1 m P := Ev.of pn_X7_isColumn (Nat.le_of_ble_eq_true rfl) h
theorem e_X7_isColumn {l1 : Int32} {m : vM} {P : Int32 → vM → Prop}  (h : wp_X7_isColumn l1 m P) : EI_X7_isColumn l1 m P := f_X7_isColumn (b_X7_isColumn  h)
def J_X7_weight_0 (l1 : Int32) (l2 : Int32) (m : vM) (P : Int32 → vM → Prop) : Prop := vJ mX7_weight 2 43 197 none 0 [(0, .ref 163), (1, .int l1), (2, .int l2)] [] 197 SH m (vPi P)
def wp_X7_weight (l1 : Int32) (l2 : Int32) (m : vM) (P : Int32 → vM → Prop) : Prop :=
  wp_X7_isColumn l1 m (fun r2 m1 =>
    ((r2 = (0 : Int32) →
      P (-1 : Int32) m1) ∧
    (¬ r2 = (0 : Int32) →
      wp_X7_in l2 (1 : Int32) (9 : Int32) m1 (fun r4 m3 =>
        ((r4 = (0 : Int32) →
          P (-1 : Int32) m3) ∧
        (¬ r4 = (0 : Int32) →
          vp_in l1 6 ∧
          ∀ v6 : Int32, v6 = (m3.1 165 (Int32.toNatClampNeg l1)) →
          vp_in l1 6 ∧
          ∀ m8 : vM, m8 = upI m3 165 (Int32.toNatClampNeg l1) l2 →
          P v6 m8))))))
set_option maxRecDepth 20000 in
set_option maxHeartbeats 4000000 in
theorem b_X7_weight {l1 : Int32} {l2 : Int32} {m : vM} {P : Int32 → vM → Prop}  (h : wp_X7_weight l1 l2 m P) : J_X7_weight_0 l1 l2 m P := by
  show vJ mX7_weight 2 43 197 none 0 [(0, .ref 163), (1, .int l1), (2, .int l2)] [] 197 SH m (vPi P)
  unfold wp_X7_weight at h
  refine vJ.aload_n dX7_weight_0 rfl rfl ?_
  refine vJ.iload_n dX7_weight_1 rfl rfl ?_
  refine vJ.callV (ci := 7) (Yc := mX7_isColumn) (frc := 1) (loc := 22) (as := [.int l1]) dX7_weight_2 rfl sh_163 (Nat.le_of_ble_eq_true rfl) rfl ml_RX7_141 im_yX7_isColumn se_yX7_isColumn co_X7_isColumn in_TableSetterModel pl_X7_isColumn (Nat.le_of_ble_eq_true rfl) (Nat.le_of_ble_eq_true rfl) (Nat.le_of_ble_eq_true rfl) ?_
  refine Ev.gi (e_X7_isColumn  h) (fun r2 m1 h => ?_)
  refine vJ.if_eq (tgt := 18) dX7_weight_5 (by decide) (fun hc10 => ?_) (fun hc10 => ?_)
  · replace h := h.1 hc10
    refine vJ.iconst dX7_weight_18 ci_m1 ?_
    exact vJ.ireturn dX7_weight_19 rfl rfl rfl ⟨rfl, _, rfl, h⟩
  · replace h := h.2 hc10
    refine vJ.iload_n dX7_weight_8 rfl rfl ?_
    refine vJ.iconst dX7_weight_9 ci_1 ?_
    refine vJ.bipush dX7_weight_10 cb_9 ?_
    refine vJ.callS (Yc := mX7_in) (frc := 0) (loc := 0) (as := [.int l2, .int (1 : Int32), .int (9 : Int32)]) dX7_weight_12 rfl ml_RX7_119 st_yX7_in co_X7_in in_TableSetterModel pl_X7_in (Nat.le_of_ble_eq_true rfl) (Nat.le_of_ble_eq_true rfl) (Nat.le_of_ble_eq_true rfl) ?_
    refine Ev.gi (e_X7_in  h) (fun r4 m3 h => ?_)
    refine vJ.if_ne (tgt := 20) dX7_weight_15 (by decide) (fun hc9 => ?_) (fun hc9 => ?_)
    · replace h := h.2 hc9
      refine vJ.aload_n dX7_weight_20 rfl rfl ?_
      refine vJ.getR (ci := 7) (k := 5) (j := 165) dX7_weight_21 sh_163 (Nat.le_of_ble_eq_true rfl) rfl inX7 (Nat.le_of_ble_eq_true rfl) rfl fl_RX7_13 ?_
      refine vJ.iload_n dX7_weight_24 rfl rfl ?_
      obtain ⟨hb5, h⟩ := h
      refine vJ.iald dX7_weight_25 sh_165 (Nat.le_of_ble_eq_true rfl) hb5 ?_
      refine vJ.topi (fun v6 ev6 => ?_)
      replace h := h v6 ev6
      refine vJ.istore_n (ls2 := [(0, .ref 163), (1, .int l1), (2, .int l2), (3, .int v6)]) dX7_weight_26 rfl (Nat.le_of_ble_eq_true rfl) rfl ?_
      refine vJ.aload_n dX7_weight_27 rfl rfl ?_
      refine vJ.getR (ci := 7) (k := 5) (j := 165) dX7_weight_28 sh_163 (Nat.le_of_ble_eq_true rfl) rfl inX7 (Nat.le_of_ble_eq_true rfl) rfl fl_RX7_13 ?_
      refine vJ.iload_n dX7_weight_31 rfl rfl ?_
      refine vJ.iload_n dX7_weight_32 rfl rfl ?_
      obtain ⟨hb7, h⟩ := h
      refine vJ.iast dX7_weight_33 sh_165 (Nat.le_of_ble_eq_true rfl) hb7 ?_
      refine vJ.topm (fun m8 em8 => ?_)
      replace h := h m8 em8
      refine vJ.iload_n dX7_weight_34 rfl rfl ?_
      exact vJ.ireturn dX7_weight_35 rfl rfl rfl ⟨rfl, _, rfl, h⟩
    · replace h := h.1 hc9
      refine vJ.iconst dX7_weight_18 ci_m1 ?_
      exact vJ.ireturn dX7_weight_19 rfl rfl rfl ⟨rfl, _, rfl, h⟩
def EI_X7_weight (l1 : Int32) (l2 : Int32) (m : vM) (P : Int32 → vM → Prop) : Prop := Ev mX7_weight 2 43 197 [.ref 163, .int l1, .int l2] 197 SH m (vPi P)
theorem f_X7_weight {l1 : Int32} {l2 : Int32} {m : vM} {P : Int32 → vM → Prop} (h : J_X7_weight_0 l1 l2 m P) : EI_X7_weight l1 l2 m P := Ev.of pn_X7_weight (Nat.le_of_ble_eq_true rfl) h
theorem e_X7_weight {l1 : Int32} {l2 : Int32} {m : vM} {P : Int32 → vM → Prop}  (h : wp_X7_weight l1 l2 m P) : EI_X7_weight l1 l2 m P := f_X7_weight (b_X7_weight  h)
def J_X7_note_0 (l1 : Int32) (l2 : Int32) (m : vM) (P : Int32 → vM → Prop) : Prop := vJ mX7_note 1 22 197 none 0 [(0, .ref 163), (1, .int l1), (2, .int l2)] [] 197 SH m (vPi P)
def wp_X7_note (l1 : Int32) (l2 : Int32) (m : vM) (P : Int32 → vM → Prop) : Prop :=
  wp_X7_in l1 (0 : Int32) (9 : Int32) m (fun r2 m1 =>
    ((r2 = (0 : Int32) →
      P (-1 : Int32) m1) ∧
    (¬ r2 = (0 : Int32) →
      wp_X7_in l2 (1 : Int32) (6 : Int32) m1 (fun r4 m3 =>
        ((r4 = (0 : Int32) →
          P (-1 : Int32) m3) ∧
        (¬ r4 = (0 : Int32) →
          vp_in l1 10 ∧
          ∀ v6 : Int32, v6 = (m3.1 166 (Int32.toNatClampNeg l1)) →
          vp_in l1 10 ∧
          ∀ m8 : vM, m8 = upI m3 166 (Int32.toNatClampNeg l1) l2 →
          P v6 m8))))))
set_option maxRecDepth 20000 in
set_option maxHeartbeats 4000000 in
theorem b_X7_note {l1 : Int32} {l2 : Int32} {m : vM} {P : Int32 → vM → Prop}  (h : wp_X7_note l1 l2 m P) : J_X7_note_0 l1 l2 m P := by
  show vJ mX7_note 1 22 197 none 0 [(0, .ref 163), (1, .int l1), (2, .int l2)] [] 197 SH m (vPi P)
  unfold wp_X7_note at h
  refine vJ.iload_n dX7_note_0 rfl rfl ?_
  refine vJ.iconst dX7_note_1 ci_0 ?_
  refine vJ.bipush dX7_note_2 cb_9 ?_
  refine vJ.callS (Yc := mX7_in) (frc := 0) (loc := 0) (as := [.int l1, .int (0 : Int32), .int (9 : Int32)]) dX7_note_4 rfl ml_RX7_119 st_yX7_in co_X7_in in_TableSetterModel pl_X7_in (Nat.le_of_ble_eq_true rfl) (Nat.le_of_ble_eq_true rfl) (Nat.le_of_ble_eq_true rfl) ?_
  refine Ev.gi (e_X7_in  h) (fun r2 m1 h => ?_)
  refine vJ.if_eq (tgt := 20) dX7_note_7 (by decide) (fun hc10 => ?_) (fun hc10 => ?_)
  · replace h := h.1 hc10
    refine vJ.iconst dX7_note_20 ci_m1 ?_
    exact vJ.ireturn dX7_note_21 rfl rfl rfl ⟨rfl, _, rfl, h⟩
  · replace h := h.2 hc10
    refine vJ.iload_n dX7_note_10 rfl rfl ?_
    refine vJ.iconst dX7_note_11 ci_1 ?_
    refine vJ.bipush dX7_note_12 cb_6 ?_
    refine vJ.callS (Yc := mX7_in) (frc := 0) (loc := 0) (as := [.int l2, .int (1 : Int32), .int (6 : Int32)]) dX7_note_14 rfl ml_RX7_119 st_yX7_in co_X7_in in_TableSetterModel pl_X7_in (Nat.le_of_ble_eq_true rfl) (Nat.le_of_ble_eq_true rfl) (Nat.le_of_ble_eq_true rfl) ?_
    refine Ev.gi (e_X7_in  h) (fun r4 m3 h => ?_)
    refine vJ.if_ne (tgt := 22) dX7_note_17 (by decide) (fun hc9 => ?_) (fun hc9 => ?_)
    · replace h := h.2 hc9
      refine vJ.aload_n dX7_note_22 rfl rfl ?_
      refine vJ.getR (ci := 7) (k := 6) (j := 166) dX7_note_23 sh_163 (Nat.le_of_ble_eq_true rfl) rfl inX7 (Nat.le_of_ble_eq_true rfl) rfl fl_RX7_16 ?_
      refine vJ.iload_n dX7_note_26 rfl rfl ?_
      obtain ⟨hb5, h⟩ := h
      refine vJ.iald dX7_note_27 sh_166 (Nat.le_of_ble_eq_true rfl) hb5 ?_
      refine vJ.topi (fun v6 ev6 => ?_)
      replace h := h v6 ev6
      refine vJ.istore_n (ls2 := [(0, .ref 163), (1, .int l1), (2, .int l2), (3, .int v6)]) dX7_note_28 rfl (Nat.le_of_ble_eq_true rfl) rfl ?_
      refine vJ.aload_n dX7_note_29 rfl rfl ?_
      refine vJ.getR (ci := 7) (k := 6) (j := 166) dX7_note_30 sh_163 (Nat.le_of_ble_eq_true rfl) rfl inX7 (Nat.le_of_ble_eq_true rfl) rfl fl_RX7_16 ?_
      refine vJ.iload_n dX7_note_33 rfl rfl ?_
      refine vJ.iload_n dX7_note_34 rfl rfl ?_
      obtain ⟨hb7, h⟩ := h
      refine vJ.iast dX7_note_35 sh_166 (Nat.le_of_ble_eq_true rfl) hb7 ?_
      refine vJ.topm (fun m8 em8 => ?_)
      replace h := h m8 em8
      refine vJ.iload_n dX7_note_36 rfl rfl ?_
      exact vJ.ireturn dX7_note_37 rfl rfl rfl ⟨rfl, _, rfl, h⟩
    · replace h := h.1 hc9
      refine vJ.iconst dX7_note_20 ci_m1 ?_
      exact vJ.ireturn dX7_note_21 rfl rfl rfl ⟨rfl, _, rfl, h⟩
def EI_X7_note (l1 : Int32) (l2 : Int32) (m : vM) (P : Int32 → vM → Prop) : Prop := Ev mX7_note 1 22 197 [.ref 163, .int l1, .int l2] 197 SH m (vPi P)
theorem f_X7_note {l1 : Int32} {l2 : Int32} {m : vM} {P : Int32 → vM → Prop} (h : J_X7_note_0 l1 l2 m P) : EI_X7_note l1 l2 m P := Ev.of pn_X7_note (Nat.le_of_ble_eq_true rfl) h
theorem e_X7_note {l1 : Int32} {l2 : Int32} {m : vM} {P : Int32 → vM → Prop}  (h : wp_X7_note l1 l2 m P) : EI_X7_note l1 l2 m P := f_X7_note (b_X7_note  h)
def J_X7_liesOn_0 (l1 : Int32) (l2 : Int32) (l3 : Int32) (m : vM) (P : Int32 → vM → Prop) : Prop := vJ mX7_liesOn 0 0 197 none 0 [(0, .ref 163), (1, .int l1), (2, .int l2), (3, .int l3)] [] 197 SH m (vPi P)
def wp_X7_liesOn (l1 : Int32) (l2 : Int32) (l3 : Int32) (m : vM) (P : Int32 → vM → Prop) : Prop :=
  vp_in l1 40 ∧
  (((m.1 172 (Int32.toNatClampNeg l1)) = (0 : Int32) →
    vp_in l1 40 ∧
    ((l2 < (m.1 168 (Int32.toNatClampNeg l1)) →
      P (0 : Int32) m) ∧
    (¬ l2 < (m.1 168 (Int32.toNatClampNeg l1)) →
      vp_in l1 40 ∧
      vp_in l1 40 ∧
      ((((m.1 168 (Int32.toNatClampNeg l1)) + (m.1 170 (Int32.toNatClampNeg l1))) ≤ l2 →
        P (0 : Int32) m) ∧
      (¬ ((m.1 168 (Int32.toNatClampNeg l1)) + (m.1 170 (Int32.toNatClampNeg l1))) ≤ l2 →
        vp_in l1 40 ∧
        ((l3 < (m.1 169 (Int32.toNatClampNeg l1)) →
          P (0 : Int32) m) ∧
        (¬ l3 < (m.1 169 (Int32.toNatClampNeg l1)) →
          vp_in l1 40 ∧
          vp_in l1 40 ∧
          ((((m.1 169 (Int32.toNatClampNeg l1)) + (m.1 171 (Int32.toNatClampNeg l1))) ≤ l3 →
            P (0 : Int32) m) ∧
          (¬ ((m.1 169 (Int32.toNatClampNeg l1)) + (m.1 171 (Int32.toNatClampNeg l1))) ≤ l3 →
            P (1 : Int32) m))))))))) ∧
  (¬ (m.1 172 (Int32.toNatClampNeg l1)) = (0 : Int32) →
    P (0 : Int32) m))
set_option maxRecDepth 20000 in
set_option maxHeartbeats 4000000 in
theorem b_X7_liesOn {l1 : Int32} {l2 : Int32} {l3 : Int32} {m : vM} {P : Int32 → vM → Prop}  (h : wp_X7_liesOn l1 l2 l3 m P) : J_X7_liesOn_0 l1 l2 l3 m P := by
  show vJ mX7_liesOn 0 0 197 none 0 [(0, .ref 163), (1, .int l1), (2, .int l2), (3, .int l3)] [] 197 SH m (vPi P)
  unfold wp_X7_liesOn at h
  refine vJ.aload_n dX7_liesOn_0 rfl rfl ?_
  refine vJ.getR (ci := 7) (k := 13) (j := 172) dX7_liesOn_1 sh_163 (Nat.le_of_ble_eq_true rfl) rfl inX7 (Nat.le_of_ble_eq_true rfl) rfl fl_RX7_34 ?_
  refine vJ.iload_n dX7_liesOn_4 rfl rfl ?_
  obtain ⟨hb1, h⟩ := h
  refine vJ.zald dX7_liesOn_5 sh_172 (Nat.le_of_ble_eq_true rfl) hb1 ?_
  refine vJ.if_ne (tgt := 67) dX7_liesOn_6 (by decide) (fun hc12 => ?_) (fun hc12 => ?_)
  · replace h := h.2 hc12
    refine vJ.iconst dX7_liesOn_67 ci_0 ?_
    exact vJ.ireturn dX7_liesOn_68 rfl (by decide) rfl ⟨rfl, _, rfl, h⟩
  · replace h := h.1 hc12
    refine vJ.iload_n dX7_liesOn_9 rfl rfl ?_
    refine vJ.aload_n dX7_liesOn_10 rfl rfl ?_
    refine vJ.getR (ci := 7) (k := 9) (j := 168) dX7_liesOn_11 sh_163 (Nat.le_of_ble_eq_true rfl) rfl inX7 (Nat.le_of_ble_eq_true rfl) rfl fl_RX7_22 ?_
    refine vJ.iload_n dX7_liesOn_14 rfl rfl ?_
    obtain ⟨hb2, h⟩ := h
    refine vJ.iald dX7_liesOn_15 sh_168 (Nat.le_of_ble_eq_true rfl) hb2 ?_
    refine vJ.icmp_lt (tgt := 67) dX7_liesOn_16 (by decide) (fun hc11 => ?_) (fun hc11 => ?_)
    · replace h := h.1 hc11
      refine vJ.iconst dX7_liesOn_67 ci_0 ?_
      exact vJ.ireturn dX7_liesOn_68 rfl (by decide) rfl ⟨rfl, _, rfl, h⟩
    · replace h := h.2 hc11
      refine vJ.iload_n dX7_liesOn_19 rfl rfl ?_
      refine vJ.aload_n dX7_liesOn_20 rfl rfl ?_
      refine vJ.getR (ci := 7) (k := 9) (j := 168) dX7_liesOn_21 sh_163 (Nat.le_of_ble_eq_true rfl) rfl inX7 (Nat.le_of_ble_eq_true rfl) rfl fl_RX7_22 ?_
      refine vJ.iload_n dX7_liesOn_24 rfl rfl ?_
      obtain ⟨hb3, h⟩ := h
      refine vJ.iald dX7_liesOn_25 sh_168 (Nat.le_of_ble_eq_true rfl) hb3 ?_
      refine vJ.aload_n dX7_liesOn_26 rfl rfl ?_
      refine vJ.getR (ci := 7) (k := 11) (j := 170) dX7_liesOn_27 sh_163 (Nat.le_of_ble_eq_true rfl) rfl inX7 (Nat.le_of_ble_eq_true rfl) rfl fl_RX7_28 ?_
      refine vJ.iload_n dX7_liesOn_30 rfl rfl ?_
      obtain ⟨hb4, h⟩ := h
      refine vJ.iald dX7_liesOn_31 sh_170 (Nat.le_of_ble_eq_true rfl) hb4 ?_
      refine vJ.iadd dX7_liesOn_32 ?_
      refine vJ.icmp_ge (tgt := 67) dX7_liesOn_33 (by decide) (fun hc10 => ?_) (fun hc10 => ?_)
      · replace h := h.1 hc10
        refine vJ.iconst dX7_liesOn_67 ci_0 ?_
        exact vJ.ireturn dX7_liesOn_68 rfl (by decide) rfl ⟨rfl, _, rfl, h⟩
      · replace h := h.2 hc10
        refine vJ.iload_n dX7_liesOn_36 rfl rfl ?_
        refine vJ.aload_n dX7_liesOn_37 rfl rfl ?_
        refine vJ.getR (ci := 7) (k := 10) (j := 169) dX7_liesOn_38 sh_163 (Nat.le_of_ble_eq_true rfl) rfl inX7 (Nat.le_of_ble_eq_true rfl) rfl fl_RX7_25 ?_
        refine vJ.iload_n dX7_liesOn_41 rfl rfl ?_
        obtain ⟨hb5, h⟩ := h
        refine vJ.iald dX7_liesOn_42 sh_169 (Nat.le_of_ble_eq_true rfl) hb5 ?_
        refine vJ.icmp_lt (tgt := 67) dX7_liesOn_43 (by decide) (fun hc9 => ?_) (fun hc9 => ?_)
        · replace h := h.1 hc9
          refine vJ.iconst dX7_liesOn_67 ci_0 ?_
          exact vJ.ireturn dX7_liesOn_68 rfl (by decide) rfl ⟨rfl, _, rfl, h⟩
        · replace h := h.2 hc9
          refine vJ.iload_n dX7_liesOn_46 rfl rfl ?_
          refine vJ.aload_n dX7_liesOn_47 rfl rfl ?_
          refine vJ.getR (ci := 7) (k := 10) (j := 169) dX7_liesOn_48 sh_163 (Nat.le_of_ble_eq_true rfl) rfl inX7 (Nat.le_of_ble_eq_true rfl) rfl fl_RX7_25 ?_
          refine vJ.iload_n dX7_liesOn_51 rfl rfl ?_
          obtain ⟨hb6, h⟩ := h
          refine vJ.iald dX7_liesOn_52 sh_169 (Nat.le_of_ble_eq_true rfl) hb6 ?_
          refine vJ.aload_n dX7_liesOn_53 rfl rfl ?_
          refine vJ.getR (ci := 7) (k := 12) (j := 171) dX7_liesOn_54 sh_163 (Nat.le_of_ble_eq_true rfl) rfl inX7 (Nat.le_of_ble_eq_true rfl) rfl fl_RX7_31 ?_
          refine vJ.iload_n dX7_liesOn_57 rfl rfl ?_
          obtain ⟨hb7, h⟩ := h
          refine vJ.iald dX7_liesOn_58 sh_171 (Nat.le_of_ble_eq_true rfl) hb7 ?_
          refine vJ.iadd dX7_liesOn_59 ?_
          refine vJ.icmp_ge (tgt := 67) dX7_liesOn_60 (by decide) (fun hc8 => ?_) (fun hc8 => ?_)
          · replace h := h.1 hc8
            refine vJ.iconst dX7_liesOn_67 ci_0 ?_
            exact vJ.ireturn dX7_liesOn_68 rfl (by decide) rfl ⟨rfl, _, rfl, h⟩
          · replace h := h.2 hc8
            refine vJ.iconst dX7_liesOn_63 ci_1 ?_
            refine vJ.goto (tgt := 68) dX7_liesOn_64 (by decide) ?_
            exact vJ.ireturn dX7_liesOn_68 rfl (by decide) rfl ⟨rfl, _, rfl, h⟩
def EI_X7_liesOn (l1 : Int32) (l2 : Int32) (l3 : Int32) (m : vM) (P : Int32 → vM → Prop) : Prop := Ev mX7_liesOn 0 0 197 [.ref 163, .int l1, .int l2, .int l3] 197 SH m (vPi P)
theorem f_X7_liesOn {l1 : Int32} {l2 : Int32} {l3 : Int32} {m : vM} {P : Int32 → vM → Prop} (h : J_X7_liesOn_0 l1 l2 l3 m P) : EI_X7_liesOn l1 l2 l3 m P := Ev.of pn_X7_liesOn (Nat.le_of_ble_eq_true rfl) h
theorem e_X7_liesOn {l1 : Int32} {l2 : Int32} {l3 : Int32} {m : vM} {P : Int32 → vM → Prop}  (h : wp_X7_liesOn l1 l2 l3 m P) : EI_X7_liesOn l1 l2 l3 m P := f_X7_liesOn (b_X7_liesOn  h)
def J_X7_cellOn_0 (l1 : Int32) (l2 : Int32) (m : vM) (P : Int32 → vM → Prop) : Prop := vJ mX7_cellOn 1 23 197 none 0 [(0, .ref 163), (1, .int l1), (2, .int l2)] [] 197 SH m (vPi P)
def J_X7_cellOn_2 (l1 : Int32) (l2 : Int32) (l3 : Int32) (m : vM) (P : Int32 → vM → Prop) : Prop := vJ mX7_cellOn 1 23 197 none 2 [(0, .ref 163), (1, .int l1), (2, .int l2), (3, .int l3)] [] 197 SH m (vPi P)
def wp_X7_cellOn_0 (l1 : Int32) (l2 : Int32) (m : vM) (P : Int32 → vM → Prop) : Prop :=
  J_X7_cellOn_2 l1 l2 (0 : Int32) m P
set_option maxRecDepth 20000 in
set_option maxHeartbeats 4000000 in
theorem b_X7_cellOn_0 {l1 : Int32} {l2 : Int32} {m : vM} {P : Int32 → vM → Prop}  (h : wp_X7_cellOn_0 l1 l2 m P) : J_X7_cellOn_0 l1 l2 m P := by
  show vJ mX7_cellOn 1 23 197 none 0 [(0, .ref 163), (1, .int l1), (2, .int l2)] [] 197 SH m (vPi P)
  unfold wp_X7_cellOn_0 at h
  refine vJ.iconst dX7_cellOn_0 ci_0 ?_
  refine vJ.istore_n (ls2 := [(0, .ref 163), (1, .int l1), (2, .int l2), (3, .int (0 : Int32))]) dX7_cellOn_1 rfl (Nat.le_of_ble_eq_true rfl) rfl ?_
  exact h
def EI_X7_cellOn (l1 : Int32) (l2 : Int32) (m : vM) (P : Int32 → vM → Prop) : Prop := Ev mX7_cellOn 1 23 197 [.ref 163, .int l1, .int l2] 197 SH m (vPi P)
theorem f_X7_cellOn {l1 : Int32} {l2 : Int32} {m : vM} {P : Int32 → vM → Prop} (h : J_X7_cellOn_0 l1 l2 m P) : EI_X7_cellOn l1 l2 m P := Ev.of pn_X7_cellOn (Nat.le_of_ble_eq_true rfl) h
def wp_X7_cellOn_2 (l1 : Int32) (l2 : Int32) (l3 : Int32) (m : vM) (P : Int32 → vM → Prop) : Prop :=
  (((m.1 163 7) ≤ l3 →
    P (-9 : Int32) m) ∧
  (¬ (m.1 163 7) ≤ l3 →
    wp_X7_liesOn l3 l1 l2 m (fun r2 m1 =>
      ((r2 = (0 : Int32) →
        J_X7_cellOn_2 l1 l2 (l3 + (1 : Int32)) m1 P) ∧
      (¬ r2 = (0 : Int32) →
        P l3 m1)))))
set_option maxRecDepth 20000 in
set_option maxHeartbeats 4000000 in
theorem b_X7_cellOn_2 {l1 : Int32} {l2 : Int32} {l3 : Int32} {m : vM} {P : Int32 → vM → Prop}  (h : wp_X7_cellOn_2 l1 l2 l3 m P) : J_X7_cellOn_2 l1 l2 l3 m P := by
  show vJ mX7_cellOn 1 23 197 none 2 [(0, .ref 163), (1, .int l1), (2, .int l2), (3, .int l3)] [] 197 SH m (vPi P)
  unfold wp_X7_cellOn_2 at h
  refine vJ.iload_n dX7_cellOn_2 rfl rfl ?_
  refine vJ.aload_n dX7_cellOn_3 rfl rfl ?_
  refine vJ.getI (ci := 7) (k := 7) dX7_cellOn_4 sh_163 (Nat.le_of_ble_eq_true rfl) rfl inX7 (Nat.le_of_ble_eq_true rfl) rfl fl_RX7_132 ?_
  refine vJ.icmp_ge (tgt := 28) dX7_cellOn_7 (by decide) (fun hc4 => ?_) (fun hc4 => ?_)
  · replace h := h.1 hc4
    refine vJ.bipush dX7_cellOn_28 cb_m9 ?_
    exact vJ.ireturn dX7_cellOn_30 rfl rfl rfl ⟨rfl, _, rfl, h⟩
  · replace h := h.2 hc4
    refine vJ.aload_n dX7_cellOn_10 rfl rfl ?_
    refine vJ.iload_n dX7_cellOn_11 rfl rfl ?_
    refine vJ.iload_n dX7_cellOn_12 rfl rfl ?_
    refine vJ.iload_n dX7_cellOn_13 rfl rfl ?_
    refine vJ.callV (ci := 7) (Yc := mX7_liesOn) (frc := 0) (loc := 0) (as := [.int l3, .int l1, .int l2]) dX7_cellOn_14 rfl sh_163 (Nat.le_of_ble_eq_true rfl) rfl ml_RX7_145 im_yX7_liesOn se_yX7_liesOn co_X7_liesOn in_TableSetterModel pl_X7_liesOn (Nat.le_of_ble_eq_true rfl) (Nat.le_of_ble_eq_true rfl) (Nat.le_of_ble_eq_true rfl) ?_
    refine Ev.gi (e_X7_liesOn  h) (fun r2 m1 h => ?_)
    refine vJ.if_eq (tgt := 22) dX7_cellOn_17 (by decide) (fun hc3 => ?_) (fun hc3 => ?_)
    · replace h := h.1 hc3
      refine vJ.iinc (v := l3 + (1 : Int32)) (ls2 := [(0, .ref 163), (1, .int l1), (2, .int l2), (3, .int (l3 + (1 : Int32)))]) dX7_cellOn_22 rfl (congrArg (l3 + ·) ci_1) (Nat.le_of_ble_eq_true rfl) rfl ?_
      refine vJ.goto (tgt := 2) dX7_cellOn_25 (by decide) ?_
      exact h
    · replace h := h.2 hc3
      refine vJ.iload_n dX7_cellOn_20 rfl rfl ?_
      exact vJ.ireturn dX7_cellOn_21 rfl rfl rfl ⟨rfl, _, rfl, h⟩
def J_X7_cell_0 (l1 : Int32) (l2 : Int32) (l3 : Int32) (l4 : Int32) (l5 : Int32) (m : vM) (P : Int32 → vM → Prop) : Prop := vJ mX7_cell 2 46 197 none 0 [(0, .ref 163), (1, .int l1), (2, .int l2), (3, .int l3), (4, .int l4), (5, .int l5)] [] 197 SH m (vPi P)
def J_X7_cell_86 (l1 : Int32) (l2 : Int32) (l3 : Int32) (l4 : Int32) (l5 : Int32) (l6 : Int32) (l7 : Int32) (m : vM) (P : Int32 → vM → Prop) : Prop := vJ mX7_cell 2 46 197 none 86 [(0, .ref 163), (1, .int l1), (2, .int l2), (3, .int l3), (4, .int l4), (5, .int l5), (6, .int l6), (7, .int l7)] [] 197 SH m (vPi P)
def wp_X7_cell_0 (l1 : Int32) (l2 : Int32) (l3 : Int32) (l4 : Int32) (l5 : Int32) (m : vM) (P : Int32 → vM → Prop) : Prop :=
  wp_X7_in l1 (0 : Int32) (3 : Int32) m (fun r2 m1 =>
    ((r2 = (0 : Int32) →
      P (-1 : Int32) m1) ∧
    (¬ r2 = (0 : Int32) →
      wp_X7_isRow l2 m1 (fun r4 m3 =>
        ((r4 = (0 : Int32) →
          P (-1 : Int32) m3) ∧
        (¬ r4 = (0 : Int32) →
          wp_X7_isColumn l3 m3 (fun r6 m5 =>
            ((r6 = (0 : Int32) →
              P (-1 : Int32) m5) ∧
            (¬ r6 = (0 : Int32) →
              ((l4 < (1 : Int32) →
                P (-1 : Int32) m5) ∧
              (¬ l4 < (1 : Int32) →
                (((1 : Int32) ≤ l5 →
                  (((m5.1 163 7) = (40 : Int32) →
                    P (-2 : Int32) m5) ∧
                  (¬ (m5.1 163 7) = (40 : Int32) →
                    ((((m5.1 163 2) - l2) < l4 →
                      wp_X7_meets (2 : Int32) m5 (fun r8 m7 =>
                        P r8 m7)) ∧
                    (¬ ((m5.1 163 2) - l2) < l4 →
                      ((l5 ≤ ((m5.1 163 3) - l3) →
                        J_X7_cell_86 l1 l2 l3 l4 l5 (-9 : Int32) l2 m5 P) ∧
                      (¬ l5 ≤ ((m5.1 163 3) - l3) →
                        wp_X7_meets (2 : Int32) m5 (fun r10 m9 =>
                          P r10 m9)))))))) ∧
                (¬ (1 : Int32) ≤ l5 →
                  P (-1 : Int32) m5)))))))))))))
set_option maxRecDepth 20000 in
set_option maxHeartbeats 4000000 in
theorem b_X7_cell_0 {l1 : Int32} {l2 : Int32} {l3 : Int32} {l4 : Int32} {l5 : Int32} {m : vM} {P : Int32 → vM → Prop}  (h : wp_X7_cell_0 l1 l2 l3 l4 l5 m P) : J_X7_cell_0 l1 l2 l3 l4 l5 m P := by
  show vJ mX7_cell 2 46 197 none 0 [(0, .ref 163), (1, .int l1), (2, .int l2), (3, .int l3), (4, .int l4), (5, .int l5)] [] 197 SH m (vPi P)
  unfold wp_X7_cell_0 at h
  refine vJ.iload_n dX7_cell_0 rfl rfl ?_
  refine vJ.iconst dX7_cell_1 ci_0 ?_
  refine vJ.iconst dX7_cell_2 ci_3 ?_
  refine vJ.callS (Yc := mX7_in) (frc := 0) (loc := 0) (as := [.int l1, .int (0 : Int32), .int (3 : Int32)]) dX7_cell_3 rfl ml_RX7_119 st_yX7_in co_X7_in in_TableSetterModel pl_X7_in (Nat.le_of_ble_eq_true rfl) (Nat.le_of_ble_eq_true rfl) (Nat.le_of_ble_eq_true rfl) ?_
  refine Ev.gi (e_X7_in  h) (fun r2 m1 h => ?_)
  refine vJ.if_eq (tgt := 37) dX7_cell_6 (by decide) (fun hc18 => ?_) (fun hc18 => ?_)
  · replace h := h.1 hc18
    refine vJ.iconst dX7_cell_37 ci_m1 ?_
    exact vJ.ireturn dX7_cell_38 rfl rfl rfl ⟨rfl, _, rfl, h⟩
  · replace h := h.2 hc18
    refine vJ.aload_n dX7_cell_9 rfl rfl ?_
    refine vJ.iload_n dX7_cell_10 rfl rfl ?_
    refine vJ.callV (ci := 7) (Yc := mX7_isRow) (frc := 1) (loc := 22) (as := [.int l2]) dX7_cell_11 rfl sh_163 (Nat.le_of_ble_eq_true rfl) rfl ml_RX7_148 im_yX7_isRow se_yX7_isRow co_X7_isRow in_TableSetterModel pl_X7_isRow (Nat.le_of_ble_eq_true rfl) (Nat.le_of_ble_eq_true rfl) (Nat.le_of_ble_eq_true rfl) ?_
    refine Ev.gi (e_X7_isRow  h) (fun r4 m3 h => ?_)
    refine vJ.if_eq (tgt := 37) dX7_cell_14 (by decide) (fun hc17 => ?_) (fun hc17 => ?_)
    · replace h := h.1 hc17
      refine vJ.iconst dX7_cell_37 ci_m1 ?_
      exact vJ.ireturn dX7_cell_38 rfl rfl rfl ⟨rfl, _, rfl, h⟩
    · replace h := h.2 hc17
      refine vJ.aload_n dX7_cell_17 rfl rfl ?_
      refine vJ.iload_n dX7_cell_18 rfl rfl ?_
      refine vJ.callV (ci := 7) (Yc := mX7_isColumn) (frc := 1) (loc := 22) (as := [.int l3]) dX7_cell_19 rfl sh_163 (Nat.le_of_ble_eq_true rfl) rfl ml_RX7_141 im_yX7_isColumn se_yX7_isColumn co_X7_isColumn in_TableSetterModel pl_X7_isColumn (Nat.le_of_ble_eq_true rfl) (Nat.le_of_ble_eq_true rfl) (Nat.le_of_ble_eq_true rfl) ?_
      refine Ev.gi (e_X7_isColumn  h) (fun r6 m5 h => ?_)
      refine vJ.if_eq (tgt := 37) dX7_cell_22 (by decide) (fun hc16 => ?_) (fun hc16 => ?_)
      · replace h := h.1 hc16
        refine vJ.iconst dX7_cell_37 ci_m1 ?_
        exact vJ.ireturn dX7_cell_38 rfl rfl rfl ⟨rfl, _, rfl, h⟩
      · replace h := h.2 hc16
        refine vJ.iload dX7_cell_25 rfl ?_
        refine vJ.iconst dX7_cell_27 ci_1 ?_
        refine vJ.icmp_lt (tgt := 37) dX7_cell_28 (by decide) (fun hc15 => ?_) (fun hc15 => ?_)
        · replace h := h.1 hc15
          refine vJ.iconst dX7_cell_37 ci_m1 ?_
          exact vJ.ireturn dX7_cell_38 rfl rfl rfl ⟨rfl, _, rfl, h⟩
        · replace h := h.2 hc15
          refine vJ.iload dX7_cell_31 rfl ?_
          refine vJ.iconst dX7_cell_33 ci_1 ?_
          refine vJ.icmp_ge (tgt := 39) dX7_cell_34 (by decide) (fun hc14 => ?_) (fun hc14 => ?_)
          · replace h := h.1 hc14
            refine vJ.aload_n dX7_cell_39 rfl rfl ?_
            refine vJ.getI (ci := 7) (k := 7) dX7_cell_40 sh_163 (Nat.le_of_ble_eq_true rfl) rfl inX7 (Nat.le_of_ble_eq_true rfl) rfl fl_RX7_132 ?_
            refine vJ.bipush dX7_cell_43 cb_40 ?_
            refine vJ.icmp_ne (tgt := 51) dX7_cell_45 (by decide) (fun hc13 => ?_) (fun hc13 => ?_)
            · replace h := h.2 hc13
              refine vJ.iload dX7_cell_51 rfl ?_
              refine vJ.aload_n dX7_cell_53 rfl rfl ?_
              refine vJ.getI (ci := 7) (k := 2) dX7_cell_54 sh_163 (Nat.le_of_ble_eq_true rfl) rfl inX7 (Nat.le_of_ble_eq_true rfl) rfl fl_RX7_123 ?_
              refine vJ.iload_n dX7_cell_57 rfl rfl ?_
              refine vJ.isub dX7_cell_58 ?_
              refine vJ.icmp_gt (tgt := 73) dX7_cell_59 (by decide) (fun hc12 => ?_) (fun hc12 => ?_)
              · replace h := h.1 hc12
                refine vJ.aload_n dX7_cell_73 rfl rfl ?_
                refine vJ.iconst dX7_cell_74 ci_2 ?_
                refine vJ.callV (ci := 7) (Yc := mX7_meets) (frc := 0) (loc := 0) (as := [.int (2 : Int32)]) dX7_cell_75 rfl sh_163 (Nat.le_of_ble_eq_true rfl) rfl ml_RX7_151 im_yX7_meets se_yX7_meets co_X7_meets in_TableSetterModel pl_X7_meets (Nat.le_of_ble_eq_true rfl) (Nat.le_of_ble_eq_true rfl) (Nat.le_of_ble_eq_true rfl) ?_
                refine Ev.gi (e_X7_meets  h) (fun r8 m7 h => ?_)
                exact vJ.ireturn dX7_cell_78 rfl rfl rfl ⟨rfl, _, rfl, h⟩
              · replace h := h.2 hc12
                refine vJ.iload dX7_cell_62 rfl ?_
                refine vJ.aload_n dX7_cell_64 rfl rfl ?_
                refine vJ.getI (ci := 7) (k := 3) dX7_cell_65 sh_163 (Nat.le_of_ble_eq_true rfl) rfl inX7 (Nat.le_of_ble_eq_true rfl) rfl fl_RX7_126 ?_
                refine vJ.iload_n dX7_cell_68 rfl rfl ?_
                refine vJ.isub dX7_cell_69 ?_
                refine vJ.icmp_le (tgt := 79) dX7_cell_70 (by decide) (fun hc11 => ?_) (fun hc11 => ?_)
                · replace h := h.1 hc11
                  refine vJ.bipush dX7_cell_79 cb_m9 ?_
                  refine vJ.istore (ls2 := [(0, .ref 163), (1, .int l1), (2, .int l2), (3, .int l3), (4, .int l4), (5, .int l5), (6, .int (-9 : Int32))]) dX7_cell_81 (Nat.le_of_ble_eq_true rfl) rfl ?_
                  refine vJ.iload_n dX7_cell_83 rfl rfl ?_
                  refine vJ.istore (ls2 := [(0, .ref 163), (1, .int l1), (2, .int l2), (3, .int l3), (4, .int l4), (5, .int l5), (6, .int (-9 : Int32)), (7, .int l2)]) dX7_cell_84 (Nat.le_of_ble_eq_true rfl) rfl ?_
                  exact h
                · replace h := h.2 hc11
                  refine vJ.aload_n dX7_cell_73 rfl rfl ?_
                  refine vJ.iconst dX7_cell_74 ci_2 ?_
                  refine vJ.callV (ci := 7) (Yc := mX7_meets) (frc := 0) (loc := 0) (as := [.int (2 : Int32)]) dX7_cell_75 rfl sh_163 (Nat.le_of_ble_eq_true rfl) rfl ml_RX7_151 im_yX7_meets se_yX7_meets co_X7_meets in_TableSetterModel pl_X7_meets (Nat.le_of_ble_eq_true rfl) (Nat.le_of_ble_eq_true rfl) (Nat.le_of_ble_eq_true rfl) ?_
                  refine Ev.gi (e_X7_meets  h) (fun r10 m9 h => ?_)
                  exact vJ.ireturn dX7_cell_78 rfl rfl rfl ⟨rfl, _, rfl, h⟩
            · replace h := h.1 hc13
              refine vJ.bipush dX7_cell_48 cb_m2 ?_
              exact vJ.ireturn dX7_cell_50 rfl rfl rfl ⟨rfl, _, rfl, h⟩
          · replace h := h.2 hc14
            refine vJ.iconst dX7_cell_37 ci_m1 ?_
            exact vJ.ireturn dX7_cell_38 rfl rfl rfl ⟨rfl, _, rfl, h⟩
def EI_X7_cell (l1 : Int32) (l2 : Int32) (l3 : Int32) (l4 : Int32) (l5 : Int32) (m : vM) (P : Int32 → vM → Prop) : Prop := Ev mX7_cell 2 46 197 [.ref 163, .int l1, .int l2, .int l3, .int l4, .int l5] 197 SH m (vPi P)
theorem f_X7_cell {l1 : Int32} {l2 : Int32} {l3 : Int32} {l4 : Int32} {l5 : Int32} {m : vM} {P : Int32 → vM → Prop} (h : J_X7_cell_0 l1 l2 l3 l4 l5 m P) : EI_X7_cell l1 l2 l3 l4 l5 m P := Ev.of pn_X7_cell (Nat.le_of_ble_eq_true rfl) h
def J_X7_cell_98 (l1 : Int32) (l2 : Int32) (l3 : Int32) (l4 : Int32) (l5 : Int32) (l6 : Int32) (l7 : Int32) (l8 : Int32) (m : vM) (P : Int32 → vM → Prop) : Prop := vJ mX7_cell 2 46 197 none 98 [(0, .ref 163), (1, .int l1), (2, .int l2), (3, .int l3), (4, .int l4), (5, .int l5), (6, .int l6), (7, .int l7), (8, .int l8)] [] 197 SH m (vPi P)
def wp_X7_cell_86 (l1 : Int32) (l2 : Int32) (l3 : Int32) (l4 : Int32) (l5 : Int32) (l6 : Int32) (l7 : Int32) (m : vM) (P : Int32 → vM → Prop) : Prop :=
  (((l2 + l4) ≤ l7 →
    ((l6 = (-9 : Int32) →
      ∀ v1 : Int32, v1 = (m.1 163 7) →
      vp_in v1 40 ∧
      ∀ m3 : vM, m3 = upI m 167 (Int32.toNatClampNeg v1) l1 →
      vp_in v1 40 ∧
      ∀ m5 : vM, m5 = upI m3 168 (Int32.toNatClampNeg v1) l2 →
      vp_in v1 40 ∧
      ∀ m7 : vM, m7 = upI m5 169 (Int32.toNatClampNeg v1) l3 →
      vp_in v1 40 ∧
      ∀ m9 : vM, m9 = upI m7 170 (Int32.toNatClampNeg v1) l4 →
      vp_in v1 40 ∧
      ∀ m11 : vM, m11 = upI m9 171 (Int32.toNatClampNeg v1) l5 →
      vp_in v1 40 ∧
      ∀ m13 : vM, m13 = upI m11 172 (Int32.toNatClampNeg v1) (0 : Int32) →
      vp_in v1 40 ∧
      ∀ m15 : vM, m15 = upI m13 173 (Int32.toNatClampNeg v1) (0 : Int32) →
      vp_in v1 40 ∧
      ∀ m17 : vM, m17 = upI m15 175 (Int32.toNatClampNeg v1) (0 : Int32) →
      vp_in v1 40 ∧
      ∀ m19 : vM, m19 = upI m17 176 (Int32.toNatClampNeg v1) (1 : Int32) →
      ∀ m20 : vM, m20 = upI m19 163 7 ((m19.1 163 7) + (1 : Int32)) →
      P v1 m20) ∧
    (¬ l6 = (-9 : Int32) →
      ∀ m21 : vM, m21 = upI m 163 18 l6 →
      wp_X7_meets (6 : Int32) m21 (fun r23 m22 =>
        P r23 m22)))) ∧
  (¬ (l2 + l4) ≤ l7 →
    J_X7_cell_98 l1 l2 l3 l4 l5 l6 l7 l3 m P))
set_option maxRecDepth 20000 in
set_option maxHeartbeats 4000000 in
theorem b_X7_cell_86 {l1 : Int32} {l2 : Int32} {l3 : Int32} {l4 : Int32} {l5 : Int32} {l6 : Int32} {l7 : Int32} {m : vM} {P : Int32 → vM → Prop}  (h : wp_X7_cell_86 l1 l2 l3 l4 l5 l6 l7 m P) : J_X7_cell_86 l1 l2 l3 l4 l5 l6 l7 m P := by
  show vJ mX7_cell 2 46 197 none 86 [(0, .ref 163), (1, .int l1), (2, .int l2), (3, .int l3), (4, .int l4), (5, .int l5), (6, .int l6), (7, .int l7)] [] 197 SH m (vPi P)
  unfold wp_X7_cell_86 at h
  refine vJ.iload dX7_cell_86 rfl ?_
  refine vJ.iload_n dX7_cell_88 rfl rfl ?_
  refine vJ.iload dX7_cell_89 rfl ?_
  refine vJ.iadd dX7_cell_91 ?_
  refine vJ.icmp_ge (tgt := 159) dX7_cell_92 (by decide) (fun hc25 => ?_) (fun hc25 => ?_)
  · replace h := h.1 hc25
    refine vJ.iload dX7_cell_159 rfl ?_
    refine vJ.bipush dX7_cell_161 cb_m9 ?_
    refine vJ.icmp_eq (tgt := 179) dX7_cell_163 (by decide) (fun hc24 => ?_) (fun hc24 => ?_)
    · replace h := h.1 hc24
      refine vJ.aload_n dX7_cell_179 rfl rfl ?_
      refine vJ.getI (ci := 7) (k := 7) dX7_cell_180 sh_163 (Nat.le_of_ble_eq_true rfl) rfl inX7 (Nat.le_of_ble_eq_true rfl) rfl fl_RX7_132 ?_
      refine vJ.topi (fun v1 ev1 => ?_)
      replace h := h v1 ev1
      refine vJ.istore (ls2 := [(0, .ref 163), (1, .int l1), (2, .int l2), (3, .int l3), (4, .int l4), (5, .int l5), (6, .int l6), (7, .int v1)]) dX7_cell_183 (Nat.le_of_ble_eq_true rfl) rfl ?_
      refine vJ.aload_n dX7_cell_185 rfl rfl ?_
      refine vJ.getR (ci := 7) (k := 8) (j := 167) dX7_cell_186 sh_163 (Nat.le_of_ble_eq_true rfl) rfl inX7 (Nat.le_of_ble_eq_true rfl) rfl fl_RX7_19 ?_
      refine vJ.iload dX7_cell_189 rfl ?_
      refine vJ.iload_n dX7_cell_191 rfl rfl ?_
      obtain ⟨hb2, h⟩ := h
      refine vJ.iast dX7_cell_192 sh_167 (Nat.le_of_ble_eq_true rfl) hb2 ?_
      refine vJ.topm (fun m3 em3 => ?_)
      replace h := h m3 em3
      refine vJ.aload_n dX7_cell_193 rfl rfl ?_
      refine vJ.getR (ci := 7) (k := 9) (j := 168) dX7_cell_194 sh_163 (Nat.le_of_ble_eq_true rfl) rfl inX7 (Nat.le_of_ble_eq_true rfl) rfl fl_RX7_22 ?_
      refine vJ.iload dX7_cell_197 rfl ?_
      refine vJ.iload_n dX7_cell_199 rfl rfl ?_
      obtain ⟨hb4, h⟩ := h
      refine vJ.iast dX7_cell_200 sh_168 (Nat.le_of_ble_eq_true rfl) hb4 ?_
      refine vJ.topm (fun m5 em5 => ?_)
      replace h := h m5 em5
      refine vJ.aload_n dX7_cell_201 rfl rfl ?_
      refine vJ.getR (ci := 7) (k := 10) (j := 169) dX7_cell_202 sh_163 (Nat.le_of_ble_eq_true rfl) rfl inX7 (Nat.le_of_ble_eq_true rfl) rfl fl_RX7_25 ?_
      refine vJ.iload dX7_cell_205 rfl ?_
      refine vJ.iload_n dX7_cell_207 rfl rfl ?_
      obtain ⟨hb6, h⟩ := h
      refine vJ.iast dX7_cell_208 sh_169 (Nat.le_of_ble_eq_true rfl) hb6 ?_
      refine vJ.topm (fun m7 em7 => ?_)
      replace h := h m7 em7
      refine vJ.aload_n dX7_cell_209 rfl rfl ?_
      refine vJ.getR (ci := 7) (k := 11) (j := 170) dX7_cell_210 sh_163 (Nat.le_of_ble_eq_true rfl) rfl inX7 (Nat.le_of_ble_eq_true rfl) rfl fl_RX7_28 ?_
      refine vJ.iload dX7_cell_213 rfl ?_
      refine vJ.iload dX7_cell_215 rfl ?_
      obtain ⟨hb8, h⟩ := h
      refine vJ.iast dX7_cell_217 sh_170 (Nat.le_of_ble_eq_true rfl) hb8 ?_
      refine vJ.topm (fun m9 em9 => ?_)
      replace h := h m9 em9
      refine vJ.aload_n dX7_cell_218 rfl rfl ?_
      refine vJ.getR (ci := 7) (k := 12) (j := 171) dX7_cell_219 sh_163 (Nat.le_of_ble_eq_true rfl) rfl inX7 (Nat.le_of_ble_eq_true rfl) rfl fl_RX7_31 ?_
      refine vJ.iload dX7_cell_222 rfl ?_
      refine vJ.iload dX7_cell_224 rfl ?_
      obtain ⟨hb10, h⟩ := h
      refine vJ.iast dX7_cell_226 sh_171 (Nat.le_of_ble_eq_true rfl) hb10 ?_
      refine vJ.topm (fun m11 em11 => ?_)
      replace h := h m11 em11
      refine vJ.aload_n dX7_cell_227 rfl rfl ?_
      refine vJ.getR (ci := 7) (k := 13) (j := 172) dX7_cell_228 sh_163 (Nat.le_of_ble_eq_true rfl) rfl inX7 (Nat.le_of_ble_eq_true rfl) rfl fl_RX7_34 ?_
      refine vJ.iload dX7_cell_231 rfl ?_
      refine vJ.iconst dX7_cell_233 ci_0 ?_
      obtain ⟨hb12, h⟩ := h
      refine vJ.zast dX7_cell_234 sh_172 (Nat.le_of_ble_eq_true rfl) hb12 (by decide) ?_
      refine vJ.topm (fun m13 em13 => ?_)
      replace h := h m13 em13
      refine vJ.aload_n dX7_cell_235 rfl rfl ?_
      refine vJ.getR (ci := 7) (k := 14) (j := 173) dX7_cell_236 sh_163 (Nat.le_of_ble_eq_true rfl) rfl inX7 (Nat.le_of_ble_eq_true rfl) rfl fl_RX7_38 ?_
      refine vJ.iload dX7_cell_239 rfl ?_
      refine vJ.iconst dX7_cell_241 ci_0 ?_
      obtain ⟨hb14, h⟩ := h
      refine vJ.iast dX7_cell_242 sh_173 (Nat.le_of_ble_eq_true rfl) hb14 ?_
      refine vJ.topm (fun m15 em15 => ?_)
      replace h := h m15 em15
      refine vJ.aload_n dX7_cell_243 rfl rfl ?_
      refine vJ.getR (ci := 7) (k := 16) (j := 175) dX7_cell_244 sh_163 (Nat.le_of_ble_eq_true rfl) rfl inX7 (Nat.le_of_ble_eq_true rfl) rfl fl_RX7_44 ?_
      refine vJ.iload dX7_cell_247 rfl ?_
      refine vJ.iconst dX7_cell_249 ci_0 ?_
      obtain ⟨hb16, h⟩ := h
      refine vJ.iast dX7_cell_250 sh_175 (Nat.le_of_ble_eq_true rfl) hb16 ?_
      refine vJ.topm (fun m17 em17 => ?_)
      replace h := h m17 em17
      refine vJ.aload_n dX7_cell_251 rfl rfl ?_
      refine vJ.getR (ci := 7) (k := 17) (j := 176) dX7_cell_252 sh_163 (Nat.le_of_ble_eq_true rfl) rfl inX7 (Nat.le_of_ble_eq_true rfl) rfl fl_RX7_47 ?_
      refine vJ.iload dX7_cell_255 rfl ?_
      refine vJ.iconst dX7_cell_257 ci_1 ?_
      obtain ⟨hb18, h⟩ := h
      refine vJ.iast dX7_cell_258 sh_176 (Nat.le_of_ble_eq_true rfl) hb18 ?_
      refine vJ.topm (fun m19 em19 => ?_)
      replace h := h m19 em19
      refine vJ.aload_n dX7_cell_259 rfl rfl ?_
      refine vJ.dup dX7_cell_260 rfl ?_
      refine vJ.getI (ci := 7) (k := 7) dX7_cell_261 sh_163 (Nat.le_of_ble_eq_true rfl) rfl inX7 (Nat.le_of_ble_eq_true rfl) rfl fl_RX7_132 ?_
      refine vJ.iconst dX7_cell_264 ci_1 ?_
      refine vJ.iadd dX7_cell_265 ?_
      refine vJ.putI (ci := 7) (k := 7) dX7_cell_266 sh_163 (Nat.le_of_ble_eq_true rfl) rfl inX7 tyX7 tyX7_ok nmX7 (Nat.le_of_ble_eq_true rfl) rfl rfl fl_RX7_132 rfl rfl ?_
      refine vJ.topm (fun m20 em20 => ?_)
      replace h := h m20 em20
      refine vJ.iload dX7_cell_269 rfl ?_
      exact vJ.ireturn dX7_cell_271 rfl rfl rfl ⟨rfl, _, rfl, h⟩
    · replace h := h.2 hc24
      refine vJ.aload_n dX7_cell_166 rfl rfl ?_
      refine vJ.iload dX7_cell_167 rfl ?_
      refine vJ.putI (ci := 7) (k := 18) dX7_cell_169 sh_163 (Nat.le_of_ble_eq_true rfl) rfl inX7 tyX7 tyX7_ok nmX7 (Nat.le_of_ble_eq_true rfl) rfl rfl fl_RX7_135 rfl rfl ?_
      refine vJ.topm (fun m21 em21 => ?_)
      replace h := h m21 em21
      refine vJ.aload_n dX7_cell_172 rfl rfl ?_
      refine vJ.bipush dX7_cell_173 cb_6 ?_
      refine vJ.callV (ci := 7) (Yc := mX7_meets) (frc := 0) (loc := 0) (as := [.int (6 : Int32)]) dX7_cell_175 rfl sh_163 (Nat.le_of_ble_eq_true rfl) rfl ml_RX7_151 im_yX7_meets se_yX7_meets co_X7_meets in_TableSetterModel pl_X7_meets (Nat.le_of_ble_eq_true rfl) (Nat.le_of_ble_eq_true rfl) (Nat.le_of_ble_eq_true rfl) ?_
      refine Ev.gi (e_X7_meets  h) (fun r23 m22 h => ?_)
      exact vJ.ireturn dX7_cell_178 rfl rfl rfl ⟨rfl, _, rfl, h⟩
  · replace h := h.2 hc25
    refine vJ.iload_n dX7_cell_95 rfl rfl ?_
    refine vJ.istore (ls2 := [(0, .ref 163), (1, .int l1), (2, .int l2), (3, .int l3), (4, .int l4), (5, .int l5), (6, .int l6), (7, .int l7), (8, .int l3)]) dX7_cell_96 (Nat.le_of_ble_eq_true rfl) rfl ?_
    exact h
def wp_X7_cell_98 (l1 : Int32) (l2 : Int32) (l3 : Int32) (l4 : Int32) (l5 : Int32) (l6 : Int32) (l7 : Int32) (l8 : Int32) (m : vM) (P : Int32 → vM → Prop) : Prop :=
  (((l3 + l5) ≤ l8 →
    J_X7_cell_86 l1 l2 l3 l4 l5 l6 (l7 + (1 : Int32)) m P) ∧
  (¬ (l3 + l5) ≤ l8 →
    EI_X7_cellOn l7 l8 m (fun r2 m1 =>
      ((r2 = (-9 : Int32) →
        J_X7_cell_98 l1 l2 l3 l4 l5 l6 l7 (l8 + (1 : Int32)) m1 P) ∧
      (¬ r2 = (-9 : Int32) →
        ((l6 = (-9 : Int32) →
          J_X7_cell_98 l1 l2 l3 l4 l5 r2 l7 (l8 + (1 : Int32)) m1 P) ∧
        (¬ l6 = (-9 : Int32) →
          ((l6 ≤ r2 →
            J_X7_cell_98 l1 l2 l3 l4 l5 l6 l7 (l8 + (1 : Int32)) m1 P) ∧
          (¬ l6 ≤ r2 →
            J_X7_cell_98 l1 l2 l3 l4 l5 r2 l7 (l8 + (1 : Int32)) m1 P)))))))))
set_option maxRecDepth 20000 in
set_option maxHeartbeats 4000000 in
theorem b_X7_cell_98 {l1 : Int32} {l2 : Int32} {l3 : Int32} {l4 : Int32} {l5 : Int32} {l6 : Int32} {l7 : Int32} {l8 : Int32} {m : vM} {P : Int32 → vM → Prop}  (h : wp_X7_cell_98 l1 l2 l3 l4 l5 l6 l7 l8 m P) : J_X7_cell_98 l1 l2 l3 l4 l5 l6 l7 l8 m P := by
  show vJ mX7_cell 2 46 197 none 98 [(0, .ref 163), (1, .int l1), (2, .int l2), (3, .int l3), (4, .int l4), (5, .int l5), (6, .int l6), (7, .int l7), (8, .int l8)] [] 197 SH m (vPi P)
  unfold wp_X7_cell_98 at h
  refine vJ.iload dX7_cell_98 rfl ?_
  refine vJ.iload_n dX7_cell_100 rfl rfl ?_
  refine vJ.iload dX7_cell_101 rfl ?_
  refine vJ.iadd dX7_cell_103 ?_
  refine vJ.icmp_ge (tgt := 153) dX7_cell_104 (by decide) (fun hc6 => ?_) (fun hc6 => ?_)
  · replace h := h.1 hc6
    refine vJ.iinc (v := l7 + (1 : Int32)) (ls2 := [(0, .ref 163), (1, .int l1), (2, .int l2), (3, .int l3), (4, .int l4), (5, .int l5), (6, .int l6), (7, .int (l7 + (1 : Int32))), (8, .int l8)]) dX7_cell_153 rfl (congrArg (l7 + ·) ci_1) (Nat.le_of_ble_eq_true rfl) rfl ?_
    refine vJ.goto (tgt := 86) dX7_cell_156 (by decide) ?_
    refine vJ.sub [0, 1, 2, 3, 4, 5, 6, 7] rfl ?_
    exact h
  · replace h := h.2 hc6
    refine vJ.aload_n dX7_cell_107 rfl rfl ?_
    refine vJ.iload dX7_cell_108 rfl ?_
    refine vJ.iload dX7_cell_110 rfl ?_
    refine vJ.callV (ci := 7) (Yc := mX7_cellOn) (frc := 1) (loc := 23) (as := [.int l7, .int l8]) dX7_cell_112 rfl sh_163 (Nat.le_of_ble_eq_true rfl) rfl ml_RX7_155 im_yX7_cellOn se_yX7_cellOn co_X7_cellOn in_TableSetterModel pl_X7_cellOn (Nat.le_of_ble_eq_true rfl) (Nat.le_of_ble_eq_true rfl) (Nat.le_of_ble_eq_true rfl) ?_
    refine Ev.gi h (fun r2 m1 h => ?_)
    refine vJ.istore (ls2 := [(0, .ref 163), (1, .int l1), (2, .int l2), (3, .int l3), (4, .int l4), (5, .int l5), (6, .int l6), (7, .int l7), (8, .int l8), (9, .int r2)]) dX7_cell_115 (Nat.le_of_ble_eq_true rfl) rfl ?_
    refine vJ.iload dX7_cell_117 rfl ?_
    refine vJ.bipush dX7_cell_119 cb_m9 ?_
    refine vJ.icmp_eq (tgt := 143) dX7_cell_121 (by decide) (fun hc5 => ?_) (fun hc5 => ?_)
    · replace h := h.1 hc5
      refine vJ.iload dX7_cell_143 rfl ?_
      refine vJ.istore (ls2 := [(0, .ref 163), (1, .int l1), (2, .int l2), (3, .int l3), (4, .int l4), (5, .int l5), (6, .int l6), (7, .int l7), (8, .int l8), (9, .int r2)]) dX7_cell_145 (Nat.le_of_ble_eq_true rfl) rfl ?_
      refine vJ.iinc (v := l8 + (1 : Int32)) (ls2 := [(0, .ref 163), (1, .int l1), (2, .int l2), (3, .int l3), (4, .int l4), (5, .int l5), (6, .int l6), (7, .int l7), (8, .int (l8 + (1 : Int32))), (9, .int r2)]) dX7_cell_147 rfl (congrArg (l8 + ·) ci_1) (Nat.le_of_ble_eq_true rfl) rfl ?_
      refine vJ.goto (tgt := 98) dX7_cell_150 (by decide) ?_
      refine vJ.sub [0, 1, 2, 3, 4, 5, 6, 7, 8] rfl ?_
      exact h
    · replace h := h.2 hc5
      refine vJ.iload dX7_cell_124 rfl ?_
      refine vJ.bipush dX7_cell_126 cb_m9 ?_
      refine vJ.icmp_eq (tgt := 138) dX7_cell_128 (by decide) (fun hc4 => ?_) (fun hc4 => ?_)
      · replace h := h.1 hc4
        refine vJ.iload dX7_cell_138 rfl ?_
        refine vJ.goto (tgt := 145) dX7_cell_140 (by decide) ?_
        refine vJ.istore (ls2 := [(0, .ref 163), (1, .int l1), (2, .int l2), (3, .int l3), (4, .int l4), (5, .int l5), (6, .int r2), (7, .int l7), (8, .int l8), (9, .int r2)]) dX7_cell_145 (Nat.le_of_ble_eq_true rfl) rfl ?_
        refine vJ.iinc (v := l8 + (1 : Int32)) (ls2 := [(0, .ref 163), (1, .int l1), (2, .int l2), (3, .int l3), (4, .int l4), (5, .int l5), (6, .int r2), (7, .int l7), (8, .int (l8 + (1 : Int32))), (9, .int r2)]) dX7_cell_147 rfl (congrArg (l8 + ·) ci_1) (Nat.le_of_ble_eq_true rfl) rfl ?_
        refine vJ.goto (tgt := 98) dX7_cell_150 (by decide) ?_
        refine vJ.sub [0, 1, 2, 3, 4, 5, 6, 7, 8] rfl ?_
        exact h
      · replace h := h.2 hc4
        refine vJ.iload dX7_cell_131 rfl ?_
        refine vJ.iload dX7_cell_133 rfl ?_
        refine vJ.icmp_ge (tgt := 143) dX7_cell_135 (by decide) (fun hc3 => ?_) (fun hc3 => ?_)
        · replace h := h.1 hc3
          refine vJ.iload dX7_cell_143 rfl ?_
          refine vJ.istore (ls2 := [(0, .ref 163), (1, .int l1), (2, .int l2), (3, .int l3), (4, .int l4), (5, .int l5), (6, .int l6), (7, .int l7), (8, .int l8), (9, .int r2)]) dX7_cell_145 (Nat.le_of_ble_eq_true rfl) rfl ?_
          refine vJ.iinc (v := l8 + (1 : Int32)) (ls2 := [(0, .ref 163), (1, .int l1), (2, .int l2), (3, .int l3), (4, .int l4), (5, .int l5), (6, .int l6), (7, .int l7), (8, .int (l8 + (1 : Int32))), (9, .int r2)]) dX7_cell_147 rfl (congrArg (l8 + ·) ci_1) (Nat.le_of_ble_eq_true rfl) rfl ?_
          refine vJ.goto (tgt := 98) dX7_cell_150 (by decide) ?_
          refine vJ.sub [0, 1, 2, 3, 4, 5, 6, 7, 8] rfl ?_
          exact h
        · replace h := h.2 hc3
          refine vJ.iload dX7_cell_138 rfl ?_
          refine vJ.goto (tgt := 145) dX7_cell_140 (by decide) ?_
          refine vJ.istore (ls2 := [(0, .ref 163), (1, .int l1), (2, .int l2), (3, .int l3), (4, .int l4), (5, .int l5), (6, .int r2), (7, .int l7), (8, .int l8), (9, .int r2)]) dX7_cell_145 (Nat.le_of_ble_eq_true rfl) rfl ?_
          refine vJ.iinc (v := l8 + (1 : Int32)) (ls2 := [(0, .ref 163), (1, .int l1), (2, .int l2), (3, .int l3), (4, .int l4), (5, .int l5), (6, .int r2), (7, .int l7), (8, .int (l8 + (1 : Int32))), (9, .int r2)]) dX7_cell_147 rfl (congrArg (l8 + ·) ci_1) (Nat.le_of_ble_eq_true rfl) rfl ?_
          refine vJ.goto (tgt := 98) dX7_cell_150 (by decide) ?_
          refine vJ.sub [0, 1, 2, 3, 4, 5, 6, 7, 8] rfl ?_
          exact h
def J_X7_clash_0  (m : vM) (P : Int32 → vM → Prop) : Prop := vJ mX7_clash 0 0 197 none 0 [(0, .ref 163)] [] 197 SH m (vPi P)
def wp_X7_clash  (m : vM) (P : Int32 → vM → Prop) : Prop :=
  P (m.1 163 18) m
set_option maxRecDepth 20000 in
set_option maxHeartbeats 4000000 in
theorem b_X7_clash  {m : vM} {P : Int32 → vM → Prop}  (h : wp_X7_clash  m P) : J_X7_clash_0  m P := by
  show vJ mX7_clash 0 0 197 none 0 [(0, .ref 163)] [] 197 SH m (vPi P)
  unfold wp_X7_clash at h
  refine vJ.aload_n dX7_clash_0 rfl rfl ?_
  refine vJ.getI (ci := 7) (k := 18) dX7_clash_1 sh_163 (Nat.le_of_ble_eq_true rfl) rfl inX7 (Nat.le_of_ble_eq_true rfl) rfl fl_RX7_135 ?_
  exact vJ.ireturn dX7_clash_4 rfl rfl rfl ⟨rfl, _, rfl, h⟩
def EI_X7_clash  (m : vM) (P : Int32 → vM → Prop) : Prop := Ev mX7_clash 0 0 197 [.ref 163] 197 SH m (vPi P)
theorem f_X7_clash  {m : vM} {P : Int32 → vM → Prop} (h : J_X7_clash_0  m P) : EI_X7_clash  m P := Ev.of pn_X7_clash (Nat.le_of_ble_eq_true rfl) h
theorem e_X7_clash  {m : vM} {P : Int32 → vM → Prop}  (h : wp_X7_clash  m P) : EI_X7_clash  m P := f_X7_clash (b_X7_clash  h)
def J_X7_isCell_0 (l1 : Int32) (m : vM) (P : Int32 → vM → Prop) : Prop := vJ mX7_isCell 1 22 197 none 0 [(0, .ref 163), (1, .int l1)] [] 197 SH m (vPi P)
def wp_X7_isCell (l1 : Int32) (m : vM) (P : Int32 → vM → Prop) : Prop :=
  wp_X7_in l1 (0 : Int32) ((m.1 163 7) - (1 : Int32)) m (fun r2 m1 =>
    (r2 &&& 1 = r2) ∧
    P r2 m1)
set_option maxRecDepth 20000 in
set_option maxHeartbeats 4000000 in
theorem b_X7_isCell {l1 : Int32} {m : vM} {P : Int32 → vM → Prop}  (h : wp_X7_isCell l1 m P) : J_X7_isCell_0 l1 m P := by
  show vJ mX7_isCell 1 22 197 none 0 [(0, .ref 163), (1, .int l1)] [] 197 SH m (vPi P)
  unfold wp_X7_isCell at h
  refine vJ.iload_n dX7_isCell_0 rfl rfl ?_
  refine vJ.iconst dX7_isCell_1 ci_0 ?_
  refine vJ.aload_n dX7_isCell_2 rfl rfl ?_
  refine vJ.getI (ci := 7) (k := 7) dX7_isCell_3 sh_163 (Nat.le_of_ble_eq_true rfl) rfl inX7 (Nat.le_of_ble_eq_true rfl) rfl fl_RX7_132 ?_
  refine vJ.iconst dX7_isCell_6 ci_1 ?_
  refine vJ.isub dX7_isCell_7 ?_
  refine vJ.callS (Yc := mX7_in) (frc := 0) (loc := 0) (as := [.int l1, .int (0 : Int32), .int ((m.1 163 7) - (1 : Int32))]) dX7_isCell_8 rfl ml_RX7_119 st_yX7_in co_X7_in in_TableSetterModel pl_X7_in (Nat.le_of_ble_eq_true rfl) (Nat.le_of_ble_eq_true rfl) (Nat.le_of_ble_eq_true rfl) ?_
  refine Ev.gi (e_X7_in  h) (fun r2 m1 h => ?_)
  obtain ⟨hn3, h⟩ := h
  exact vJ.ireturn dX7_isCell_11 rfl (congrArg Value.int hn3) rfl ⟨rfl, _, rfl, h⟩
def EI_X7_isCell (l1 : Int32) (m : vM) (P : Int32 → vM → Prop) : Prop := Ev mX7_isCell 1 22 197 [.ref 163, .int l1] 197 SH m (vPi P)
theorem f_X7_isCell {l1 : Int32} {m : vM} {P : Int32 → vM → Prop} (h : J_X7_isCell_0 l1 m P) : EI_X7_isCell l1 m P := Ev.of pn_X7_isCell (Nat.le_of_ble_eq_true rfl) h
theorem e_X7_isCell {l1 : Int32} {m : vM} {P : Int32 → vM → Prop}  (h : wp_X7_isCell l1 m P) : EI_X7_isCell l1 m P := f_X7_isCell (b_X7_isCell  h)
def J_X7_drop_0 (l1 : Int32) (m : vM) (P : Int32 → vM → Prop) : Prop := vJ mX7_drop 2 43 197 none 0 [(0, .ref 163), (1, .int l1)] [] 197 SH m (vPi P)
def wp_X7_drop (l1 : Int32) (m : vM) (P : Int32 → vM → Prop) : Prop :=
  wp_X7_isCell l1 m (fun r2 m1 =>
    ((r2 = (0 : Int32) →
      P (-1 : Int32) m1) ∧
    (¬ r2 = (0 : Int32) →
      vp_in l1 40 ∧
      (((m1.1 172 (Int32.toNatClampNeg l1)) = (0 : Int32) →
        vp_in l1 40 ∧
        ∀ m5 : vM, m5 = upI m1 172 (Int32.toNatClampNeg l1) (1 : Int32) →
        P (1 : Int32) m5) ∧
      (¬ (m1.1 172 (Int32.toNatClampNeg l1)) = (0 : Int32) →
        wp_X7_meets (1 : Int32) m1 (fun r7 m6 =>
          P r7 m6))))))
set_option maxRecDepth 20000 in
set_option maxHeartbeats 4000000 in
theorem b_X7_drop {l1 : Int32} {m : vM} {P : Int32 → vM → Prop}  (h : wp_X7_drop l1 m P) : J_X7_drop_0 l1 m P := by
  show vJ mX7_drop 2 43 197 none 0 [(0, .ref 163), (1, .int l1)] [] 197 SH m (vPi P)
  unfold wp_X7_drop at h
  refine vJ.aload_n dX7_drop_0 rfl rfl ?_
  refine vJ.iload_n dX7_drop_1 rfl rfl ?_
  refine vJ.callV (ci := 7) (Yc := mX7_isCell) (frc := 1) (loc := 22) (as := [.int l1]) dX7_drop_2 rfl sh_163 (Nat.le_of_ble_eq_true rfl) rfl ml_RX7_159 im_yX7_isCell se_yX7_isCell co_X7_isCell in_TableSetterModel pl_X7_isCell (Nat.le_of_ble_eq_true rfl) (Nat.le_of_ble_eq_true rfl) (Nat.le_of_ble_eq_true rfl) ?_
  refine Ev.gi (e_X7_isCell  h) (fun r2 m1 h => ?_)
  refine vJ.if_ne (tgt := 10) dX7_drop_5 (by decide) (fun hc9 => ?_) (fun hc9 => ?_)
  · replace h := h.2 hc9
    refine vJ.aload_n dX7_drop_10 rfl rfl ?_
    refine vJ.getR (ci := 7) (k := 13) (j := 172) dX7_drop_11 sh_163 (Nat.le_of_ble_eq_true rfl) rfl inX7 (Nat.le_of_ble_eq_true rfl) rfl fl_RX7_34 ?_
    refine vJ.iload_n dX7_drop_14 rfl rfl ?_
    obtain ⟨hb3, h⟩ := h
    refine vJ.zald dX7_drop_15 sh_172 (Nat.le_of_ble_eq_true rfl) hb3 ?_
    refine vJ.if_eq (tgt := 25) dX7_drop_16 (by decide) (fun hc8 => ?_) (fun hc8 => ?_)
    · replace h := h.1 hc8
      refine vJ.aload_n dX7_drop_25 rfl rfl ?_
      refine vJ.getR (ci := 7) (k := 13) (j := 172) dX7_drop_26 sh_163 (Nat.le_of_ble_eq_true rfl) rfl inX7 (Nat.le_of_ble_eq_true rfl) rfl fl_RX7_34 ?_
      refine vJ.iload_n dX7_drop_29 rfl rfl ?_
      refine vJ.iconst dX7_drop_30 ci_1 ?_
      obtain ⟨hb4, h⟩ := h
      refine vJ.zast dX7_drop_31 sh_172 (Nat.le_of_ble_eq_true rfl) hb4 (by decide) ?_
      refine vJ.topm (fun m5 em5 => ?_)
      replace h := h m5 em5
      refine vJ.iconst dX7_drop_32 ci_1 ?_
      exact vJ.ireturn dX7_drop_33 rfl rfl rfl ⟨rfl, _, rfl, h⟩
    · replace h := h.2 hc8
      refine vJ.aload_n dX7_drop_19 rfl rfl ?_
      refine vJ.iconst dX7_drop_20 ci_1 ?_
      refine vJ.callV (ci := 7) (Yc := mX7_meets) (frc := 0) (loc := 0) (as := [.int (1 : Int32)]) dX7_drop_21 rfl sh_163 (Nat.le_of_ble_eq_true rfl) rfl ml_RX7_151 im_yX7_meets se_yX7_meets co_X7_meets in_TableSetterModel pl_X7_meets (Nat.le_of_ble_eq_true rfl) (Nat.le_of_ble_eq_true rfl) (Nat.le_of_ble_eq_true rfl) ?_
      refine Ev.gi (e_X7_meets  h) (fun r7 m6 h => ?_)
      exact vJ.ireturn dX7_drop_24 rfl rfl rfl ⟨rfl, _, rfl, h⟩
  · replace h := h.1 hc9
    refine vJ.iconst dX7_drop_8 ci_m1 ?_
    exact vJ.ireturn dX7_drop_9 rfl rfl rfl ⟨rfl, _, rfl, h⟩
def EI_X7_drop (l1 : Int32) (m : vM) (P : Int32 → vM → Prop) : Prop := Ev mX7_drop 2 43 197 [.ref 163, .int l1] 197 SH m (vPi P)
theorem f_X7_drop {l1 : Int32} {m : vM} {P : Int32 → vM → Prop} (h : J_X7_drop_0 l1 m P) : EI_X7_drop l1 m P := Ev.of pn_X7_drop (Nat.le_of_ble_eq_true rfl) h
theorem e_X7_drop {l1 : Int32} {m : vM} {P : Int32 → vM → Prop}  (h : wp_X7_drop l1 m P) : EI_X7_drop l1 m P := f_X7_drop (b_X7_drop  h)
def J_X7_need_0 (l1 : Int32) (l2 : Int32) (m : vM) (P : Int32 → vM → Prop) : Prop := vJ mX7_need 2 43 197 none 0 [(0, .ref 163), (1, .int l1), (2, .int l2)] [] 197 SH m (vPi P)
def wp_X7_need (l1 : Int32) (l2 : Int32) (m : vM) (P : Int32 → vM → Prop) : Prop :=
  wp_X7_isCell l2 m (fun r2 m1 =>
    ((r2 = (0 : Int32) →
      P (-1 : Int32) m1) ∧
    (¬ r2 = (0 : Int32) →
      ((l1 = (0 : Int32) →
        P (-1 : Int32) m1) ∧
      (¬ l1 = (0 : Int32) →
        vp_in l2 40 ∧
        (((m1.1 172 (Int32.toNatClampNeg l2)) = (0 : Int32) →
          P (0 : Int32) m1) ∧
        (¬ (m1.1 172 (Int32.toNatClampNeg l2)) = (0 : Int32) →
          wp_X7_meets (1 : Int32) m1 (fun r5 m4 =>
            P r5 m4))))))))
set_option maxRecDepth 20000 in
set_option maxHeartbeats 4000000 in
theorem b_X7_need {l1 : Int32} {l2 : Int32} {m : vM} {P : Int32 → vM → Prop}  (h : wp_X7_need l1 l2 m P) : J_X7_need_0 l1 l2 m P := by
  show vJ mX7_need 2 43 197 none 0 [(0, .ref 163), (1, .int l1), (2, .int l2)] [] 197 SH m (vPi P)
  unfold wp_X7_need at h
  refine vJ.aload_n dX7_need_0 rfl rfl ?_
  refine vJ.iload_n dX7_need_1 rfl rfl ?_
  refine vJ.callV (ci := 7) (Yc := mX7_isCell) (frc := 1) (loc := 22) (as := [.int l2]) dX7_need_2 rfl sh_163 (Nat.le_of_ble_eq_true rfl) rfl ml_RX7_159 im_yX7_isCell se_yX7_isCell co_X7_isCell in_TableSetterModel pl_X7_isCell (Nat.le_of_ble_eq_true rfl) (Nat.le_of_ble_eq_true rfl) (Nat.le_of_ble_eq_true rfl) ?_
  refine Ev.gi (e_X7_isCell  h) (fun r2 m1 h => ?_)
  refine vJ.if_eq (tgt := 12) dX7_need_5 (by decide) (fun hc8 => ?_) (fun hc8 => ?_)
  · replace h := h.1 hc8
    refine vJ.iconst dX7_need_12 ci_m1 ?_
    refine vJ.goto (tgt := 34) dX7_need_13 (by decide) ?_
    exact vJ.ireturn dX7_need_34 rfl rfl rfl ⟨rfl, _, rfl, h⟩
  · replace h := h.2 hc8
    refine vJ.iload_n dX7_need_8 rfl rfl ?_
    refine vJ.if_ne (tgt := 16) dX7_need_9 (by decide) (fun hc7 => ?_) (fun hc7 => ?_)
    · replace h := h.2 hc7
      refine vJ.aload_n dX7_need_16 rfl rfl ?_
      refine vJ.getR (ci := 7) (k := 13) (j := 172) dX7_need_17 sh_163 (Nat.le_of_ble_eq_true rfl) rfl inX7 (Nat.le_of_ble_eq_true rfl) rfl fl_RX7_34 ?_
      refine vJ.iload_n dX7_need_20 rfl rfl ?_
      obtain ⟨hb3, h⟩ := h
      refine vJ.zald dX7_need_21 sh_172 (Nat.le_of_ble_eq_true rfl) hb3 ?_
      refine vJ.if_eq (tgt := 33) dX7_need_22 (by decide) (fun hc6 => ?_) (fun hc6 => ?_)
      · replace h := h.1 hc6
        refine vJ.iconst dX7_need_33 ci_0 ?_
        exact vJ.ireturn dX7_need_34 rfl rfl rfl ⟨rfl, _, rfl, h⟩
      · replace h := h.2 hc6
        refine vJ.aload_n dX7_need_25 rfl rfl ?_
        refine vJ.iconst dX7_need_26 ci_1 ?_
        refine vJ.callV (ci := 7) (Yc := mX7_meets) (frc := 0) (loc := 0) (as := [.int (1 : Int32)]) dX7_need_27 rfl sh_163 (Nat.le_of_ble_eq_true rfl) rfl ml_RX7_151 im_yX7_meets se_yX7_meets co_X7_meets in_TableSetterModel pl_X7_meets (Nat.le_of_ble_eq_true rfl) (Nat.le_of_ble_eq_true rfl) (Nat.le_of_ble_eq_true rfl) ?_
        refine Ev.gi (e_X7_meets  h) (fun r5 m4 h => ?_)
        refine vJ.goto (tgt := 34) dX7_need_30 (by decide) ?_
        exact vJ.ireturn dX7_need_34 rfl rfl rfl ⟨rfl, _, rfl, h⟩
    · replace h := h.1 hc7
      refine vJ.iconst dX7_need_12 ci_m1 ?_
      refine vJ.goto (tgt := 34) dX7_need_13 (by decide) ?_
      exact vJ.ireturn dX7_need_34 rfl rfl rfl ⟨rfl, _, rfl, h⟩
def EI_X7_need (l1 : Int32) (l2 : Int32) (m : vM) (P : Int32 → vM → Prop) : Prop := Ev mX7_need 2 43 197 [.ref 163, .int l1, .int l2] 197 SH m (vPi P)
theorem f_X7_need {l1 : Int32} {l2 : Int32} {m : vM} {P : Int32 → vM → Prop} (h : J_X7_need_0 l1 l2 m P) : EI_X7_need l1 l2 m P := Ev.of pn_X7_need (Nat.le_of_ble_eq_true rfl) h
theorem e_X7_need {l1 : Int32} {l2 : Int32} {m : vM} {P : Int32 → vM → Prop}  (h : wp_X7_need l1 l2 m P) : EI_X7_need l1 l2 m P := f_X7_need (b_X7_need  h)
def J_X7_toldOf_0 (l1 : Int32) (l2 : Int32) (m : vM) (P : Int32 → vM → Prop) : Prop := vJ mX7_toldOf 0 0 197 none 0 [(0, .ref 163), (1, .int l1), (2, .int l2)] [] 197 SH m (vPi P)
def wp_X7_toldOf (l1 : Int32) (l2 : Int32) (m : vM) (P : Int32 → vM → Prop) : Prop :=
  ((l2 = (0 : Int32) →
    vp_in l1 40 ∧
    P (m.1 167 (Int32.toNatClampNeg l1)) m) ∧
  (¬ l2 = (0 : Int32) →
    ((l2 = (1 : Int32) →
      vp_in l1 40 ∧
      P (m.1 168 (Int32.toNatClampNeg l1)) m) ∧
    (¬ l2 = (1 : Int32) →
      ((l2 = (2 : Int32) →
        vp_in l1 40 ∧
        P (m.1 169 (Int32.toNatClampNeg l1)) m) ∧
      (¬ l2 = (2 : Int32) →
        ((l2 = (3 : Int32) →
          vp_in l1 40 ∧
          P (m.1 170 (Int32.toNatClampNeg l1)) m) ∧
        (¬ l2 = (3 : Int32) →
          ((l2 = (4 : Int32) →
            vp_in l1 40 ∧
            P (m.1 171 (Int32.toNatClampNeg l1)) m) ∧
          (¬ l2 = (4 : Int32) →
            ((l2 = (5 : Int32) →
              vp_in l1 40 ∧
              P (m.1 173 (Int32.toNatClampNeg l1)) m) ∧
            (¬ l2 = (5 : Int32) →
              vp_in l1 40 ∧
              P (m.1 175 (Int32.toNatClampNeg l1)) m))))))))))))
set_option maxRecDepth 20000 in
set_option maxHeartbeats 4000000 in
theorem b_X7_toldOf {l1 : Int32} {l2 : Int32} {m : vM} {P : Int32 → vM → Prop}  (h : wp_X7_toldOf l1 l2 m P) : J_X7_toldOf_0 l1 l2 m P := by
  show vJ mX7_toldOf 0 0 197 none 0 [(0, .ref 163), (1, .int l1), (2, .int l2)] [] 197 SH m (vPi P)
  unfold wp_X7_toldOf at h
  refine vJ.iload_n dX7_toldOf_0 rfl rfl ?_
  by_cases hk0 : l2 = (0 : Int32)
  · replace h := h.1 hk0
    refine vJ.tabIn (tgt := 40) dX7_toldOf_1 (by rw [hk0]; decide) (by rw [hk0]; decide) (by rw [hk0]; rfl) (by decide) ?_
    refine vJ.aload_n dX7_toldOf_40 rfl rfl ?_
    refine vJ.getR (ci := 7) (k := 8) (j := 167) dX7_toldOf_41 sh_163 (Nat.le_of_ble_eq_true rfl) rfl inX7 (Nat.le_of_ble_eq_true rfl) rfl fl_RX7_19 ?_
    refine vJ.iload_n dX7_toldOf_44 rfl rfl ?_
    obtain ⟨hb7, h⟩ := h
    refine vJ.iald dX7_toldOf_45 sh_167 (Nat.le_of_ble_eq_true rfl) hb7 ?_
    exact vJ.ireturn dX7_toldOf_46 rfl rfl rfl ⟨rfl, _, rfl, h⟩
  · replace h := h.2 hk0
    by_cases hk1 : l2 = (1 : Int32)
    · replace h := h.1 hk1
      refine vJ.tabIn (tgt := 47) dX7_toldOf_1 (by rw [hk1]; decide) (by rw [hk1]; decide) (by rw [hk1]; rfl) (by decide) ?_
      refine vJ.aload_n dX7_toldOf_47 rfl rfl ?_
      refine vJ.getR (ci := 7) (k := 9) (j := 168) dX7_toldOf_48 sh_163 (Nat.le_of_ble_eq_true rfl) rfl inX7 (Nat.le_of_ble_eq_true rfl) rfl fl_RX7_22 ?_
      refine vJ.iload_n dX7_toldOf_51 rfl rfl ?_
      obtain ⟨hb6, h⟩ := h
      refine vJ.iald dX7_toldOf_52 sh_168 (Nat.le_of_ble_eq_true rfl) hb6 ?_
      exact vJ.ireturn dX7_toldOf_53 rfl rfl rfl ⟨rfl, _, rfl, h⟩
    · replace h := h.2 hk1
      by_cases hk2 : l2 = (2 : Int32)
      · replace h := h.1 hk2
        refine vJ.tabIn (tgt := 54) dX7_toldOf_1 (by rw [hk2]; decide) (by rw [hk2]; decide) (by rw [hk2]; rfl) (by decide) ?_
        refine vJ.aload_n dX7_toldOf_54 rfl rfl ?_
        refine vJ.getR (ci := 7) (k := 10) (j := 169) dX7_toldOf_55 sh_163 (Nat.le_of_ble_eq_true rfl) rfl inX7 (Nat.le_of_ble_eq_true rfl) rfl fl_RX7_25 ?_
        refine vJ.iload_n dX7_toldOf_58 rfl rfl ?_
        obtain ⟨hb5, h⟩ := h
        refine vJ.iald dX7_toldOf_59 sh_169 (Nat.le_of_ble_eq_true rfl) hb5 ?_
        exact vJ.ireturn dX7_toldOf_60 rfl rfl rfl ⟨rfl, _, rfl, h⟩
      · replace h := h.2 hk2
        by_cases hk3 : l2 = (3 : Int32)
        · replace h := h.1 hk3
          refine vJ.tabIn (tgt := 61) dX7_toldOf_1 (by rw [hk3]; decide) (by rw [hk3]; decide) (by rw [hk3]; rfl) (by decide) ?_
          refine vJ.aload_n dX7_toldOf_61 rfl rfl ?_
          refine vJ.getR (ci := 7) (k := 11) (j := 170) dX7_toldOf_62 sh_163 (Nat.le_of_ble_eq_true rfl) rfl inX7 (Nat.le_of_ble_eq_true rfl) rfl fl_RX7_28 ?_
          refine vJ.iload_n dX7_toldOf_65 rfl rfl ?_
          obtain ⟨hb4, h⟩ := h
          refine vJ.iald dX7_toldOf_66 sh_170 (Nat.le_of_ble_eq_true rfl) hb4 ?_
          exact vJ.ireturn dX7_toldOf_67 rfl rfl rfl ⟨rfl, _, rfl, h⟩
        · replace h := h.2 hk3
          by_cases hk4 : l2 = (4 : Int32)
          · replace h := h.1 hk4
            refine vJ.tabIn (tgt := 68) dX7_toldOf_1 (by rw [hk4]; decide) (by rw [hk4]; decide) (by rw [hk4]; rfl) (by decide) ?_
            refine vJ.aload_n dX7_toldOf_68 rfl rfl ?_
            refine vJ.getR (ci := 7) (k := 12) (j := 171) dX7_toldOf_69 sh_163 (Nat.le_of_ble_eq_true rfl) rfl inX7 (Nat.le_of_ble_eq_true rfl) rfl fl_RX7_31 ?_
            refine vJ.iload_n dX7_toldOf_72 rfl rfl ?_
            obtain ⟨hb3, h⟩ := h
            refine vJ.iald dX7_toldOf_73 sh_171 (Nat.le_of_ble_eq_true rfl) hb3 ?_
            exact vJ.ireturn dX7_toldOf_74 rfl rfl rfl ⟨rfl, _, rfl, h⟩
          · replace h := h.2 hk4
            by_cases hk5 : l2 = (5 : Int32)
            · replace h := h.1 hk5
              refine vJ.tabIn (tgt := 75) dX7_toldOf_1 (by rw [hk5]; decide) (by rw [hk5]; decide) (by rw [hk5]; rfl) (by decide) ?_
              refine vJ.aload_n dX7_toldOf_75 rfl rfl ?_
              refine vJ.getR (ci := 7) (k := 14) (j := 173) dX7_toldOf_76 sh_163 (Nat.le_of_ble_eq_true rfl) rfl inX7 (Nat.le_of_ble_eq_true rfl) rfl fl_RX7_38 ?_
              refine vJ.iload_n dX7_toldOf_79 rfl rfl ?_
              obtain ⟨hb2, h⟩ := h
              refine vJ.iald dX7_toldOf_80 sh_173 (Nat.le_of_ble_eq_true rfl) hb2 ?_
              exact vJ.ireturn dX7_toldOf_81 rfl rfl rfl ⟨rfl, _, rfl, h⟩
            · replace h := h.2 hk5
              refine vJ.tabOut (tgt := 82) dX7_toldOf_1 (tab_out6 hk0 hk1 hk2 hk3 hk4 hk5) (by decide) ?_
              refine vJ.aload_n dX7_toldOf_82 rfl rfl ?_
              refine vJ.getR (ci := 7) (k := 16) (j := 175) dX7_toldOf_83 sh_163 (Nat.le_of_ble_eq_true rfl) rfl inX7 (Nat.le_of_ble_eq_true rfl) rfl fl_RX7_44 ?_
              refine vJ.iload_n dX7_toldOf_86 rfl rfl ?_
              obtain ⟨hb1, h⟩ := h
              refine vJ.iald dX7_toldOf_87 sh_175 (Nat.le_of_ble_eq_true rfl) hb1 ?_
              exact vJ.ireturn dX7_toldOf_88 rfl rfl rfl ⟨rfl, _, rfl, h⟩
def EI_X7_toldOf (l1 : Int32) (l2 : Int32) (m : vM) (P : Int32 → vM → Prop) : Prop := Ev mX7_toldOf 0 0 197 [.ref 163, .int l1, .int l2] 197 SH m (vPi P)
theorem f_X7_toldOf {l1 : Int32} {l2 : Int32} {m : vM} {P : Int32 → vM → Prop} (h : J_X7_toldOf_0 l1 l2 m P) : EI_X7_toldOf l1 l2 m P := Ev.of pn_X7_toldOf (Nat.le_of_ble_eq_true rfl) h
theorem e_X7_toldOf {l1 : Int32} {l2 : Int32} {m : vM} {P : Int32 → vM → Prop}  (h : wp_X7_toldOf l1 l2 m P) : EI_X7_toldOf l1 l2 m P := f_X7_toldOf (b_X7_toldOf  h)
def J_X7_told_0 (l1 : Int32) (l2 : Int32) (m : vM) (P : Int32 → vM → Prop) : Prop := vJ mX7_told 3 65 197 none 0 [(0, .ref 163), (1, .int l1), (2, .int l2)] [] 197 SH m (vPi P)
def wp_X7_told (l1 : Int32) (l2 : Int32) (m : vM) (P : Int32 → vM → Prop) : Prop :=
  wp_X7_in l2 (0 : Int32) (6 : Int32) m (fun r2 m1 =>
    wp_X7_need r2 l1 m1 (fun r4 m3 =>
      (((0 : Int32) ≤ r4 →
        wp_X7_toldOf l1 l2 m3 (fun r6 m5 =>
          P r6 m5)) ∧
      (¬ (0 : Int32) ≤ r4 →
        P r4 m3))))
set_option maxRecDepth 20000 in
set_option maxHeartbeats 4000000 in
theorem b_X7_told {l1 : Int32} {l2 : Int32} {m : vM} {P : Int32 → vM → Prop}  (h : wp_X7_told l1 l2 m P) : J_X7_told_0 l1 l2 m P := by
  show vJ mX7_told 3 65 197 none 0 [(0, .ref 163), (1, .int l1), (2, .int l2)] [] 197 SH m (vPi P)
  unfold wp_X7_told at h
  refine vJ.aload_n dX7_told_0 rfl rfl ?_
  refine vJ.iload_n dX7_told_1 rfl rfl ?_
  refine vJ.iconst dX7_told_2 ci_0 ?_
  refine vJ.bipush dX7_told_3 cb_6 ?_
  refine vJ.callS (Yc := mX7_in) (frc := 0) (loc := 0) (as := [.int l2, .int (0 : Int32), .int (6 : Int32)]) dX7_told_5 rfl ml_RX7_119 st_yX7_in co_X7_in in_TableSetterModel pl_X7_in (Nat.le_of_ble_eq_true rfl) (Nat.le_of_ble_eq_true rfl) (Nat.le_of_ble_eq_true rfl) ?_
  refine Ev.gi (e_X7_in  h) (fun r2 m1 h => ?_)
  refine vJ.iload_n dX7_told_8 rfl rfl ?_
  refine vJ.callV (ci := 7) (Yc := mX7_need) (frc := 2) (loc := 43) (as := [.int r2, .int l1]) dX7_told_9 rfl sh_163 (Nat.le_of_ble_eq_true rfl) rfl ml_RX7_162 im_yX7_need se_yX7_need co_X7_need in_TableSetterModel pl_X7_need (Nat.le_of_ble_eq_true rfl) (Nat.le_of_ble_eq_true rfl) (Nat.le_of_ble_eq_true rfl) ?_
  refine Ev.gi (e_X7_need  h) (fun r4 m3 h => ?_)
  refine vJ.istore_n (ls2 := [(0, .ref 163), (1, .int l1), (2, .int l2), (3, .int r4)]) dX7_told_12 rfl (Nat.le_of_ble_eq_true rfl) rfl ?_
  refine vJ.iload_n dX7_told_13 rfl rfl ?_
  refine vJ.if_ge (tgt := 21) dX7_told_14 (by decide) (fun hc7 => ?_) (fun hc7 => ?_)
  · replace h := h.1 hc7
    refine vJ.aload_n dX7_told_21 rfl rfl ?_
    refine vJ.iload_n dX7_told_22 rfl rfl ?_
    refine vJ.iload_n dX7_told_23 rfl rfl ?_
    refine vJ.callV (ci := 7) (Yc := mX7_toldOf) (frc := 0) (loc := 0) (as := [.int l1, .int l2]) dX7_told_24 rfl sh_163 (Nat.le_of_ble_eq_true rfl) rfl ml_RX7_166 im_yX7_toldOf se_yX7_toldOf co_X7_toldOf in_TableSetterModel pl_X7_toldOf (Nat.le_of_ble_eq_true rfl) (Nat.le_of_ble_eq_true rfl) (Nat.le_of_ble_eq_true rfl) ?_
    refine Ev.gi (e_X7_toldOf  h) (fun r6 m5 h => ?_)
    exact vJ.ireturn dX7_told_27 rfl rfl rfl ⟨rfl, _, rfl, h⟩
  · replace h := h.2 hc7
    refine vJ.iload_n dX7_told_17 rfl rfl ?_
    refine vJ.goto (tgt := 27) dX7_told_18 (by decide) ?_
    exact vJ.ireturn dX7_told_27 rfl rfl rfl ⟨rfl, _, rfl, h⟩
def EI_X7_told (l1 : Int32) (l2 : Int32) (m : vM) (P : Int32 → vM → Prop) : Prop := Ev mX7_told 3 65 197 [.ref 163, .int l1, .int l2] 197 SH m (vPi P)
theorem f_X7_told {l1 : Int32} {l2 : Int32} {m : vM} {P : Int32 → vM → Prop} (h : J_X7_told_0 l1 l2 m P) : EI_X7_told l1 l2 m P := Ev.of pn_X7_told (Nat.le_of_ble_eq_true rfl) h
theorem e_X7_told {l1 : Int32} {l2 : Int32} {m : vM} {P : Int32 → vM → Prop}  (h : wp_X7_told l1 l2 m P) : EI_X7_told l1 l2 m P := f_X7_told (b_X7_told  h)
def J_X7_is_0 (l1 : Int32) (l2 : Int32) (m : vM) (P : Int32 → vM → Prop) : Prop := vJ mX7_is 3 65 197 none 0 [(0, .ref 163), (1, .int l1), (2, .int l2)] [] 197 SH m (vPi P)
def wp_X7_is (l1 : Int32) (l2 : Int32) (m : vM) (P : Int32 → vM → Prop) : Prop :=
  wp_X7_in l2 (0 : Int32) (3 : Int32) m (fun r2 m1 =>
    wp_X7_need r2 l1 m1 (fun r4 m3 =>
      (((0 : Int32) ≤ r4 →
        ((l2 = (0 : Int32) →
          P (1 : Int32) m3) ∧
        (¬ l2 = (0 : Int32) →
          vp_in l1 40 ∧
          ((l2 = (m3.1 167 (Int32.toNatClampNeg l1)) →
            P (1 : Int32) m3) ∧
          (¬ l2 = (m3.1 167 (Int32.toNatClampNeg l1)) →
            P (0 : Int32) m3))))) ∧
      (¬ (0 : Int32) ≤ r4 →
        P r4 m3))))
set_option maxRecDepth 20000 in
set_option maxHeartbeats 4000000 in
theorem b_X7_is {l1 : Int32} {l2 : Int32} {m : vM} {P : Int32 → vM → Prop}  (h : wp_X7_is l1 l2 m P) : J_X7_is_0 l1 l2 m P := by
  show vJ mX7_is 3 65 197 none 0 [(0, .ref 163), (1, .int l1), (2, .int l2)] [] 197 SH m (vPi P)
  unfold wp_X7_is at h
  refine vJ.aload_n dX7_is_0 rfl rfl ?_
  refine vJ.iload_n dX7_is_1 rfl rfl ?_
  refine vJ.iconst dX7_is_2 ci_0 ?_
  refine vJ.iconst dX7_is_3 ci_3 ?_
  refine vJ.callS (Yc := mX7_in) (frc := 0) (loc := 0) (as := [.int l2, .int (0 : Int32), .int (3 : Int32)]) dX7_is_4 rfl ml_RX7_119 st_yX7_in co_X7_in in_TableSetterModel pl_X7_in (Nat.le_of_ble_eq_true rfl) (Nat.le_of_ble_eq_true rfl) (Nat.le_of_ble_eq_true rfl) ?_
  refine Ev.gi (e_X7_in  h) (fun r2 m1 h => ?_)
  refine vJ.iload_n dX7_is_7 rfl rfl ?_
  refine vJ.callV (ci := 7) (Yc := mX7_need) (frc := 2) (loc := 43) (as := [.int r2, .int l1]) dX7_is_8 rfl sh_163 (Nat.le_of_ble_eq_true rfl) rfl ml_RX7_162 im_yX7_need se_yX7_need co_X7_need in_TableSetterModel pl_X7_need (Nat.le_of_ble_eq_true rfl) (Nat.le_of_ble_eq_true rfl) (Nat.le_of_ble_eq_true rfl) ?_
  refine Ev.gi (e_X7_need  h) (fun r4 m3 h => ?_)
  refine vJ.istore_n (ls2 := [(0, .ref 163), (1, .int l1), (2, .int l2), (3, .int r4)]) dX7_is_11 rfl (Nat.le_of_ble_eq_true rfl) rfl ?_
  refine vJ.iload_n dX7_is_12 rfl rfl ?_
  refine vJ.if_ge (tgt := 20) dX7_is_13 (by decide) (fun hc8 => ?_) (fun hc8 => ?_)
  · replace h := h.1 hc8
    refine vJ.iload_n dX7_is_20 rfl rfl ?_
    refine vJ.if_eq (tgt := 34) dX7_is_21 (by decide) (fun hc7 => ?_) (fun hc7 => ?_)
    · replace h := h.1 hc7
      refine vJ.iconst dX7_is_34 ci_1 ?_
      refine vJ.goto (tgt := 39) dX7_is_35 (by decide) ?_
      exact vJ.ireturn dX7_is_39 rfl rfl rfl ⟨rfl, _, rfl, h⟩
    · replace h := h.2 hc7
      refine vJ.iload_n dX7_is_24 rfl rfl ?_
      refine vJ.aload_n dX7_is_25 rfl rfl ?_
      refine vJ.getR (ci := 7) (k := 8) (j := 167) dX7_is_26 sh_163 (Nat.le_of_ble_eq_true rfl) rfl inX7 (Nat.le_of_ble_eq_true rfl) rfl fl_RX7_19 ?_
      refine vJ.iload_n dX7_is_29 rfl rfl ?_
      obtain ⟨hb5, h⟩ := h
      refine vJ.iald dX7_is_30 sh_167 (Nat.le_of_ble_eq_true rfl) hb5 ?_
      refine vJ.icmp_ne (tgt := 38) dX7_is_31 (by decide) (fun hc6 => ?_) (fun hc6 => ?_)
      · replace h := h.2 hc6
        refine vJ.iconst dX7_is_38 ci_0 ?_
        exact vJ.ireturn dX7_is_39 rfl rfl rfl ⟨rfl, _, rfl, h⟩
      · replace h := h.1 hc6
        refine vJ.iconst dX7_is_34 ci_1 ?_
        refine vJ.goto (tgt := 39) dX7_is_35 (by decide) ?_
        exact vJ.ireturn dX7_is_39 rfl rfl rfl ⟨rfl, _, rfl, h⟩
  · replace h := h.2 hc8
    refine vJ.iload_n dX7_is_16 rfl rfl ?_
    refine vJ.goto (tgt := 39) dX7_is_17 (by decide) ?_
    exact vJ.ireturn dX7_is_39 rfl rfl rfl ⟨rfl, _, rfl, h⟩
def EI_X7_is (l1 : Int32) (l2 : Int32) (m : vM) (P : Int32 → vM → Prop) : Prop := Ev mX7_is 3 65 197 [.ref 163, .int l1, .int l2] 197 SH m (vPi P)
theorem f_X7_is {l1 : Int32} {l2 : Int32} {m : vM} {P : Int32 → vM → Prop} (h : J_X7_is_0 l1 l2 m P) : EI_X7_is l1 l2 m P := Ev.of pn_X7_is (Nat.le_of_ble_eq_true rfl) h
theorem e_X7_is {l1 : Int32} {l2 : Int32} {m : vM} {P : Int32 → vM → Prop}  (h : wp_X7_is l1 l2 m P) : EI_X7_is l1 l2 m P := f_X7_is (b_X7_is  h)
def J_X7_on_0 (l1 : Int32) (l2 : Int32) (m : vM) (P : Int32 → vM → Prop) : Prop := vJ mX7_on 2 46 197 none 0 [(0, .ref 163), (1, .int l1), (2, .int l2)] [] 197 SH m (vPi P)
def wp_X7_on (l1 : Int32) (l2 : Int32) (m : vM) (P : Int32 → vM → Prop) : Prop :=
  wp_X7_isRow l1 m (fun r2 m1 =>
    ((r2 = (0 : Int32) →
      P (-1 : Int32) m1) ∧
    (¬ r2 = (0 : Int32) →
      wp_X7_isColumn l2 m1 (fun r4 m3 =>
        ((r4 = (0 : Int32) →
          P (-1 : Int32) m3) ∧
        (¬ r4 = (0 : Int32) →
          EI_X7_cellOn l1 l2 m3 (fun r6 m5 =>
            P r6 m5)))))))
set_option maxRecDepth 20000 in
set_option maxHeartbeats 4000000 in
theorem b_X7_on {l1 : Int32} {l2 : Int32} {m : vM} {P : Int32 → vM → Prop}  (h : wp_X7_on l1 l2 m P) : J_X7_on_0 l1 l2 m P := by
  show vJ mX7_on 2 46 197 none 0 [(0, .ref 163), (1, .int l1), (2, .int l2)] [] 197 SH m (vPi P)
  unfold wp_X7_on at h
  refine vJ.aload_n dX7_on_0 rfl rfl ?_
  refine vJ.iload_n dX7_on_1 rfl rfl ?_
  refine vJ.callV (ci := 7) (Yc := mX7_isRow) (frc := 1) (loc := 22) (as := [.int l1]) dX7_on_2 rfl sh_163 (Nat.le_of_ble_eq_true rfl) rfl ml_RX7_148 im_yX7_isRow se_yX7_isRow co_X7_isRow in_TableSetterModel pl_X7_isRow (Nat.le_of_ble_eq_true rfl) (Nat.le_of_ble_eq_true rfl) (Nat.le_of_ble_eq_true rfl) ?_
  refine Ev.gi (e_X7_isRow  h) (fun r2 m1 h => ?_)
  refine vJ.if_eq (tgt := 25) dX7_on_5 (by decide) (fun hc8 => ?_) (fun hc8 => ?_)
  · replace h := h.1 hc8
    refine vJ.iconst dX7_on_25 ci_m1 ?_
    exact vJ.ireturn dX7_on_26 rfl rfl rfl ⟨rfl, _, rfl, h⟩
  · replace h := h.2 hc8
    refine vJ.aload_n dX7_on_8 rfl rfl ?_
    refine vJ.iload_n dX7_on_9 rfl rfl ?_
    refine vJ.callV (ci := 7) (Yc := mX7_isColumn) (frc := 1) (loc := 22) (as := [.int l2]) dX7_on_10 rfl sh_163 (Nat.le_of_ble_eq_true rfl) rfl ml_RX7_141 im_yX7_isColumn se_yX7_isColumn co_X7_isColumn in_TableSetterModel pl_X7_isColumn (Nat.le_of_ble_eq_true rfl) (Nat.le_of_ble_eq_true rfl) (Nat.le_of_ble_eq_true rfl) ?_
    refine Ev.gi (e_X7_isColumn  h) (fun r4 m3 h => ?_)
    refine vJ.if_eq (tgt := 25) dX7_on_13 (by decide) (fun hc7 => ?_) (fun hc7 => ?_)
    · replace h := h.1 hc7
      refine vJ.iconst dX7_on_25 ci_m1 ?_
      exact vJ.ireturn dX7_on_26 rfl rfl rfl ⟨rfl, _, rfl, h⟩
    · replace h := h.2 hc7
      refine vJ.aload_n dX7_on_16 rfl rfl ?_
      refine vJ.iload_n dX7_on_17 rfl rfl ?_
      refine vJ.iload_n dX7_on_18 rfl rfl ?_
      refine vJ.callV (ci := 7) (Yc := mX7_cellOn) (frc := 1) (loc := 23) (as := [.int l1, .int l2]) dX7_on_19 rfl sh_163 (Nat.le_of_ble_eq_true rfl) rfl ml_RX7_155 im_yX7_cellOn se_yX7_cellOn co_X7_cellOn in_TableSetterModel pl_X7_cellOn (Nat.le_of_ble_eq_true rfl) (Nat.le_of_ble_eq_true rfl) (Nat.le_of_ble_eq_true rfl) ?_
      refine Ev.gi h (fun r6 m5 h => ?_)
      refine vJ.goto (tgt := 26) dX7_on_22 (by decide) ?_
      exact vJ.ireturn dX7_on_26 rfl rfl rfl ⟨rfl, _, rfl, h⟩
def EI_X7_on (l1 : Int32) (l2 : Int32) (m : vM) (P : Int32 → vM → Prop) : Prop := Ev mX7_on 2 46 197 [.ref 163, .int l1, .int l2] 197 SH m (vPi P)
theorem f_X7_on {l1 : Int32} {l2 : Int32} {m : vM} {P : Int32 → vM → Prop} (h : J_X7_on_0 l1 l2 m P) : EI_X7_on l1 l2 m P := Ev.of pn_X7_on (Nat.le_of_ble_eq_true rfl) h
theorem e_X7_on {l1 : Int32} {l2 : Int32} {m : vM} {P : Int32 → vM → Prop}  (h : wp_X7_on l1 l2 m P) : EI_X7_on l1 l2 m P := f_X7_on (b_X7_on  h)
def J_X7_words_0 (l1 : Int32) (l2 : Int32) (m : vM) (P : Int32 → vM → Prop) : Prop := vJ mX7_words 3 65 197 none 0 [(0, .ref 163), (1, .int l1), (2, .int l2)] [] 197 SH m (vPi P)
def J_X7_words_43 (l1 : Int32) (l2 : Int32) (l4 : Int32) (m : vM) (P : Int32 → vM → Prop) : Prop := vJ mX7_words 3 65 197 none 43 [(0, .ref 163), (1, .int l1), (2, .int l2), (4, .int l4)] [] 197 SH m (vPi P)
def wp_X7_words_0 (l1 : Int32) (l2 : Int32) (m : vM) (P : Int32 → vM → Prop) : Prop :=
  (((12 : Int32) < l2 →
    wp_X7_need (0 : Int32) l1 m (fun r2 m1 =>
      (((0 : Int32) ≤ r2 →
        (((0 : Int32) ≤ l2 →
          vp_in l1 40 ∧
          ∀ m4 : vM, m4 = upI m1 173 (Int32.toNatClampNeg l1) l2 →
          J_X7_words_43 l1 l2 (0 : Int32) m4 P) ∧
        (¬ (0 : Int32) ≤ l2 →
          wp_X7_meets (5 : Int32) m1 (fun r6 m5 =>
            P r6 m5)))) ∧
      (¬ (0 : Int32) ≤ r2 →
        P r2 m1)))) ∧
  (¬ (12 : Int32) < l2 →
    wp_X7_need (1 : Int32) l1 m (fun r10 m9 =>
      (((0 : Int32) ≤ r10 →
        (((0 : Int32) ≤ l2 →
          vp_in l1 40 ∧
          ∀ m12 : vM, m12 = upI m9 173 (Int32.toNatClampNeg l1) l2 →
          J_X7_words_43 l1 l2 (0 : Int32) m12 P) ∧
        (¬ (0 : Int32) ≤ l2 →
          wp_X7_meets (5 : Int32) m9 (fun r14 m13 =>
            P r14 m13)))) ∧
      (¬ (0 : Int32) ≤ r10 →
        P r10 m9)))))
set_option maxRecDepth 20000 in
set_option maxHeartbeats 4000000 in
theorem b_X7_words_0 {l1 : Int32} {l2 : Int32} {m : vM} {P : Int32 → vM → Prop}  (h : wp_X7_words_0 l1 l2 m P) : J_X7_words_0 l1 l2 m P := by
  show vJ mX7_words 3 65 197 none 0 [(0, .ref 163), (1, .int l1), (2, .int l2)] [] 197 SH m (vPi P)
  unfold wp_X7_words_0 at h
  refine vJ.aload_n dX7_words_0 rfl rfl ?_
  refine vJ.iload_n dX7_words_1 rfl rfl ?_
  refine vJ.bipush dX7_words_2 cb_12 ?_
  refine vJ.icmp_gt (tgt := 11) dX7_words_4 (by decide) (fun hc17 => ?_) (fun hc17 => ?_)
  · replace h := h.1 hc17
    refine vJ.iconst dX7_words_11 ci_0 ?_
    refine vJ.iload_n dX7_words_12 rfl rfl ?_
    refine vJ.callV (ci := 7) (Yc := mX7_need) (frc := 2) (loc := 43) (as := [.int (0 : Int32), .int l1]) dX7_words_13 rfl sh_163 (Nat.le_of_ble_eq_true rfl) rfl ml_RX7_162 im_yX7_need se_yX7_need co_X7_need in_TableSetterModel pl_X7_need (Nat.le_of_ble_eq_true rfl) (Nat.le_of_ble_eq_true rfl) (Nat.le_of_ble_eq_true rfl) ?_
    refine Ev.gi (e_X7_need  h) (fun r2 m1 h => ?_)
    refine vJ.istore_n (ls2 := [(0, .ref 163), (1, .int l1), (2, .int l2), (3, .int r2)]) dX7_words_16 rfl (Nat.le_of_ble_eq_true rfl) rfl ?_
    refine vJ.iload_n dX7_words_17 rfl rfl ?_
    refine vJ.if_ge (tgt := 23) dX7_words_18 (by decide) (fun hc8 => ?_) (fun hc8 => ?_)
    · replace h := h.1 hc8
      refine vJ.iload_n dX7_words_23 rfl rfl ?_
      refine vJ.if_ge (tgt := 33) dX7_words_24 (by decide) (fun hc7 => ?_) (fun hc7 => ?_)
      · replace h := h.1 hc7
        refine vJ.aload_n dX7_words_33 rfl rfl ?_
        refine vJ.getR (ci := 7) (k := 14) (j := 173) dX7_words_34 sh_163 (Nat.le_of_ble_eq_true rfl) rfl inX7 (Nat.le_of_ble_eq_true rfl) rfl fl_RX7_38 ?_
        refine vJ.iload_n dX7_words_37 rfl rfl ?_
        refine vJ.iload_n dX7_words_38 rfl rfl ?_
        obtain ⟨hb3, h⟩ := h
        refine vJ.iast dX7_words_39 sh_173 (Nat.le_of_ble_eq_true rfl) hb3 ?_
        refine vJ.topm (fun m4 em4 => ?_)
        replace h := h m4 em4
        refine vJ.iconst dX7_words_40 ci_0 ?_
        refine vJ.istore (ls2 := [(0, .ref 163), (1, .int l1), (2, .int l2), (3, .int r2), (4, .int (0 : Int32))]) dX7_words_41 (Nat.le_of_ble_eq_true rfl) rfl ?_
        refine vJ.sub [0, 1, 2, 4] rfl ?_
        exact h
      · replace h := h.2 hc7
        refine vJ.aload_n dX7_words_27 rfl rfl ?_
        refine vJ.iconst dX7_words_28 ci_5 ?_
        refine vJ.callV (ci := 7) (Yc := mX7_meets) (frc := 0) (loc := 0) (as := [.int (5 : Int32)]) dX7_words_29 rfl sh_163 (Nat.le_of_ble_eq_true rfl) rfl ml_RX7_151 im_yX7_meets se_yX7_meets co_X7_meets in_TableSetterModel pl_X7_meets (Nat.le_of_ble_eq_true rfl) (Nat.le_of_ble_eq_true rfl) (Nat.le_of_ble_eq_true rfl) ?_
        refine Ev.gi (e_X7_meets  h) (fun r6 m5 h => ?_)
        exact vJ.ireturn dX7_words_32 rfl rfl rfl ⟨rfl, _, rfl, h⟩
    · replace h := h.2 hc8
      refine vJ.iload_n dX7_words_21 rfl rfl ?_
      exact vJ.ireturn dX7_words_22 rfl rfl rfl ⟨rfl, _, rfl, h⟩
  · replace h := h.2 hc17
    refine vJ.iconst dX7_words_7 ci_1 ?_
    refine vJ.goto (tgt := 12) dX7_words_8 (by decide) ?_
    refine vJ.iload_n dX7_words_12 rfl rfl ?_
    refine vJ.callV (ci := 7) (Yc := mX7_need) (frc := 2) (loc := 43) (as := [.int (1 : Int32), .int l1]) dX7_words_13 rfl sh_163 (Nat.le_of_ble_eq_true rfl) rfl ml_RX7_162 im_yX7_need se_yX7_need co_X7_need in_TableSetterModel pl_X7_need (Nat.le_of_ble_eq_true rfl) (Nat.le_of_ble_eq_true rfl) (Nat.le_of_ble_eq_true rfl) ?_
    refine Ev.gi (e_X7_need  h) (fun r10 m9 h => ?_)
    refine vJ.istore_n (ls2 := [(0, .ref 163), (1, .int l1), (2, .int l2), (3, .int r10)]) dX7_words_16 rfl (Nat.le_of_ble_eq_true rfl) rfl ?_
    refine vJ.iload_n dX7_words_17 rfl rfl ?_
    refine vJ.if_ge (tgt := 23) dX7_words_18 (by decide) (fun hc16 => ?_) (fun hc16 => ?_)
    · replace h := h.1 hc16
      refine vJ.iload_n dX7_words_23 rfl rfl ?_
      refine vJ.if_ge (tgt := 33) dX7_words_24 (by decide) (fun hc15 => ?_) (fun hc15 => ?_)
      · replace h := h.1 hc15
        refine vJ.aload_n dX7_words_33 rfl rfl ?_
        refine vJ.getR (ci := 7) (k := 14) (j := 173) dX7_words_34 sh_163 (Nat.le_of_ble_eq_true rfl) rfl inX7 (Nat.le_of_ble_eq_true rfl) rfl fl_RX7_38 ?_
        refine vJ.iload_n dX7_words_37 rfl rfl ?_
        refine vJ.iload_n dX7_words_38 rfl rfl ?_
        obtain ⟨hb11, h⟩ := h
        refine vJ.iast dX7_words_39 sh_173 (Nat.le_of_ble_eq_true rfl) hb11 ?_
        refine vJ.topm (fun m12 em12 => ?_)
        replace h := h m12 em12
        refine vJ.iconst dX7_words_40 ci_0 ?_
        refine vJ.istore (ls2 := [(0, .ref 163), (1, .int l1), (2, .int l2), (3, .int r10), (4, .int (0 : Int32))]) dX7_words_41 (Nat.le_of_ble_eq_true rfl) rfl ?_
        refine vJ.sub [0, 1, 2, 4] rfl ?_
        exact h
      · replace h := h.2 hc15
        refine vJ.aload_n dX7_words_27 rfl rfl ?_
        refine vJ.iconst dX7_words_28 ci_5 ?_
        refine vJ.callV (ci := 7) (Yc := mX7_meets) (frc := 0) (loc := 0) (as := [.int (5 : Int32)]) dX7_words_29 rfl sh_163 (Nat.le_of_ble_eq_true rfl) rfl ml_RX7_151 im_yX7_meets se_yX7_meets co_X7_meets in_TableSetterModel pl_X7_meets (Nat.le_of_ble_eq_true rfl) (Nat.le_of_ble_eq_true rfl) (Nat.le_of_ble_eq_true rfl) ?_
        refine Ev.gi (e_X7_meets  h) (fun r14 m13 h => ?_)
        exact vJ.ireturn dX7_words_32 rfl rfl rfl ⟨rfl, _, rfl, h⟩
    · replace h := h.2 hc16
      refine vJ.iload_n dX7_words_21 rfl rfl ?_
      exact vJ.ireturn dX7_words_22 rfl rfl rfl ⟨rfl, _, rfl, h⟩
def EI_X7_words (l1 : Int32) (l2 : Int32) (m : vM) (P : Int32 → vM → Prop) : Prop := Ev mX7_words 3 65 197 [.ref 163, .int l1, .int l2] 197 SH m (vPi P)
theorem f_X7_words {l1 : Int32} {l2 : Int32} {m : vM} {P : Int32 → vM → Prop} (h : J_X7_words_0 l1 l2 m P) : EI_X7_words l1 l2 m P := Ev.of pn_X7_words (Nat.le_of_ble_eq_true rfl) h
def wp_X7_words_43 (l1 : Int32) (l2 : Int32) (l4 : Int32) (m : vM) (P : Int32 → vM → Prop) : Prop :=
  ((l2 ≤ l4 →
    P l2 m) ∧
  (¬ l2 ≤ l4 →
    vp_in (((12 : Int32) * l1) + l4) 480 ∧
    ∀ m2 : vM, m2 = upI m 174 (Int32.toNatClampNeg (((12 : Int32) * l1) + l4)) (1 : Int32) →
    J_X7_words_43 l1 l2 (l4 + (1 : Int32)) m2 P))
set_option maxRecDepth 20000 in
set_option maxHeartbeats 4000000 in
theorem b_X7_words_43 {l1 : Int32} {l2 : Int32} {l4 : Int32} {m : vM} {P : Int32 → vM → Prop}  (h : wp_X7_words_43 l1 l2 l4 m P) : J_X7_words_43 l1 l2 l4 m P := by
  show vJ mX7_words 3 65 197 none 43 [(0, .ref 163), (1, .int l1), (2, .int l2), (4, .int l4)] [] 197 SH m (vPi P)
  unfold wp_X7_words_43 at h
  refine vJ.iload dX7_words_43 rfl ?_
  refine vJ.iload_n dX7_words_45 rfl rfl ?_
  refine vJ.icmp_ge (tgt := 68) dX7_words_46 (by decide) (fun hc3 => ?_) (fun hc3 => ?_)
  · replace h := h.1 hc3
    refine vJ.iload_n dX7_words_68 rfl rfl ?_
    exact vJ.ireturn dX7_words_69 rfl rfl rfl ⟨rfl, _, rfl, h⟩
  · replace h := h.2 hc3
    refine vJ.aload_n dX7_words_49 rfl rfl ?_
    refine vJ.getR (ci := 7) (k := 15) (j := 174) dX7_words_50 sh_163 (Nat.le_of_ble_eq_true rfl) rfl inX7 (Nat.le_of_ble_eq_true rfl) rfl fl_RX7_41 ?_
    refine vJ.bipush dX7_words_53 cb_12 ?_
    refine vJ.iload_n dX7_words_55 rfl rfl ?_
    refine vJ.imul dX7_words_56 ?_
    refine vJ.iload dX7_words_57 rfl ?_
    refine vJ.iadd dX7_words_59 ?_
    refine vJ.iconst dX7_words_60 ci_1 ?_
    obtain ⟨hb1, h⟩ := h
    refine vJ.iast dX7_words_61 sh_174 (Nat.le_of_ble_eq_true rfl) hb1 ?_
    refine vJ.topm (fun m2 em2 => ?_)
    replace h := h m2 em2
    refine vJ.iinc (v := l4 + (1 : Int32)) (ls2 := [(0, .ref 163), (1, .int l1), (2, .int l2), (4, .int (l4 + (1 : Int32)))]) dX7_words_62 rfl (congrArg (l4 + ·) ci_1) (Nat.le_of_ble_eq_true rfl) rfl ?_
    refine vJ.goto (tgt := 43) dX7_words_65 (by decide) ?_
    exact h
def J_X7_word_0 (l1 : Int32) (l2 : Int32) (l3 : Int32) (m : vM) (P : Int32 → vM → Prop) : Prop := vJ mX7_word 3 65 197 none 0 [(0, .ref 163), (1, .int l1), (2, .int l2), (3, .int l3)] [] 197 SH m (vPi P)
def wp_X7_word (l1 : Int32) (l2 : Int32) (l3 : Int32) (m : vM) (P : Int32 → vM → Prop) : Prop :=
  wp_X7_in l3 (1 : Int32) (20 : Int32) m (fun r2 m1 =>
    wp_X7_need r2 l1 m1 (fun r4 m3 =>
      (((0 : Int32) ≤ r4 →
        vp_in l1 40 ∧
        wp_X7_in l2 (0 : Int32) ((m3.1 173 (Int32.toNatClampNeg l1)) - (1 : Int32)) m3 (fun r7 m6 =>
          ((r7 = (0 : Int32) →
            wp_X7_meets (2 : Int32) m6 (fun r13 m12 =>
              P r13 m12)) ∧
          (¬ r7 = (0 : Int32) →
            vp_in (((12 : Int32) * l1) + l2) 480 ∧
            ∀ v9 : Int32, v9 = (m6.1 174 (Int32.toNatClampNeg (((12 : Int32) * l1) + l2))) →
            vp_in (((12 : Int32) * l1) + l2) 480 ∧
            ∀ m11 : vM, m11 = upI m6 174 (Int32.toNatClampNeg (((12 : Int32) * l1) + l2)) l3 →
            P v9 m11)))) ∧
      (¬ (0 : Int32) ≤ r4 →
        P r4 m3))))
set_option maxRecDepth 20000 in
set_option maxHeartbeats 4000000 in
theorem b_X7_word {l1 : Int32} {l2 : Int32} {l3 : Int32} {m : vM} {P : Int32 → vM → Prop}  (h : wp_X7_word l1 l2 l3 m P) : J_X7_word_0 l1 l2 l3 m P := by
  show vJ mX7_word 3 65 197 none 0 [(0, .ref 163), (1, .int l1), (2, .int l2), (3, .int l3)] [] 197 SH m (vPi P)
  unfold wp_X7_word at h
  refine vJ.aload_n dX7_word_0 rfl rfl ?_
  refine vJ.iload_n dX7_word_1 rfl rfl ?_
  refine vJ.iconst dX7_word_2 ci_1 ?_
  refine vJ.bipush dX7_word_3 cb_20 ?_
  refine vJ.callS (Yc := mX7_in) (frc := 0) (loc := 0) (as := [.int l3, .int (1 : Int32), .int (20 : Int32)]) dX7_word_5 rfl ml_RX7_119 st_yX7_in co_X7_in in_TableSetterModel pl_X7_in (Nat.le_of_ble_eq_true rfl) (Nat.le_of_ble_eq_true rfl) (Nat.le_of_ble_eq_true rfl) ?_
  refine Ev.gi (e_X7_in  h) (fun r2 m1 h => ?_)
  refine vJ.iload_n dX7_word_8 rfl rfl ?_
  refine vJ.callV (ci := 7) (Yc := mX7_need) (frc := 2) (loc := 43) (as := [.int r2, .int l1]) dX7_word_9 rfl sh_163 (Nat.le_of_ble_eq_true rfl) rfl ml_RX7_162 im_yX7_need se_yX7_need co_X7_need in_TableSetterModel pl_X7_need (Nat.le_of_ble_eq_true rfl) (Nat.le_of_ble_eq_true rfl) (Nat.le_of_ble_eq_true rfl) ?_
  refine Ev.gi (e_X7_need  h) (fun r4 m3 h => ?_)
  refine vJ.istore (ls2 := [(0, .ref 163), (1, .int l1), (2, .int l2), (3, .int l3), (4, .int r4)]) dX7_word_12 (Nat.le_of_ble_eq_true rfl) rfl ?_
  refine vJ.iload dX7_word_14 rfl ?_
  refine vJ.if_ge (tgt := 22) dX7_word_16 (by decide) (fun hc15 => ?_) (fun hc15 => ?_)
  · replace h := h.1 hc15
    refine vJ.iload_n dX7_word_22 rfl rfl ?_
    refine vJ.iconst dX7_word_23 ci_0 ?_
    refine vJ.aload_n dX7_word_24 rfl rfl ?_
    refine vJ.getR (ci := 7) (k := 14) (j := 173) dX7_word_25 sh_163 (Nat.le_of_ble_eq_true rfl) rfl inX7 (Nat.le_of_ble_eq_true rfl) rfl fl_RX7_38 ?_
    refine vJ.iload_n dX7_word_28 rfl rfl ?_
    obtain ⟨hb5, h⟩ := h
    refine vJ.iald dX7_word_29 sh_173 (Nat.le_of_ble_eq_true rfl) hb5 ?_
    refine vJ.iconst dX7_word_30 ci_1 ?_
    refine vJ.isub dX7_word_31 ?_
    refine vJ.callS (Yc := mX7_in) (frc := 0) (loc := 0) (as := [.int l2, .int (0 : Int32), .int ((m3.1 173 (Int32.toNatClampNeg l1)) - (1 : Int32))]) dX7_word_32 rfl ml_RX7_119 st_yX7_in co_X7_in in_TableSetterModel pl_X7_in (Nat.le_of_ble_eq_true rfl) (Nat.le_of_ble_eq_true rfl) (Nat.le_of_ble_eq_true rfl) ?_
    refine Ev.gi (e_X7_in  h) (fun r7 m6 h => ?_)
    refine vJ.if_ne (tgt := 44) dX7_word_35 (by decide) (fun hc14 => ?_) (fun hc14 => ?_)
    · replace h := h.2 hc14
      refine vJ.aload_n dX7_word_44 rfl rfl ?_
      refine vJ.getR (ci := 7) (k := 15) (j := 174) dX7_word_45 sh_163 (Nat.le_of_ble_eq_true rfl) rfl inX7 (Nat.le_of_ble_eq_true rfl) rfl fl_RX7_41 ?_
      refine vJ.bipush dX7_word_48 cb_12 ?_
      refine vJ.iload_n dX7_word_50 rfl rfl ?_
      refine vJ.imul dX7_word_51 ?_
      refine vJ.iload_n dX7_word_52 rfl rfl ?_
      refine vJ.iadd dX7_word_53 ?_
      obtain ⟨hb8, h⟩ := h
      refine vJ.iald dX7_word_54 sh_174 (Nat.le_of_ble_eq_true rfl) hb8 ?_
      refine vJ.topi (fun v9 ev9 => ?_)
      replace h := h v9 ev9
      refine vJ.istore (ls2 := [(0, .ref 163), (1, .int l1), (2, .int l2), (3, .int l3), (4, .int r4), (5, .int v9)]) dX7_word_55 (Nat.le_of_ble_eq_true rfl) rfl ?_
      refine vJ.aload_n dX7_word_57 rfl rfl ?_
      refine vJ.getR (ci := 7) (k := 15) (j := 174) dX7_word_58 sh_163 (Nat.le_of_ble_eq_true rfl) rfl inX7 (Nat.le_of_ble_eq_true rfl) rfl fl_RX7_41 ?_
      refine vJ.bipush dX7_word_61 cb_12 ?_
      refine vJ.iload_n dX7_word_63 rfl rfl ?_
      refine vJ.imul dX7_word_64 ?_
      refine vJ.iload_n dX7_word_65 rfl rfl ?_
      refine vJ.iadd dX7_word_66 ?_
      refine vJ.iload_n dX7_word_67 rfl rfl ?_
      obtain ⟨hb10, h⟩ := h
      refine vJ.iast dX7_word_68 sh_174 (Nat.le_of_ble_eq_true rfl) hb10 ?_
      refine vJ.topm (fun m11 em11 => ?_)
      replace h := h m11 em11
      refine vJ.iload dX7_word_69 rfl ?_
      exact vJ.ireturn dX7_word_71 rfl rfl rfl ⟨rfl, _, rfl, h⟩
    · replace h := h.1 hc14
      refine vJ.aload_n dX7_word_38 rfl rfl ?_
      refine vJ.iconst dX7_word_39 ci_2 ?_
      refine vJ.callV (ci := 7) (Yc := mX7_meets) (frc := 0) (loc := 0) (as := [.int (2 : Int32)]) dX7_word_40 rfl sh_163 (Nat.le_of_ble_eq_true rfl) rfl ml_RX7_151 im_yX7_meets se_yX7_meets co_X7_meets in_TableSetterModel pl_X7_meets (Nat.le_of_ble_eq_true rfl) (Nat.le_of_ble_eq_true rfl) (Nat.le_of_ble_eq_true rfl) ?_
      refine Ev.gi (e_X7_meets  h) (fun r13 m12 h => ?_)
      exact vJ.ireturn dX7_word_43 rfl rfl rfl ⟨rfl, _, rfl, h⟩
  · replace h := h.2 hc15
    refine vJ.iload dX7_word_19 rfl ?_
    exact vJ.ireturn dX7_word_21 rfl rfl rfl ⟨rfl, _, rfl, h⟩
def EI_X7_word (l1 : Int32) (l2 : Int32) (l3 : Int32) (m : vM) (P : Int32 → vM → Prop) : Prop := Ev mX7_word 3 65 197 [.ref 163, .int l1, .int l2, .int l3] 197 SH m (vPi P)
theorem f_X7_word {l1 : Int32} {l2 : Int32} {l3 : Int32} {m : vM} {P : Int32 → vM → Prop} (h : J_X7_word_0 l1 l2 l3 m P) : EI_X7_word l1 l2 l3 m P := Ev.of pn_X7_word (Nat.le_of_ble_eq_true rfl) h
theorem e_X7_word {l1 : Int32} {l2 : Int32} {l3 : Int32} {m : vM} {P : Int32 → vM → Prop}  (h : wp_X7_word l1 l2 l3 m P) : EI_X7_word l1 l2 l3 m P := f_X7_word (b_X7_word  h)
def J_X7_copy_0 (l1 : Int32) (l2 : Int32) (l3 : Int32) (l4 : Int32) (l5 : Int32) (m : vM) (P : Int32 → vM → Prop) : Prop := vJ mX7_copy 2 43 197 none 0 [(0, .ref 163), (1, .int l1), (2, .int l2), (3, .int l3), (4, .int l4), (5, .int l5)] [] 197 SH m (vPi P)
def J_X7_copy_100 (l1 : Int32) (l2 : Int32) (l3 : Int32) (l4 : Int32) (l5 : Int32) (l6 : Int32) (m : vM) (P : Int32 → vM → Prop) : Prop := vJ mX7_copy 2 43 197 none 100 [(0, .ref 163), (1, .int l1), (2, .int l2), (3, .int l3), (4, .int l4), (5, .int l5), (6, .int l6)] [] 197 SH m (vPi P)
def wp_X7_copy_0 (l1 : Int32) (l2 : Int32) (l3 : Int32) (l4 : Int32) (l5 : Int32) (m : vM) (P : Int32 → vM → Prop) : Prop :=
  wp_X7_isCell l1 m (fun r2 m1 =>
    ((r2 = (0 : Int32) →
      P (-1 : Int32) m1) ∧
    (¬ r2 = (0 : Int32) →
      wp_X7_isCell l3 m1 (fun r4 m3 =>
        ((r4 = (0 : Int32) →
          P (-1 : Int32) m3) ∧
        (¬ r4 = (0 : Int32) →
          vp_in l1 40 ∧
          (((m3.1 172 (Int32.toNatClampNeg l1)) = (0 : Int32) →
            vp_in l3 40 ∧
            (((m3.1 172 (Int32.toNatClampNeg l3)) = (0 : Int32) →
              ((l2 < (0 : Int32) →
                wp_X7_meets (2 : Int32) m3 (fun r10 m9 =>
                  P r10 m9)) ∧
              (¬ l2 < (0 : Int32) →
                ((l4 < (0 : Int32) →
                  wp_X7_meets (2 : Int32) m3 (fun r12 m11 =>
                    P r12 m11)) ∧
                (¬ l4 < (0 : Int32) →
                  ((l5 < (0 : Int32) →
                    wp_X7_meets (2 : Int32) m3 (fun r14 m13 =>
                      P r14 m13)) ∧
                  (¬ l5 < (0 : Int32) →
                    vp_in l1 40 ∧
                    (((0 : Int32) < (lg_cmp ((Int32.toInt64 l2) + (Int32.toInt64 l5)) (Int32.toInt64 (m3.1 173 (Int32.toNatClampNeg l1)))) →
                      wp_X7_meets (2 : Int32) m3 (fun r17 m16 =>
                        P r17 m16)) ∧
                    (¬ (0 : Int32) < (lg_cmp ((Int32.toInt64 l2) + (Int32.toInt64 l5)) (Int32.toInt64 (m3.1 173 (Int32.toNatClampNeg l1)))) →
                      vp_in l3 40 ∧
                      (((lg_cmp ((Int32.toInt64 l4) + (Int32.toInt64 l5)) (Int32.toInt64 (m3.1 173 (Int32.toNatClampNeg l3)))) ≤ (0 : Int32) →
                        J_X7_copy_100 l1 l2 l3 l4 l5 (0 : Int32) m3 P) ∧
                      (¬ (lg_cmp ((Int32.toInt64 l4) + (Int32.toInt64 l5)) (Int32.toInt64 (m3.1 173 (Int32.toNatClampNeg l3)))) ≤ (0 : Int32) →
                        wp_X7_meets (2 : Int32) m3 (fun r20 m19 =>
                          P r20 m19)))))))))))) ∧
            (¬ (m3.1 172 (Int32.toNatClampNeg l3)) = (0 : Int32) →
              wp_X7_meets (1 : Int32) m3 (fun r27 m26 =>
                P r27 m26)))) ∧
          (¬ (m3.1 172 (Int32.toNatClampNeg l1)) = (0 : Int32) →
            wp_X7_meets (1 : Int32) m3 (fun r7 m6 =>
              P r7 m6)))))))))
set_option maxRecDepth 20000 in
set_option maxHeartbeats 4000000 in
theorem b_X7_copy_0 {l1 : Int32} {l2 : Int32} {l3 : Int32} {l4 : Int32} {l5 : Int32} {m : vM} {P : Int32 → vM → Prop}  (h : wp_X7_copy_0 l1 l2 l3 l4 l5 m P) : J_X7_copy_0 l1 l2 l3 l4 l5 m P := by
  show vJ mX7_copy 2 43 197 none 0 [(0, .ref 163), (1, .int l1), (2, .int l2), (3, .int l3), (4, .int l4), (5, .int l5)] [] 197 SH m (vPi P)
  unfold wp_X7_copy_0 at h
  refine vJ.aload_n dX7_copy_0 rfl rfl ?_
  refine vJ.iload_n dX7_copy_1 rfl rfl ?_
  refine vJ.callV (ci := 7) (Yc := mX7_isCell) (frc := 1) (loc := 22) (as := [.int l1]) dX7_copy_2 rfl sh_163 (Nat.le_of_ble_eq_true rfl) rfl ml_RX7_159 im_yX7_isCell se_yX7_isCell co_X7_isCell in_TableSetterModel pl_X7_isCell (Nat.le_of_ble_eq_true rfl) (Nat.le_of_ble_eq_true rfl) (Nat.le_of_ble_eq_true rfl) ?_
  refine Ev.gi (e_X7_isCell  h) (fun r2 m1 h => ?_)
  refine vJ.if_eq (tgt := 16) dX7_copy_5 (by decide) (fun hc31 => ?_) (fun hc31 => ?_)
  · replace h := h.1 hc31
    refine vJ.iconst dX7_copy_16 ci_m1 ?_
    exact vJ.ireturn dX7_copy_17 rfl rfl rfl ⟨rfl, _, rfl, h⟩
  · replace h := h.2 hc31
    refine vJ.aload_n dX7_copy_8 rfl rfl ?_
    refine vJ.iload_n dX7_copy_9 rfl rfl ?_
    refine vJ.callV (ci := 7) (Yc := mX7_isCell) (frc := 1) (loc := 22) (as := [.int l3]) dX7_copy_10 rfl sh_163 (Nat.le_of_ble_eq_true rfl) rfl ml_RX7_159 im_yX7_isCell se_yX7_isCell co_X7_isCell in_TableSetterModel pl_X7_isCell (Nat.le_of_ble_eq_true rfl) (Nat.le_of_ble_eq_true rfl) (Nat.le_of_ble_eq_true rfl) ?_
    refine Ev.gi (e_X7_isCell  h) (fun r4 m3 h => ?_)
    refine vJ.if_ne (tgt := 18) dX7_copy_13 (by decide) (fun hc30 => ?_) (fun hc30 => ?_)
    · replace h := h.2 hc30
      refine vJ.aload_n dX7_copy_18 rfl rfl ?_
      refine vJ.getR (ci := 7) (k := 13) (j := 172) dX7_copy_19 sh_163 (Nat.le_of_ble_eq_true rfl) rfl inX7 (Nat.le_of_ble_eq_true rfl) rfl fl_RX7_34 ?_
      refine vJ.iload_n dX7_copy_22 rfl rfl ?_
      obtain ⟨hb5, h⟩ := h
      refine vJ.zald dX7_copy_23 sh_172 (Nat.le_of_ble_eq_true rfl) hb5 ?_
      refine vJ.if_ne (tgt := 36) dX7_copy_24 (by decide) (fun hc29 => ?_) (fun hc29 => ?_)
      · replace h := h.2 hc29
        refine vJ.aload_n dX7_copy_36 rfl rfl ?_
        refine vJ.iconst dX7_copy_37 ci_1 ?_
        refine vJ.callV (ci := 7) (Yc := mX7_meets) (frc := 0) (loc := 0) (as := [.int (1 : Int32)]) dX7_copy_38 rfl sh_163 (Nat.le_of_ble_eq_true rfl) rfl ml_RX7_151 im_yX7_meets se_yX7_meets co_X7_meets in_TableSetterModel pl_X7_meets (Nat.le_of_ble_eq_true rfl) (Nat.le_of_ble_eq_true rfl) (Nat.le_of_ble_eq_true rfl) ?_
        refine Ev.gi (e_X7_meets  h) (fun r7 m6 h => ?_)
        exact vJ.ireturn dX7_copy_41 rfl rfl rfl ⟨rfl, _, rfl, h⟩
      · replace h := h.1 hc29
        refine vJ.aload_n dX7_copy_27 rfl rfl ?_
        refine vJ.getR (ci := 7) (k := 13) (j := 172) dX7_copy_28 sh_163 (Nat.le_of_ble_eq_true rfl) rfl inX7 (Nat.le_of_ble_eq_true rfl) rfl fl_RX7_34 ?_
        refine vJ.iload_n dX7_copy_31 rfl rfl ?_
        obtain ⟨hb8, h⟩ := h
        refine vJ.zald dX7_copy_32 sh_172 (Nat.le_of_ble_eq_true rfl) hb8 ?_
        refine vJ.if_eq (tgt := 42) dX7_copy_33 (by decide) (fun hc28 => ?_) (fun hc28 => ?_)
        · replace h := h.1 hc28
          refine vJ.iload_n dX7_copy_42 rfl rfl ?_
          refine vJ.if_lt (tgt := 91) dX7_copy_43 (by decide) (fun hc25 => ?_) (fun hc25 => ?_)
          · replace h := h.1 hc25
            refine vJ.aload_n dX7_copy_91 rfl rfl ?_
            refine vJ.iconst dX7_copy_92 ci_2 ?_
            refine vJ.callV (ci := 7) (Yc := mX7_meets) (frc := 0) (loc := 0) (as := [.int (2 : Int32)]) dX7_copy_93 rfl sh_163 (Nat.le_of_ble_eq_true rfl) rfl ml_RX7_151 im_yX7_meets se_yX7_meets co_X7_meets in_TableSetterModel pl_X7_meets (Nat.le_of_ble_eq_true rfl) (Nat.le_of_ble_eq_true rfl) (Nat.le_of_ble_eq_true rfl) ?_
            refine Ev.gi (e_X7_meets  h) (fun r10 m9 h => ?_)
            exact vJ.ireturn dX7_copy_96 rfl rfl rfl ⟨rfl, _, rfl, h⟩
          · replace h := h.2 hc25
            refine vJ.iload dX7_copy_46 rfl ?_
            refine vJ.if_lt (tgt := 91) dX7_copy_48 (by decide) (fun hc24 => ?_) (fun hc24 => ?_)
            · replace h := h.1 hc24
              refine vJ.aload_n dX7_copy_91 rfl rfl ?_
              refine vJ.iconst dX7_copy_92 ci_2 ?_
              refine vJ.callV (ci := 7) (Yc := mX7_meets) (frc := 0) (loc := 0) (as := [.int (2 : Int32)]) dX7_copy_93 rfl sh_163 (Nat.le_of_ble_eq_true rfl) rfl ml_RX7_151 im_yX7_meets se_yX7_meets co_X7_meets in_TableSetterModel pl_X7_meets (Nat.le_of_ble_eq_true rfl) (Nat.le_of_ble_eq_true rfl) (Nat.le_of_ble_eq_true rfl) ?_
              refine Ev.gi (e_X7_meets  h) (fun r12 m11 h => ?_)
              exact vJ.ireturn dX7_copy_96 rfl rfl rfl ⟨rfl, _, rfl, h⟩
            · replace h := h.2 hc24
              refine vJ.iload dX7_copy_51 rfl ?_
              refine vJ.if_lt (tgt := 91) dX7_copy_53 (by decide) (fun hc23 => ?_) (fun hc23 => ?_)
              · replace h := h.1 hc23
                refine vJ.aload_n dX7_copy_91 rfl rfl ?_
                refine vJ.iconst dX7_copy_92 ci_2 ?_
                refine vJ.callV (ci := 7) (Yc := mX7_meets) (frc := 0) (loc := 0) (as := [.int (2 : Int32)]) dX7_copy_93 rfl sh_163 (Nat.le_of_ble_eq_true rfl) rfl ml_RX7_151 im_yX7_meets se_yX7_meets co_X7_meets in_TableSetterModel pl_X7_meets (Nat.le_of_ble_eq_true rfl) (Nat.le_of_ble_eq_true rfl) (Nat.le_of_ble_eq_true rfl) ?_
                refine Ev.gi (e_X7_meets  h) (fun r14 m13 h => ?_)
                exact vJ.ireturn dX7_copy_96 rfl rfl rfl ⟨rfl, _, rfl, h⟩
              · replace h := h.2 hc23
                refine vJ.iload_n dX7_copy_56 rfl rfl ?_
                refine vJ.i2l dX7_copy_57 ?_
                refine vJ.iload dX7_copy_58 rfl ?_
                refine vJ.i2l dX7_copy_60 ?_
                refine vJ.ladd dX7_copy_61 ?_
                refine vJ.aload_n dX7_copy_62 rfl rfl ?_
                refine vJ.getR (ci := 7) (k := 14) (j := 173) dX7_copy_63 sh_163 (Nat.le_of_ble_eq_true rfl) rfl inX7 (Nat.le_of_ble_eq_true rfl) rfl fl_RX7_38 ?_
                refine vJ.iload_n dX7_copy_66 rfl rfl ?_
                obtain ⟨hb15, h⟩ := h
                refine vJ.iald dX7_copy_67 sh_173 (Nat.le_of_ble_eq_true rfl) hb15 ?_
                refine vJ.i2l dX7_copy_68 ?_
                refine vJ.lcmp dX7_copy_69 ?_
                refine vJ.if_gt (tgt := 91) dX7_copy_70 (by decide) (fun hc22 => ?_) (fun hc22 => ?_)
                · replace h := h.1 hc22
                  refine vJ.aload_n dX7_copy_91 rfl rfl ?_
                  refine vJ.iconst dX7_copy_92 ci_2 ?_
                  refine vJ.callV (ci := 7) (Yc := mX7_meets) (frc := 0) (loc := 0) (as := [.int (2 : Int32)]) dX7_copy_93 rfl sh_163 (Nat.le_of_ble_eq_true rfl) rfl ml_RX7_151 im_yX7_meets se_yX7_meets co_X7_meets in_TableSetterModel pl_X7_meets (Nat.le_of_ble_eq_true rfl) (Nat.le_of_ble_eq_true rfl) (Nat.le_of_ble_eq_true rfl) ?_
                  refine Ev.gi (e_X7_meets  h) (fun r17 m16 h => ?_)
                  exact vJ.ireturn dX7_copy_96 rfl rfl rfl ⟨rfl, _, rfl, h⟩
                · replace h := h.2 hc22
                  refine vJ.iload dX7_copy_73 rfl ?_
                  refine vJ.i2l dX7_copy_75 ?_
                  refine vJ.iload dX7_copy_76 rfl ?_
                  refine vJ.i2l dX7_copy_78 ?_
                  refine vJ.ladd dX7_copy_79 ?_
                  refine vJ.aload_n dX7_copy_80 rfl rfl ?_
                  refine vJ.getR (ci := 7) (k := 14) (j := 173) dX7_copy_81 sh_163 (Nat.le_of_ble_eq_true rfl) rfl inX7 (Nat.le_of_ble_eq_true rfl) rfl fl_RX7_38 ?_
                  refine vJ.iload_n dX7_copy_84 rfl rfl ?_
                  obtain ⟨hb18, h⟩ := h
                  refine vJ.iald dX7_copy_85 sh_173 (Nat.le_of_ble_eq_true rfl) hb18 ?_
                  refine vJ.i2l dX7_copy_86 ?_
                  refine vJ.lcmp dX7_copy_87 ?_
                  refine vJ.if_le (tgt := 97) dX7_copy_88 (by decide) (fun hc21 => ?_) (fun hc21 => ?_)
                  · replace h := h.1 hc21
                    refine vJ.iconst dX7_copy_97 ci_0 ?_
                    refine vJ.istore (ls2 := [(0, .ref 163), (1, .int l1), (2, .int l2), (3, .int l3), (4, .int l4), (5, .int l5), (6, .int (0 : Int32))]) dX7_copy_98 (Nat.le_of_ble_eq_true rfl) rfl ?_
                    exact h
                  · replace h := h.2 hc21
                    refine vJ.aload_n dX7_copy_91 rfl rfl ?_
                    refine vJ.iconst dX7_copy_92 ci_2 ?_
                    refine vJ.callV (ci := 7) (Yc := mX7_meets) (frc := 0) (loc := 0) (as := [.int (2 : Int32)]) dX7_copy_93 rfl sh_163 (Nat.le_of_ble_eq_true rfl) rfl ml_RX7_151 im_yX7_meets se_yX7_meets co_X7_meets in_TableSetterModel pl_X7_meets (Nat.le_of_ble_eq_true rfl) (Nat.le_of_ble_eq_true rfl) (Nat.le_of_ble_eq_true rfl) ?_
                    refine Ev.gi (e_X7_meets  h) (fun r20 m19 h => ?_)
                    exact vJ.ireturn dX7_copy_96 rfl rfl rfl ⟨rfl, _, rfl, h⟩
        · replace h := h.2 hc28
          refine vJ.aload_n dX7_copy_36 rfl rfl ?_
          refine vJ.iconst dX7_copy_37 ci_1 ?_
          refine vJ.callV (ci := 7) (Yc := mX7_meets) (frc := 0) (loc := 0) (as := [.int (1 : Int32)]) dX7_copy_38 rfl sh_163 (Nat.le_of_ble_eq_true rfl) rfl ml_RX7_151 im_yX7_meets se_yX7_meets co_X7_meets in_TableSetterModel pl_X7_meets (Nat.le_of_ble_eq_true rfl) (Nat.le_of_ble_eq_true rfl) (Nat.le_of_ble_eq_true rfl) ?_
          refine Ev.gi (e_X7_meets  h) (fun r27 m26 h => ?_)
          exact vJ.ireturn dX7_copy_41 rfl rfl rfl ⟨rfl, _, rfl, h⟩
    · replace h := h.1 hc30
      refine vJ.iconst dX7_copy_16 ci_m1 ?_
      exact vJ.ireturn dX7_copy_17 rfl rfl rfl ⟨rfl, _, rfl, h⟩
def EI_X7_copy (l1 : Int32) (l2 : Int32) (l3 : Int32) (l4 : Int32) (l5 : Int32) (m : vM) (P : Int32 → vM → Prop) : Prop := Ev mX7_copy 2 43 197 [.ref 163, .int l1, .int l2, .int l3, .int l4, .int l5] 197 SH m (vPi P)
theorem f_X7_copy {l1 : Int32} {l2 : Int32} {l3 : Int32} {l4 : Int32} {l5 : Int32} {m : vM} {P : Int32 → vM → Prop} (h : J_X7_copy_0 l1 l2 l3 l4 l5 m P) : EI_X7_copy l1 l2 l3 l4 l5 m P := Ev.of pn_X7_copy (Nat.le_of_ble_eq_true rfl) h
def J_X7_copy_137 (l3 : Int32) (l4 : Int32) (l5 : Int32) (l6 : Int32) (m : vM) (P : Int32 → vM → Prop) : Prop := vJ mX7_copy 2 43 197 none 137 [(0, .ref 163), (3, .int l3), (4, .int l4), (5, .int l5), (6, .int l6)] [] 197 SH m (vPi P)
def wp_X7_copy_100 (l1 : Int32) (l2 : Int32) (l3 : Int32) (l4 : Int32) (l5 : Int32) (l6 : Int32) (m : vM) (P : Int32 → vM → Prop) : Prop :=
  ((l5 ≤ l6 →
    J_X7_copy_137 l3 l4 l5 (0 : Int32) m P) ∧
  (¬ l5 ≤ l6 →
    vp_in ((((12 : Int32) * l1) + l2) + l6) 480 ∧
    vp_in l6 12 ∧
    ∀ m3 : vM, m3 = upI m 177 (Int32.toNatClampNeg l6) (m.1 174 (Int32.toNatClampNeg ((((12 : Int32) * l1) + l2) + l6))) →
    J_X7_copy_100 l1 l2 l3 l4 l5 (l6 + (1 : Int32)) m3 P))
set_option maxRecDepth 20000 in
set_option maxHeartbeats 4000000 in
theorem b_X7_copy_100 {l1 : Int32} {l2 : Int32} {l3 : Int32} {l4 : Int32} {l5 : Int32} {l6 : Int32} {m : vM} {P : Int32 → vM → Prop}  (h : wp_X7_copy_100 l1 l2 l3 l4 l5 l6 m P) : J_X7_copy_100 l1 l2 l3 l4 l5 l6 m P := by
  show vJ mX7_copy 2 43 197 none 100 [(0, .ref 163), (1, .int l1), (2, .int l2), (3, .int l3), (4, .int l4), (5, .int l5), (6, .int l6)] [] 197 SH m (vPi P)
  unfold wp_X7_copy_100 at h
  refine vJ.iload dX7_copy_100 rfl ?_
  refine vJ.iload dX7_copy_102 rfl ?_
  refine vJ.icmp_ge (tgt := 134) dX7_copy_104 (by decide) (fun hc4 => ?_) (fun hc4 => ?_)
  · replace h := h.1 hc4
    refine vJ.iconst dX7_copy_134 ci_0 ?_
    refine vJ.istore (ls2 := [(0, .ref 163), (1, .int l1), (2, .int l2), (3, .int l3), (4, .int l4), (5, .int l5), (6, .int (0 : Int32))]) dX7_copy_135 (Nat.le_of_ble_eq_true rfl) rfl ?_
    refine vJ.sub [0, 3, 4, 5, 6] rfl ?_
    exact h
  · replace h := h.2 hc4
    refine vJ.aload_n dX7_copy_107 rfl rfl ?_
    refine vJ.getR (ci := 7) (k := 19) (j := 177) dX7_copy_108 sh_163 (Nat.le_of_ble_eq_true rfl) rfl inX7 (Nat.le_of_ble_eq_true rfl) rfl fl_RX7_50 ?_
    refine vJ.iload dX7_copy_111 rfl ?_
    refine vJ.aload_n dX7_copy_113 rfl rfl ?_
    refine vJ.getR (ci := 7) (k := 15) (j := 174) dX7_copy_114 sh_163 (Nat.le_of_ble_eq_true rfl) rfl inX7 (Nat.le_of_ble_eq_true rfl) rfl fl_RX7_41 ?_
    refine vJ.bipush dX7_copy_117 cb_12 ?_
    refine vJ.iload_n dX7_copy_119 rfl rfl ?_
    refine vJ.imul dX7_copy_120 ?_
    refine vJ.iload_n dX7_copy_121 rfl rfl ?_
    refine vJ.iadd dX7_copy_122 ?_
    refine vJ.iload dX7_copy_123 rfl ?_
    refine vJ.iadd dX7_copy_125 ?_
    obtain ⟨hb1, h⟩ := h
    refine vJ.iald dX7_copy_126 sh_174 (Nat.le_of_ble_eq_true rfl) hb1 ?_
    obtain ⟨hb2, h⟩ := h
    refine vJ.iast dX7_copy_127 sh_177 (Nat.le_of_ble_eq_true rfl) hb2 ?_
    refine vJ.topm (fun m3 em3 => ?_)
    replace h := h m3 em3
    refine vJ.iinc (v := l6 + (1 : Int32)) (ls2 := [(0, .ref 163), (1, .int l1), (2, .int l2), (3, .int l3), (4, .int l4), (5, .int l5), (6, .int (l6 + (1 : Int32)))]) dX7_copy_128 rfl (congrArg (l6 + ·) ci_1) (Nat.le_of_ble_eq_true rfl) rfl ?_
    refine vJ.goto (tgt := 100) dX7_copy_131 (by decide) ?_
    exact h
def wp_X7_copy_137 (l3 : Int32) (l4 : Int32) (l5 : Int32) (l6 : Int32) (m : vM) (P : Int32 → vM → Prop) : Prop :=
  ((l5 ≤ l6 →
    P (1 : Int32) m) ∧
  (¬ l5 ≤ l6 →
    vp_in l6 12 ∧
    vp_in ((((12 : Int32) * l3) + l4) + l6) 480 ∧
    ∀ m3 : vM, m3 = upI m 174 (Int32.toNatClampNeg ((((12 : Int32) * l3) + l4) + l6)) (m.1 177 (Int32.toNatClampNeg l6)) →
    J_X7_copy_137 l3 l4 l5 (l6 + (1 : Int32)) m3 P))
set_option maxRecDepth 20000 in
set_option maxHeartbeats 4000000 in
theorem b_X7_copy_137 {l3 : Int32} {l4 : Int32} {l5 : Int32} {l6 : Int32} {m : vM} {P : Int32 → vM → Prop}  (h : wp_X7_copy_137 l3 l4 l5 l6 m P) : J_X7_copy_137 l3 l4 l5 l6 m P := by
  show vJ mX7_copy 2 43 197 none 137 [(0, .ref 163), (3, .int l3), (4, .int l4), (5, .int l5), (6, .int l6)] [] 197 SH m (vPi P)
  unfold wp_X7_copy_137 at h
  refine vJ.iload dX7_copy_137 rfl ?_
  refine vJ.iload dX7_copy_139 rfl ?_
  refine vJ.icmp_ge (tgt := 172) dX7_copy_141 (by decide) (fun hc4 => ?_) (fun hc4 => ?_)
  · replace h := h.1 hc4
    refine vJ.iconst dX7_copy_172 ci_1 ?_
    exact vJ.ireturn dX7_copy_173 rfl rfl rfl ⟨rfl, _, rfl, h⟩
  · replace h := h.2 hc4
    refine vJ.aload_n dX7_copy_144 rfl rfl ?_
    refine vJ.getR (ci := 7) (k := 15) (j := 174) dX7_copy_145 sh_163 (Nat.le_of_ble_eq_true rfl) rfl inX7 (Nat.le_of_ble_eq_true rfl) rfl fl_RX7_41 ?_
    refine vJ.bipush dX7_copy_148 cb_12 ?_
    refine vJ.iload_n dX7_copy_150 rfl rfl ?_
    refine vJ.imul dX7_copy_151 ?_
    refine vJ.iload dX7_copy_152 rfl ?_
    refine vJ.iadd dX7_copy_154 ?_
    refine vJ.iload dX7_copy_155 rfl ?_
    refine vJ.iadd dX7_copy_157 ?_
    refine vJ.aload_n dX7_copy_158 rfl rfl ?_
    refine vJ.getR (ci := 7) (k := 19) (j := 177) dX7_copy_159 sh_163 (Nat.le_of_ble_eq_true rfl) rfl inX7 (Nat.le_of_ble_eq_true rfl) rfl fl_RX7_50 ?_
    refine vJ.iload dX7_copy_162 rfl ?_
    obtain ⟨hb1, h⟩ := h
    refine vJ.iald dX7_copy_164 sh_177 (Nat.le_of_ble_eq_true rfl) hb1 ?_
    obtain ⟨hb2, h⟩ := h
    refine vJ.iast dX7_copy_165 sh_174 (Nat.le_of_ble_eq_true rfl) hb2 ?_
    refine vJ.topm (fun m3 em3 => ?_)
    replace h := h m3 em3
    refine vJ.iinc (v := l6 + (1 : Int32)) (ls2 := [(0, .ref 163), (3, .int l3), (4, .int l4), (5, .int l5), (6, .int (l6 + (1 : Int32)))]) dX7_copy_166 rfl (congrArg (l6 + ·) ci_1) (Nat.le_of_ble_eq_true rfl) rfl ?_
    refine vJ.goto (tgt := 137) dX7_copy_169 (by decide) ?_
    exact h
def J_X7_lettersOf_0 (l1 : Int32) (m : vM) (P : Int32 → vM → Prop) : Prop := vJ mX7_lettersOf 0 0 197 none 0 [(0, .ref 163), (1, .int l1)] [] 197 SH m (vPi P)
def J_X7_lettersOf_4 (l1 : Int32) (l2 : Int32) (l3 : Int32) (m : vM) (P : Int32 → vM → Prop) : Prop := vJ mX7_lettersOf 0 0 197 none 4 [(0, .ref 163), (1, .int l1), (2, .int l2), (3, .int l3)] [] 197 SH m (vPi P)
def wp_X7_lettersOf_0 (l1 : Int32) (m : vM) (P : Int32 → vM → Prop) : Prop :=
  J_X7_lettersOf_4 l1 (0 : Int32) (0 : Int32) m P
set_option maxRecDepth 20000 in
set_option maxHeartbeats 4000000 in
theorem b_X7_lettersOf_0 {l1 : Int32} {m : vM} {P : Int32 → vM → Prop}  (h : wp_X7_lettersOf_0 l1 m P) : J_X7_lettersOf_0 l1 m P := by
  show vJ mX7_lettersOf 0 0 197 none 0 [(0, .ref 163), (1, .int l1)] [] 197 SH m (vPi P)
  unfold wp_X7_lettersOf_0 at h
  refine vJ.iconst dX7_lettersOf_0 ci_0 ?_
  refine vJ.istore_n (ls2 := [(0, .ref 163), (1, .int l1), (2, .int (0 : Int32))]) dX7_lettersOf_1 rfl (Nat.le_of_ble_eq_true rfl) rfl ?_
  refine vJ.iconst dX7_lettersOf_2 ci_0 ?_
  refine vJ.istore_n (ls2 := [(0, .ref 163), (1, .int l1), (2, .int (0 : Int32)), (3, .int (0 : Int32))]) dX7_lettersOf_3 rfl (Nat.le_of_ble_eq_true rfl) rfl ?_
  exact h
def EI_X7_lettersOf (l1 : Int32) (m : vM) (P : Int32 → vM → Prop) : Prop := Ev mX7_lettersOf 0 0 197 [.ref 163, .int l1] 197 SH m (vPi P)
theorem f_X7_lettersOf {l1 : Int32} {m : vM} {P : Int32 → vM → Prop} (h : J_X7_lettersOf_0 l1 m P) : EI_X7_lettersOf l1 m P := Ev.of pn_X7_lettersOf (Nat.le_of_ble_eq_true rfl) h
def wp_X7_lettersOf_4 (l1 : Int32) (l2 : Int32) (l3 : Int32) (m : vM) (P : Int32 → vM → Prop) : Prop :=
  vp_in l1 40 ∧
  (((m.1 173 (Int32.toNatClampNeg l1)) ≤ l3 →
    P l2 m) ∧
  (¬ (m.1 173 (Int32.toNatClampNeg l1)) ≤ l3 →
    vp_in (((12 : Int32) * l1) + l3) 480 ∧
    ∀ v3 : Int32, v3 = (l2 + (m.1 174 (Int32.toNatClampNeg (((12 : Int32) * l1) + l3)))) →
    J_X7_lettersOf_4 l1 v3 (l3 + (1 : Int32)) m P))
set_option maxRecDepth 20000 in
set_option maxHeartbeats 4000000 in
theorem b_X7_lettersOf_4 {l1 : Int32} {l2 : Int32} {l3 : Int32} {m : vM} {P : Int32 → vM → Prop}  (h : wp_X7_lettersOf_4 l1 l2 l3 m P) : J_X7_lettersOf_4 l1 l2 l3 m P := by
  show vJ mX7_lettersOf 0 0 197 none 4 [(0, .ref 163), (1, .int l1), (2, .int l2), (3, .int l3)] [] 197 SH m (vPi P)
  unfold wp_X7_lettersOf_4 at h
  refine vJ.iload_n dX7_lettersOf_4 rfl rfl ?_
  refine vJ.aload_n dX7_lettersOf_5 rfl rfl ?_
  refine vJ.getR (ci := 7) (k := 14) (j := 173) dX7_lettersOf_6 sh_163 (Nat.le_of_ble_eq_true rfl) rfl inX7 (Nat.le_of_ble_eq_true rfl) rfl fl_RX7_38 ?_
  refine vJ.iload_n dX7_lettersOf_9 rfl rfl ?_
  obtain ⟨hb1, h⟩ := h
  refine vJ.iald dX7_lettersOf_10 sh_173 (Nat.le_of_ble_eq_true rfl) hb1 ?_
  refine vJ.icmp_ge (tgt := 34) dX7_lettersOf_11 (by decide) (fun hc4 => ?_) (fun hc4 => ?_)
  · replace h := h.1 hc4
    refine vJ.iload_n dX7_lettersOf_34 rfl rfl ?_
    exact vJ.ireturn dX7_lettersOf_35 rfl rfl rfl ⟨rfl, _, rfl, h⟩
  · replace h := h.2 hc4
    refine vJ.iload_n dX7_lettersOf_14 rfl rfl ?_
    refine vJ.aload_n dX7_lettersOf_15 rfl rfl ?_
    refine vJ.getR (ci := 7) (k := 15) (j := 174) dX7_lettersOf_16 sh_163 (Nat.le_of_ble_eq_true rfl) rfl inX7 (Nat.le_of_ble_eq_true rfl) rfl fl_RX7_41 ?_
    refine vJ.bipush dX7_lettersOf_19 cb_12 ?_
    refine vJ.iload_n dX7_lettersOf_21 rfl rfl ?_
    refine vJ.imul dX7_lettersOf_22 ?_
    refine vJ.iload_n dX7_lettersOf_23 rfl rfl ?_
    refine vJ.iadd dX7_lettersOf_24 ?_
    obtain ⟨hb2, h⟩ := h
    refine vJ.iald dX7_lettersOf_25 sh_174 (Nat.le_of_ble_eq_true rfl) hb2 ?_
    refine vJ.iadd dX7_lettersOf_26 ?_
    refine vJ.topi (fun v3 ev3 => ?_)
    replace h := h v3 ev3
    refine vJ.istore_n (ls2 := [(0, .ref 163), (1, .int l1), (2, .int v3), (3, .int l3)]) dX7_lettersOf_27 rfl (Nat.le_of_ble_eq_true rfl) rfl ?_
    refine vJ.iinc (v := l3 + (1 : Int32)) (ls2 := [(0, .ref 163), (1, .int l1), (2, .int v3), (3, .int (l3 + (1 : Int32)))]) dX7_lettersOf_28 rfl (congrArg (l3 + ·) ci_1) (Nat.le_of_ble_eq_true rfl) rfl ?_
    refine vJ.goto (tgt := 4) dX7_lettersOf_31 (by decide) ?_
    exact h
def J_X7_mean_0 (l1 : Int32) (m : vM) (P : Int32 → vM → Prop) : Prop := vJ mX7_mean 3 65 197 none 0 [(0, .ref 163), (1, .int l1)] [] 197 SH m (vPi P)
def wp_X7_mean (l1 : Int32) (m : vM) (P : Int32 → vM → Prop) : Prop :=
  wp_X7_need (1 : Int32) l1 m (fun r2 m1 =>
    (((0 : Int32) ≤ r2 →
      vp_in l1 40 ∧
      (((m1.1 173 (Int32.toNatClampNeg l1)) = (0 : Int32) →
        wp_X7_meets (4 : Int32) m1 (fun r9 m8 =>
          P r9 m8)) ∧
      (¬ (m1.1 173 (Int32.toNatClampNeg l1)) = (0 : Int32) →
        EI_X7_lettersOf l1 m1 (fun r5 m4 =>
          vp_in l1 40 ∧
          (¬ (m4.1 173 (Int32.toNatClampNeg l1)) = 0) ∧
          P (r5 / (m4.1 173 (Int32.toNatClampNeg l1))) m4)))) ∧
    (¬ (0 : Int32) ≤ r2 →
      P r2 m1)))
set_option maxRecDepth 20000 in
set_option maxHeartbeats 4000000 in
theorem b_X7_mean {l1 : Int32} {m : vM} {P : Int32 → vM → Prop}  (h : wp_X7_mean l1 m P) : J_X7_mean_0 l1 m P := by
  show vJ mX7_mean 3 65 197 none 0 [(0, .ref 163), (1, .int l1)] [] 197 SH m (vPi P)
  unfold wp_X7_mean at h
  refine vJ.aload_n dX7_mean_0 rfl rfl ?_
  refine vJ.iconst dX7_mean_1 ci_1 ?_
  refine vJ.iload_n dX7_mean_2 rfl rfl ?_
  refine vJ.callV (ci := 7) (Yc := mX7_need) (frc := 2) (loc := 43) (as := [.int (1 : Int32), .int l1]) dX7_mean_3 rfl sh_163 (Nat.le_of_ble_eq_true rfl) rfl ml_RX7_162 im_yX7_need se_yX7_need co_X7_need in_TableSetterModel pl_X7_need (Nat.le_of_ble_eq_true rfl) (Nat.le_of_ble_eq_true rfl) (Nat.le_of_ble_eq_true rfl) ?_
  refine Ev.gi (e_X7_need  h) (fun r2 m1 h => ?_)
  refine vJ.istore_n (ls2 := [(0, .ref 163), (1, .int l1), (2, .int r2)]) dX7_mean_6 rfl (Nat.le_of_ble_eq_true rfl) rfl ?_
  refine vJ.iload_n dX7_mean_7 rfl rfl ?_
  refine vJ.if_ge (tgt := 13) dX7_mean_8 (by decide) (fun hc11 => ?_) (fun hc11 => ?_)
  · replace h := h.1 hc11
    refine vJ.aload_n dX7_mean_13 rfl rfl ?_
    refine vJ.getR (ci := 7) (k := 14) (j := 173) dX7_mean_14 sh_163 (Nat.le_of_ble_eq_true rfl) rfl inX7 (Nat.le_of_ble_eq_true rfl) rfl fl_RX7_38 ?_
    refine vJ.iload_n dX7_mean_17 rfl rfl ?_
    obtain ⟨hb3, h⟩ := h
    refine vJ.iald dX7_mean_18 sh_173 (Nat.le_of_ble_eq_true rfl) hb3 ?_
    refine vJ.if_ne (tgt := 30) dX7_mean_19 (by decide) (fun hc10 => ?_) (fun hc10 => ?_)
    · replace h := h.2 hc10
      refine vJ.aload_n dX7_mean_30 rfl rfl ?_
      refine vJ.iload_n dX7_mean_31 rfl rfl ?_
      refine vJ.callV (ci := 7) (Yc := mX7_lettersOf) (frc := 0) (loc := 0) (as := [.int l1]) dX7_mean_32 rfl sh_163 (Nat.le_of_ble_eq_true rfl) rfl ml_RX7_169 im_yX7_lettersOf se_yX7_lettersOf co_X7_lettersOf in_TableSetterModel pl_X7_lettersOf (Nat.le_of_ble_eq_true rfl) (Nat.le_of_ble_eq_true rfl) (Nat.le_of_ble_eq_true rfl) ?_
      refine Ev.gi h (fun r5 m4 h => ?_)
      refine vJ.aload_n dX7_mean_35 rfl rfl ?_
      refine vJ.getR (ci := 7) (k := 14) (j := 173) dX7_mean_36 sh_163 (Nat.le_of_ble_eq_true rfl) rfl inX7 (Nat.le_of_ble_eq_true rfl) rfl fl_RX7_38 ?_
      refine vJ.iload_n dX7_mean_39 rfl rfl ?_
      obtain ⟨hb6, h⟩ := h
      refine vJ.iald dX7_mean_40 sh_173 (Nat.le_of_ble_eq_true rfl) hb6 ?_
      obtain ⟨hz7, h⟩ := h
      refine vJ.idiv dX7_mean_41 hz7 ?_
      exact vJ.ireturn dX7_mean_42 rfl rfl rfl ⟨rfl, _, rfl, h⟩
    · replace h := h.1 hc10
      refine vJ.aload_n dX7_mean_22 rfl rfl ?_
      refine vJ.iconst dX7_mean_23 ci_4 ?_
      refine vJ.callV (ci := 7) (Yc := mX7_meets) (frc := 0) (loc := 0) (as := [.int (4 : Int32)]) dX7_mean_24 rfl sh_163 (Nat.le_of_ble_eq_true rfl) rfl ml_RX7_151 im_yX7_meets se_yX7_meets co_X7_meets in_TableSetterModel pl_X7_meets (Nat.le_of_ble_eq_true rfl) (Nat.le_of_ble_eq_true rfl) (Nat.le_of_ble_eq_true rfl) ?_
      refine Ev.gi (e_X7_meets  h) (fun r9 m8 h => ?_)
      refine vJ.goto (tgt := 42) dX7_mean_27 (by decide) ?_
      exact vJ.ireturn dX7_mean_42 rfl rfl rfl ⟨rfl, _, rfl, h⟩
  · replace h := h.2 hc11
    refine vJ.iload_n dX7_mean_11 rfl rfl ?_
    exact vJ.ireturn dX7_mean_12 rfl rfl rfl ⟨rfl, _, rfl, h⟩
def EI_X7_mean (l1 : Int32) (m : vM) (P : Int32 → vM → Prop) : Prop := Ev mX7_mean 3 65 197 [.ref 163, .int l1] 197 SH m (vPi P)
theorem f_X7_mean {l1 : Int32} {m : vM} {P : Int32 → vM → Prop} (h : J_X7_mean_0 l1 m P) : EI_X7_mean l1 m P := Ev.of pn_X7_mean (Nat.le_of_ble_eq_true rfl) h
theorem e_X7_mean {l1 : Int32} {m : vM} {P : Int32 → vM → Prop}  (h : wp_X7_mean l1 m P) : EI_X7_mean l1 m P := f_X7_mean (b_X7_mean  h)
def J_X7_calls_0 (l1 : Int32) (l2 : Int32) (m : vM) (P : Int32 → vM → Prop) : Prop := vJ mX7_calls 3 65 197 none 0 [(0, .ref 163), (1, .int l1), (2, .int l2)] [] 197 SH m (vPi P)
def wp_X7_calls (l1 : Int32) (l2 : Int32) (m : vM) (P : Int32 → vM → Prop) : Prop :=
  wp_X7_in l2 (0 : Int32) (1023 : Int32) m (fun r2 m1 =>
    wp_X7_need r2 l1 m1 (fun r4 m3 =>
      (((0 : Int32) ≤ r4 →
        vp_in l1 40 ∧
        ∀ v6 : Int32, v6 = (m3.1 175 (Int32.toNatClampNeg l1)) →
        vp_in l1 40 ∧
        ∀ m8 : vM, m8 = upI m3 175 (Int32.toNatClampNeg l1) l2 →
        P v6 m8) ∧
      (¬ (0 : Int32) ≤ r4 →
        P r4 m3))))
set_option maxRecDepth 20000 in
set_option maxHeartbeats 4000000 in
theorem b_X7_calls {l1 : Int32} {l2 : Int32} {m : vM} {P : Int32 → vM → Prop}  (h : wp_X7_calls l1 l2 m P) : J_X7_calls_0 l1 l2 m P := by
  show vJ mX7_calls 3 65 197 none 0 [(0, .ref 163), (1, .int l1), (2, .int l2)] [] 197 SH m (vPi P)
  unfold wp_X7_calls at h
  refine vJ.aload_n dX7_calls_0 rfl rfl ?_
  refine vJ.iload_n dX7_calls_1 rfl rfl ?_
  refine vJ.iconst dX7_calls_2 ci_0 ?_
  refine vJ.sipush dX7_calls_3 cs_1023 ?_
  refine vJ.callS (Yc := mX7_in) (frc := 0) (loc := 0) (as := [.int l2, .int (0 : Int32), .int (1023 : Int32)]) dX7_calls_6 rfl ml_RX7_119 st_yX7_in co_X7_in in_TableSetterModel pl_X7_in (Nat.le_of_ble_eq_true rfl) (Nat.le_of_ble_eq_true rfl) (Nat.le_of_ble_eq_true rfl) ?_
  refine Ev.gi (e_X7_in  h) (fun r2 m1 h => ?_)
  refine vJ.iload_n dX7_calls_9 rfl rfl ?_
  refine vJ.callV (ci := 7) (Yc := mX7_need) (frc := 2) (loc := 43) (as := [.int r2, .int l1]) dX7_calls_10 rfl sh_163 (Nat.le_of_ble_eq_true rfl) rfl ml_RX7_162 im_yX7_need se_yX7_need co_X7_need in_TableSetterModel pl_X7_need (Nat.le_of_ble_eq_true rfl) (Nat.le_of_ble_eq_true rfl) (Nat.le_of_ble_eq_true rfl) ?_
  refine Ev.gi (e_X7_need  h) (fun r4 m3 h => ?_)
  refine vJ.istore_n (ls2 := [(0, .ref 163), (1, .int l1), (2, .int l2), (3, .int r4)]) dX7_calls_13 rfl (Nat.le_of_ble_eq_true rfl) rfl ?_
  refine vJ.iload_n dX7_calls_14 rfl rfl ?_
  refine vJ.if_ge (tgt := 20) dX7_calls_15 (by decide) (fun hc9 => ?_) (fun hc9 => ?_)
  · replace h := h.1 hc9
    refine vJ.aload_n dX7_calls_20 rfl rfl ?_
    refine vJ.getR (ci := 7) (k := 16) (j := 175) dX7_calls_21 sh_163 (Nat.le_of_ble_eq_true rfl) rfl inX7 (Nat.le_of_ble_eq_true rfl) rfl fl_RX7_44 ?_
    refine vJ.iload_n dX7_calls_24 rfl rfl ?_
    obtain ⟨hb5, h⟩ := h
    refine vJ.iald dX7_calls_25 sh_175 (Nat.le_of_ble_eq_true rfl) hb5 ?_
    refine vJ.topi (fun v6 ev6 => ?_)
    replace h := h v6 ev6
    refine vJ.istore (ls2 := [(0, .ref 163), (1, .int l1), (2, .int l2), (3, .int r4), (4, .int v6)]) dX7_calls_26 (Nat.le_of_ble_eq_true rfl) rfl ?_
    refine vJ.aload_n dX7_calls_28 rfl rfl ?_
    refine vJ.getR (ci := 7) (k := 16) (j := 175) dX7_calls_29 sh_163 (Nat.le_of_ble_eq_true rfl) rfl inX7 (Nat.le_of_ble_eq_true rfl) rfl fl_RX7_44 ?_
    refine vJ.iload_n dX7_calls_32 rfl rfl ?_
    refine vJ.iload_n dX7_calls_33 rfl rfl ?_
    obtain ⟨hb7, h⟩ := h
    refine vJ.iast dX7_calls_34 sh_175 (Nat.le_of_ble_eq_true rfl) hb7 ?_
    refine vJ.topm (fun m8 em8 => ?_)
    replace h := h m8 em8
    refine vJ.iload dX7_calls_35 rfl ?_
    exact vJ.ireturn dX7_calls_37 rfl rfl rfl ⟨rfl, _, rfl, h⟩
  · replace h := h.2 hc9
    refine vJ.iload_n dX7_calls_18 rfl rfl ?_
    exact vJ.ireturn dX7_calls_19 rfl rfl rfl ⟨rfl, _, rfl, h⟩
def EI_X7_calls (l1 : Int32) (l2 : Int32) (m : vM) (P : Int32 → vM → Prop) : Prop := Ev mX7_calls 3 65 197 [.ref 163, .int l1, .int l2] 197 SH m (vPi P)
theorem f_X7_calls {l1 : Int32} {l2 : Int32} {m : vM} {P : Int32 → vM → Prop} (h : J_X7_calls_0 l1 l2 m P) : EI_X7_calls l1 l2 m P := Ev.of pn_X7_calls (Nat.le_of_ble_eq_true rfl) h
theorem e_X7_calls {l1 : Int32} {l2 : Int32} {m : vM} {P : Int32 → vM → Prop}  (h : wp_X7_calls l1 l2 m P) : EI_X7_calls l1 l2 m P := f_X7_calls (b_X7_calls  h)
def J_X7_fix_0 (l1 : Int32) (l2 : Int32) (m : vM) (P : Int32 → vM → Prop) : Prop := vJ mX7_fix 3 65 197 none 0 [(0, .ref 163), (1, .int l1), (2, .int l2)] [] 197 SH m (vPi P)
def wp_X7_fix (l1 : Int32) (l2 : Int32) (m : vM) (P : Int32 → vM → Prop) : Prop :=
  wp_X7_in l2 (1 : Int32) (60 : Int32) m (fun r2 m1 =>
    wp_X7_need r2 l1 m1 (fun r4 m3 =>
      (((0 : Int32) ≤ r4 →
        vp_in l1 40 ∧
        (((m3.1 167 (Int32.toNatClampNeg l1)) = (2 : Int32) →
          vp_in l1 40 ∧
          ∀ v7 : Int32, v7 = (m3.1 176 (Int32.toNatClampNeg l1)) →
          vp_in l1 40 ∧
          ∀ m9 : vM, m9 = upI m3 176 (Int32.toNatClampNeg l1) l2 →
          P v7 m9) ∧
        (¬ (m3.1 167 (Int32.toNatClampNeg l1)) = (2 : Int32) →
          wp_X7_meets (3 : Int32) m3 (fun r11 m10 =>
            P r11 m10)))) ∧
      (¬ (0 : Int32) ≤ r4 →
        P r4 m3))))
set_option maxRecDepth 20000 in
set_option maxHeartbeats 4000000 in
theorem b_X7_fix {l1 : Int32} {l2 : Int32} {m : vM} {P : Int32 → vM → Prop}  (h : wp_X7_fix l1 l2 m P) : J_X7_fix_0 l1 l2 m P := by
  show vJ mX7_fix 3 65 197 none 0 [(0, .ref 163), (1, .int l1), (2, .int l2)] [] 197 SH m (vPi P)
  unfold wp_X7_fix at h
  refine vJ.aload_n dX7_fix_0 rfl rfl ?_
  refine vJ.iload_n dX7_fix_1 rfl rfl ?_
  refine vJ.iconst dX7_fix_2 ci_1 ?_
  refine vJ.bipush dX7_fix_3 cb_60 ?_
  refine vJ.callS (Yc := mX7_in) (frc := 0) (loc := 0) (as := [.int l2, .int (1 : Int32), .int (60 : Int32)]) dX7_fix_5 rfl ml_RX7_119 st_yX7_in co_X7_in in_TableSetterModel pl_X7_in (Nat.le_of_ble_eq_true rfl) (Nat.le_of_ble_eq_true rfl) (Nat.le_of_ble_eq_true rfl) ?_
  refine Ev.gi (e_X7_in  h) (fun r2 m1 h => ?_)
  refine vJ.iload_n dX7_fix_8 rfl rfl ?_
  refine vJ.callV (ci := 7) (Yc := mX7_need) (frc := 2) (loc := 43) (as := [.int r2, .int l1]) dX7_fix_9 rfl sh_163 (Nat.le_of_ble_eq_true rfl) rfl ml_RX7_162 im_yX7_need se_yX7_need co_X7_need in_TableSetterModel pl_X7_need (Nat.le_of_ble_eq_true rfl) (Nat.le_of_ble_eq_true rfl) (Nat.le_of_ble_eq_true rfl) ?_
  refine Ev.gi (e_X7_need  h) (fun r4 m3 h => ?_)
  refine vJ.istore_n (ls2 := [(0, .ref 163), (1, .int l1), (2, .int l2), (3, .int r4)]) dX7_fix_12 rfl (Nat.le_of_ble_eq_true rfl) rfl ?_
  refine vJ.iload_n dX7_fix_13 rfl rfl ?_
  refine vJ.if_ge (tgt := 19) dX7_fix_14 (by decide) (fun hc13 => ?_) (fun hc13 => ?_)
  · replace h := h.1 hc13
    refine vJ.aload_n dX7_fix_19 rfl rfl ?_
    refine vJ.getR (ci := 7) (k := 8) (j := 167) dX7_fix_20 sh_163 (Nat.le_of_ble_eq_true rfl) rfl inX7 (Nat.le_of_ble_eq_true rfl) rfl fl_RX7_19 ?_
    refine vJ.iload_n dX7_fix_23 rfl rfl ?_
    obtain ⟨hb5, h⟩ := h
    refine vJ.iald dX7_fix_24 sh_167 (Nat.le_of_ble_eq_true rfl) hb5 ?_
    refine vJ.iconst dX7_fix_25 ci_2 ?_
    refine vJ.icmp_eq (tgt := 35) dX7_fix_26 (by decide) (fun hc12 => ?_) (fun hc12 => ?_)
    · replace h := h.1 hc12
      refine vJ.aload_n dX7_fix_35 rfl rfl ?_
      refine vJ.getR (ci := 7) (k := 17) (j := 176) dX7_fix_36 sh_163 (Nat.le_of_ble_eq_true rfl) rfl inX7 (Nat.le_of_ble_eq_true rfl) rfl fl_RX7_47 ?_
      refine vJ.iload_n dX7_fix_39 rfl rfl ?_
      obtain ⟨hb6, h⟩ := h
      refine vJ.iald dX7_fix_40 sh_176 (Nat.le_of_ble_eq_true rfl) hb6 ?_
      refine vJ.topi (fun v7 ev7 => ?_)
      replace h := h v7 ev7
      refine vJ.istore (ls2 := [(0, .ref 163), (1, .int l1), (2, .int l2), (3, .int r4), (4, .int v7)]) dX7_fix_41 (Nat.le_of_ble_eq_true rfl) rfl ?_
      refine vJ.aload_n dX7_fix_43 rfl rfl ?_
      refine vJ.getR (ci := 7) (k := 17) (j := 176) dX7_fix_44 sh_163 (Nat.le_of_ble_eq_true rfl) rfl inX7 (Nat.le_of_ble_eq_true rfl) rfl fl_RX7_47 ?_
      refine vJ.iload_n dX7_fix_47 rfl rfl ?_
      refine vJ.iload_n dX7_fix_48 rfl rfl ?_
      obtain ⟨hb8, h⟩ := h
      refine vJ.iast dX7_fix_49 sh_176 (Nat.le_of_ble_eq_true rfl) hb8 ?_
      refine vJ.topm (fun m9 em9 => ?_)
      replace h := h m9 em9
      refine vJ.iload dX7_fix_50 rfl ?_
      exact vJ.ireturn dX7_fix_52 rfl rfl rfl ⟨rfl, _, rfl, h⟩
    · replace h := h.2 hc12
      refine vJ.aload_n dX7_fix_29 rfl rfl ?_
      refine vJ.iconst dX7_fix_30 ci_3 ?_
      refine vJ.callV (ci := 7) (Yc := mX7_meets) (frc := 0) (loc := 0) (as := [.int (3 : Int32)]) dX7_fix_31 rfl sh_163 (Nat.le_of_ble_eq_true rfl) rfl ml_RX7_151 im_yX7_meets se_yX7_meets co_X7_meets in_TableSetterModel pl_X7_meets (Nat.le_of_ble_eq_true rfl) (Nat.le_of_ble_eq_true rfl) (Nat.le_of_ble_eq_true rfl) ?_
      refine Ev.gi (e_X7_meets  h) (fun r11 m10 h => ?_)
      exact vJ.ireturn dX7_fix_34 rfl rfl rfl ⟨rfl, _, rfl, h⟩
  · replace h := h.2 hc13
    refine vJ.iload_n dX7_fix_17 rfl rfl ?_
    exact vJ.ireturn dX7_fix_18 rfl rfl rfl ⟨rfl, _, rfl, h⟩
def EI_X7_fix (l1 : Int32) (l2 : Int32) (m : vM) (P : Int32 → vM → Prop) : Prop := Ev mX7_fix 3 65 197 [.ref 163, .int l1, .int l2] 197 SH m (vPi P)
theorem f_X7_fix {l1 : Int32} {l2 : Int32} {m : vM} {P : Int32 → vM → Prop} (h : J_X7_fix_0 l1 l2 m P) : EI_X7_fix l1 l2 m P := Ev.of pn_X7_fix (Nat.le_of_ble_eq_true rfl) h
theorem e_X7_fix {l1 : Int32} {l2 : Int32} {m : vM} {P : Int32 → vM → Prop}  (h : wp_X7_fix l1 l2 m P) : EI_X7_fix l1 l2 m P := f_X7_fix (b_X7_fix  h)
def J_X7_linesOf_0 (l1 : Int32) (l2 : Int32) (m : vM) (P : Int32 → vM → Prop) : Prop := vJ mX7_linesOf 0 0 197 none 0 [(0, .ref 163), (1, .int l1), (2, .int l2)] [] 197 SH m (vPi P)
def J_X7_linesOf_20 (l1 : Int32) (l3 : Int32) (l4 : Int32) (l5 : Int32) (l6 : Int32) (m : vM) (P : Int32 → vM → Prop) : Prop := vJ mX7_linesOf 0 0 197 none 20 [(0, .ref 163), (1, .int l1), (3, .int l3), (4, .int l4), (5, .int l5), (6, .int l6)] [] 197 SH m (vPi P)
def wp_X7_linesOf_0 (l1 : Int32) (l2 : Int32) (m : vM) (P : Int32 → vM → Prop) : Prop :=
  (((1 : Int32) ≤ l2 →
    J_X7_linesOf_20 l1 l2 (0 : Int32) (0 : Int32) (0 : Int32) m P) ∧
  (¬ (1 : Int32) ≤ l2 →
    J_X7_linesOf_20 l1 (1 : Int32) (0 : Int32) (0 : Int32) (0 : Int32) m P))
set_option maxRecDepth 20000 in
set_option maxHeartbeats 4000000 in
theorem b_X7_linesOf_0 {l1 : Int32} {l2 : Int32} {m : vM} {P : Int32 → vM → Prop}  (h : wp_X7_linesOf_0 l1 l2 m P) : J_X7_linesOf_0 l1 l2 m P := by
  show vJ mX7_linesOf 0 0 197 none 0 [(0, .ref 163), (1, .int l1), (2, .int l2)] [] 197 SH m (vPi P)
  unfold wp_X7_linesOf_0 at h
  refine vJ.iload_n dX7_linesOf_0 rfl rfl ?_
  refine vJ.iconst dX7_linesOf_1 ci_1 ?_
  refine vJ.icmp_ge (tgt := 9) dX7_linesOf_2 (by decide) (fun hc1 => ?_) (fun hc1 => ?_)
  · replace h := h.1 hc1
    refine vJ.iload_n dX7_linesOf_9 rfl rfl ?_
    refine vJ.istore_n (ls2 := [(0, .ref 163), (1, .int l1), (2, .int l2), (3, .int l2)]) dX7_linesOf_10 rfl (Nat.le_of_ble_eq_true rfl) rfl ?_
    refine vJ.iconst dX7_linesOf_11 ci_0 ?_
    refine vJ.istore (ls2 := [(0, .ref 163), (1, .int l1), (2, .int l2), (3, .int l2), (4, .int (0 : Int32))]) dX7_linesOf_12 (Nat.le_of_ble_eq_true rfl) rfl ?_
    refine vJ.iconst dX7_linesOf_14 ci_0 ?_
    refine vJ.istore (ls2 := [(0, .ref 163), (1, .int l1), (2, .int l2), (3, .int l2), (4, .int (0 : Int32)), (5, .int (0 : Int32))]) dX7_linesOf_15 (Nat.le_of_ble_eq_true rfl) rfl ?_
    refine vJ.iconst dX7_linesOf_17 ci_0 ?_
    refine vJ.istore (ls2 := [(0, .ref 163), (1, .int l1), (2, .int l2), (3, .int l2), (4, .int (0 : Int32)), (5, .int (0 : Int32)), (6, .int (0 : Int32))]) dX7_linesOf_18 (Nat.le_of_ble_eq_true rfl) rfl ?_
    refine vJ.sub [0, 1, 3, 4, 5, 6] rfl ?_
    exact h
  · replace h := h.2 hc1
    refine vJ.iconst dX7_linesOf_5 ci_1 ?_
    refine vJ.goto (tgt := 10) dX7_linesOf_6 (by decide) ?_
    refine vJ.istore_n (ls2 := [(0, .ref 163), (1, .int l1), (2, .int l2), (3, .int (1 : Int32))]) dX7_linesOf_10 rfl (Nat.le_of_ble_eq_true rfl) rfl ?_
    refine vJ.iconst dX7_linesOf_11 ci_0 ?_
    refine vJ.istore (ls2 := [(0, .ref 163), (1, .int l1), (2, .int l2), (3, .int (1 : Int32)), (4, .int (0 : Int32))]) dX7_linesOf_12 (Nat.le_of_ble_eq_true rfl) rfl ?_
    refine vJ.iconst dX7_linesOf_14 ci_0 ?_
    refine vJ.istore (ls2 := [(0, .ref 163), (1, .int l1), (2, .int l2), (3, .int (1 : Int32)), (4, .int (0 : Int32)), (5, .int (0 : Int32))]) dX7_linesOf_15 (Nat.le_of_ble_eq_true rfl) rfl ?_
    refine vJ.iconst dX7_linesOf_17 ci_0 ?_
    refine vJ.istore (ls2 := [(0, .ref 163), (1, .int l1), (2, .int l2), (3, .int (1 : Int32)), (4, .int (0 : Int32)), (5, .int (0 : Int32)), (6, .int (0 : Int32))]) dX7_linesOf_18 (Nat.le_of_ble_eq_true rfl) rfl ?_
    refine vJ.sub [0, 1, 3, 4, 5, 6] rfl ?_
    exact h
def EI_X7_linesOf (l1 : Int32) (l2 : Int32) (m : vM) (P : Int32 → vM → Prop) : Prop := Ev mX7_linesOf 0 0 197 [.ref 163, .int l1, .int l2] 197 SH m (vPi P)
theorem f_X7_linesOf {l1 : Int32} {l2 : Int32} {m : vM} {P : Int32 → vM → Prop} (h : J_X7_linesOf_0 l1 l2 m P) : EI_X7_linesOf l1 l2 m P := Ev.of pn_X7_linesOf (Nat.le_of_ble_eq_true rfl) h
def wp_X7_linesOf_20 (l1 : Int32) (l3 : Int32) (l4 : Int32) (l5 : Int32) (l6 : Int32) (m : vM) (P : Int32 → vM → Prop) : Prop :=
  vp_in l1 40 ∧
  (((m.1 173 (Int32.toNatClampNeg l1)) ≤ l6 →
    P l4 m) ∧
  (¬ (m.1 173 (Int32.toNatClampNeg l1)) ≤ l6 →
    vp_in (((12 : Int32) * l1) + l6) 480 ∧
    ∀ v3 : Int32, v3 = (m.1 174 (Int32.toNatClampNeg (((12 : Int32) * l1) + l6))) →
    ((v3 ≤ l3 →
      ((l6 ≤ (0 : Int32) →
        J_X7_linesOf_20 l1 l3 (l4 + (1 : Int32)) v3 (l6 + (1 : Int32)) m P) ∧
      (¬ l6 ≤ (0 : Int32) →
        ((l3 < ((l5 + (1 : Int32)) + v3) →
          J_X7_linesOf_20 l1 l3 (l4 + (1 : Int32)) v3 (l6 + (1 : Int32)) m P) ∧
        (¬ l3 < ((l5 + (1 : Int32)) + v3) →
          ∀ v4 : Int32, v4 = (l5 + ((1 : Int32) + v3)) →
          J_X7_linesOf_20 l1 l3 l4 v4 (l6 + (1 : Int32)) m P))))) ∧
    (¬ v3 ≤ l3 →
      (¬ l3 = 0) ∧
      ∀ v8 : Int32, v8 = ((v3 - (1 : Int32)) / l3) →
      ∀ v9 : Int32, v9 = (l4 + (v8 + (1 : Int32))) →
      ∀ v10 : Int32, v10 = (v3 - (v8 * l3)) →
      J_X7_linesOf_20 l1 l3 v9 v10 (l6 + (1 : Int32)) m P))))
set_option maxRecDepth 20000 in
set_option maxHeartbeats 4000000 in
theorem b_X7_linesOf_20 {l1 : Int32} {l3 : Int32} {l4 : Int32} {l5 : Int32} {l6 : Int32} {m : vM} {P : Int32 → vM → Prop}  (h : wp_X7_linesOf_20 l1 l3 l4 l5 l6 m P) : J_X7_linesOf_20 l1 l3 l4 l5 l6 m P := by
  show vJ mX7_linesOf 0 0 197 none 20 [(0, .ref 163), (1, .int l1), (3, .int l3), (4, .int l4), (5, .int l5), (6, .int l6)] [] 197 SH m (vPi P)
  unfold wp_X7_linesOf_20 at h
  refine vJ.iload dX7_linesOf_20 rfl ?_
  refine vJ.aload_n dX7_linesOf_22 rfl rfl ?_
  refine vJ.getR (ci := 7) (k := 14) (j := 173) dX7_linesOf_23 sh_163 (Nat.le_of_ble_eq_true rfl) rfl inX7 (Nat.le_of_ble_eq_true rfl) rfl fl_RX7_38 ?_
  refine vJ.iload_n dX7_linesOf_26 rfl rfl ?_
  obtain ⟨hb1, h⟩ := h
  refine vJ.iald dX7_linesOf_27 sh_173 (Nat.le_of_ble_eq_true rfl) hb1 ?_
  refine vJ.icmp_ge (tgt := 121) dX7_linesOf_28 (by decide) (fun hc12 => ?_) (fun hc12 => ?_)
  · replace h := h.1 hc12
    refine vJ.iload dX7_linesOf_121 rfl ?_
    exact vJ.ireturn dX7_linesOf_123 rfl rfl rfl ⟨rfl, _, rfl, h⟩
  · replace h := h.2 hc12
    refine vJ.aload_n dX7_linesOf_31 rfl rfl ?_
    refine vJ.getR (ci := 7) (k := 15) (j := 174) dX7_linesOf_32 sh_163 (Nat.le_of_ble_eq_true rfl) rfl inX7 (Nat.le_of_ble_eq_true rfl) rfl fl_RX7_41 ?_
    refine vJ.bipush dX7_linesOf_35 cb_12 ?_
    refine vJ.iload_n dX7_linesOf_37 rfl rfl ?_
    refine vJ.imul dX7_linesOf_38 ?_
    refine vJ.iload dX7_linesOf_39 rfl ?_
    refine vJ.iadd dX7_linesOf_41 ?_
    obtain ⟨hb2, h⟩ := h
    refine vJ.iald dX7_linesOf_42 sh_174 (Nat.le_of_ble_eq_true rfl) hb2 ?_
    refine vJ.topi (fun v3 ev3 => ?_)
    replace h := h v3 ev3
    refine vJ.istore (ls2 := [(0, .ref 163), (1, .int l1), (3, .int l3), (4, .int l4), (5, .int l5), (6, .int l6), (7, .int v3)]) dX7_linesOf_43 (Nat.le_of_ble_eq_true rfl) rfl ?_
    refine vJ.iload dX7_linesOf_45 rfl ?_
    refine vJ.iload_n dX7_linesOf_47 rfl rfl ?_
    refine vJ.icmp_le (tgt := 80) dX7_linesOf_48 (by decide) (fun hc11 => ?_) (fun hc11 => ?_)
    · replace h := h.1 hc11
      refine vJ.iload dX7_linesOf_80 rfl ?_
      refine vJ.if_le (tgt := 108) dX7_linesOf_82 (by decide) (fun hc6 => ?_) (fun hc6 => ?_)
      · replace h := h.1 hc6
        refine vJ.iinc (v := l4 + (1 : Int32)) (ls2 := [(0, .ref 163), (1, .int l1), (3, .int l3), (4, .int (l4 + (1 : Int32))), (5, .int l5), (6, .int l6), (7, .int v3)]) dX7_linesOf_108 rfl (congrArg (l4 + ·) ci_1) (Nat.le_of_ble_eq_true rfl) rfl ?_
        refine vJ.iload dX7_linesOf_111 rfl ?_
        refine vJ.istore (ls2 := [(0, .ref 163), (1, .int l1), (3, .int l3), (4, .int (l4 + (1 : Int32))), (5, .int v3), (6, .int l6), (7, .int v3)]) dX7_linesOf_113 (Nat.le_of_ble_eq_true rfl) rfl ?_
        refine vJ.iinc (v := l6 + (1 : Int32)) (ls2 := [(0, .ref 163), (1, .int l1), (3, .int l3), (4, .int (l4 + (1 : Int32))), (5, .int v3), (6, .int (l6 + (1 : Int32))), (7, .int v3)]) dX7_linesOf_115 rfl (congrArg (l6 + ·) ci_1) (Nat.le_of_ble_eq_true rfl) rfl ?_
        refine vJ.goto (tgt := 20) dX7_linesOf_118 (by decide) ?_
        refine vJ.sub [0, 1, 2, 3, 4, 5] rfl ?_
        exact h
      · replace h := h.2 hc6
        refine vJ.iload dX7_linesOf_85 rfl ?_
        refine vJ.iconst dX7_linesOf_87 ci_1 ?_
        refine vJ.iadd dX7_linesOf_88 ?_
        refine vJ.iload dX7_linesOf_89 rfl ?_
        refine vJ.iadd dX7_linesOf_91 ?_
        refine vJ.iload_n dX7_linesOf_92 rfl rfl ?_
        refine vJ.icmp_gt (tgt := 108) dX7_linesOf_93 (by decide) (fun hc5 => ?_) (fun hc5 => ?_)
        · replace h := h.1 hc5
          refine vJ.iinc (v := l4 + (1 : Int32)) (ls2 := [(0, .ref 163), (1, .int l1), (3, .int l3), (4, .int (l4 + (1 : Int32))), (5, .int l5), (6, .int l6), (7, .int v3)]) dX7_linesOf_108 rfl (congrArg (l4 + ·) ci_1) (Nat.le_of_ble_eq_true rfl) rfl ?_
          refine vJ.iload dX7_linesOf_111 rfl ?_
          refine vJ.istore (ls2 := [(0, .ref 163), (1, .int l1), (3, .int l3), (4, .int (l4 + (1 : Int32))), (5, .int v3), (6, .int l6), (7, .int v3)]) dX7_linesOf_113 (Nat.le_of_ble_eq_true rfl) rfl ?_
          refine vJ.iinc (v := l6 + (1 : Int32)) (ls2 := [(0, .ref 163), (1, .int l1), (3, .int l3), (4, .int (l4 + (1 : Int32))), (5, .int v3), (6, .int (l6 + (1 : Int32))), (7, .int v3)]) dX7_linesOf_115 rfl (congrArg (l6 + ·) ci_1) (Nat.le_of_ble_eq_true rfl) rfl ?_
          refine vJ.goto (tgt := 20) dX7_linesOf_118 (by decide) ?_
          refine vJ.sub [0, 1, 2, 3, 4, 5] rfl ?_
          exact h
        · replace h := h.2 hc5
          refine vJ.iload dX7_linesOf_96 rfl ?_
          refine vJ.iconst dX7_linesOf_98 ci_1 ?_
          refine vJ.iload dX7_linesOf_99 rfl ?_
          refine vJ.iadd dX7_linesOf_101 ?_
          refine vJ.iadd dX7_linesOf_102 ?_
          refine vJ.topi (fun v4 ev4 => ?_)
          replace h := h v4 ev4
          refine vJ.istore (ls2 := [(0, .ref 163), (1, .int l1), (3, .int l3), (4, .int l4), (5, .int v4), (6, .int l6), (7, .int v3)]) dX7_linesOf_103 (Nat.le_of_ble_eq_true rfl) rfl ?_
          refine vJ.goto (tgt := 115) dX7_linesOf_105 (by decide) ?_
          refine vJ.iinc (v := l6 + (1 : Int32)) (ls2 := [(0, .ref 163), (1, .int l1), (3, .int l3), (4, .int l4), (5, .int v4), (6, .int (l6 + (1 : Int32))), (7, .int v3)]) dX7_linesOf_115 rfl (congrArg (l6 + ·) ci_1) (Nat.le_of_ble_eq_true rfl) rfl ?_
          refine vJ.goto (tgt := 20) dX7_linesOf_118 (by decide) ?_
          refine vJ.sub [0, 1, 2, 3, 4, 5] rfl ?_
          exact h
    · replace h := h.2 hc11
      refine vJ.iload dX7_linesOf_51 rfl ?_
      refine vJ.iconst dX7_linesOf_53 ci_1 ?_
      refine vJ.isub dX7_linesOf_54 ?_
      refine vJ.iload_n dX7_linesOf_55 rfl rfl ?_
      obtain ⟨hz7, h⟩ := h
      refine vJ.idiv dX7_linesOf_56 hz7 ?_
      refine vJ.topi (fun v8 ev8 => ?_)
      replace h := h v8 ev8
      refine vJ.istore (ls2 := [(0, .ref 163), (1, .int l1), (3, .int l3), (4, .int l4), (5, .int l5), (6, .int l6), (7, .int v3), (8, .int v8)]) dX7_linesOf_57 (Nat.le_of_ble_eq_true rfl) rfl ?_
      refine vJ.iload dX7_linesOf_59 rfl ?_
      refine vJ.iload dX7_linesOf_61 rfl ?_
      refine vJ.iconst dX7_linesOf_63 ci_1 ?_
      refine vJ.iadd dX7_linesOf_64 ?_
      refine vJ.iadd dX7_linesOf_65 ?_
      refine vJ.topi (fun v9 ev9 => ?_)
      replace h := h v9 ev9
      refine vJ.istore (ls2 := [(0, .ref 163), (1, .int l1), (3, .int l3), (4, .int v9), (5, .int l5), (6, .int l6), (7, .int v3), (8, .int v8)]) dX7_linesOf_66 (Nat.le_of_ble_eq_true rfl) rfl ?_
      refine vJ.iload dX7_linesOf_68 rfl ?_
      refine vJ.iload dX7_linesOf_70 rfl ?_
      refine vJ.iload_n dX7_linesOf_72 rfl rfl ?_
      refine vJ.imul dX7_linesOf_73 ?_
      refine vJ.isub dX7_linesOf_74 ?_
      refine vJ.topi (fun v10 ev10 => ?_)
      replace h := h v10 ev10
      refine vJ.istore (ls2 := [(0, .ref 163), (1, .int l1), (3, .int l3), (4, .int v9), (5, .int v10), (6, .int l6), (7, .int v3), (8, .int v8)]) dX7_linesOf_75 (Nat.le_of_ble_eq_true rfl) rfl ?_
      refine vJ.goto (tgt := 115) dX7_linesOf_77 (by decide) ?_
      refine vJ.iinc (v := l6 + (1 : Int32)) (ls2 := [(0, .ref 163), (1, .int l1), (3, .int l3), (4, .int v9), (5, .int v10), (6, .int (l6 + (1 : Int32))), (7, .int v3), (8, .int v8)]) dX7_linesOf_115 rfl (congrArg (l6 + ·) ci_1) (Nat.le_of_ble_eq_true rfl) rfl ?_
      refine vJ.goto (tgt := 20) dX7_linesOf_118 (by decide) ?_
      refine vJ.sub [0, 1, 2, 3, 4, 5] rfl ?_
      exact h
def J_X7_lines_0 (l1 : Int32) (l2 : Int32) (m : vM) (P : Int32 → vM → Prop) : Prop := vJ mX7_lines 3 65 197 none 0 [(0, .ref 163), (1, .int l1), (2, .int l2)] [] 197 SH m (vPi P)
def wp_X7_lines (l1 : Int32) (l2 : Int32) (m : vM) (P : Int32 → vM → Prop) : Prop :=
  wp_X7_in l2 (1 : Int32) (400 : Int32) m (fun r2 m1 =>
    wp_X7_need r2 l1 m1 (fun r4 m3 =>
      (((0 : Int32) ≤ r4 →
        EI_X7_linesOf l1 l2 m3 (fun r6 m5 =>
          P r6 m5)) ∧
      (¬ (0 : Int32) ≤ r4 →
        P r4 m3))))
set_option maxRecDepth 20000 in
set_option maxHeartbeats 4000000 in
theorem b_X7_lines {l1 : Int32} {l2 : Int32} {m : vM} {P : Int32 → vM → Prop}  (h : wp_X7_lines l1 l2 m P) : J_X7_lines_0 l1 l2 m P := by
  show vJ mX7_lines 3 65 197 none 0 [(0, .ref 163), (1, .int l1), (2, .int l2)] [] 197 SH m (vPi P)
  unfold wp_X7_lines at h
  refine vJ.aload_n dX7_lines_0 rfl rfl ?_
  refine vJ.iload_n dX7_lines_1 rfl rfl ?_
  refine vJ.iconst dX7_lines_2 ci_1 ?_
  refine vJ.sipush dX7_lines_3 cs_400 ?_
  refine vJ.callS (Yc := mX7_in) (frc := 0) (loc := 0) (as := [.int l2, .int (1 : Int32), .int (400 : Int32)]) dX7_lines_6 rfl ml_RX7_119 st_yX7_in co_X7_in in_TableSetterModel pl_X7_in (Nat.le_of_ble_eq_true rfl) (Nat.le_of_ble_eq_true rfl) (Nat.le_of_ble_eq_true rfl) ?_
  refine Ev.gi (e_X7_in  h) (fun r2 m1 h => ?_)
  refine vJ.iload_n dX7_lines_9 rfl rfl ?_
  refine vJ.callV (ci := 7) (Yc := mX7_need) (frc := 2) (loc := 43) (as := [.int r2, .int l1]) dX7_lines_10 rfl sh_163 (Nat.le_of_ble_eq_true rfl) rfl ml_RX7_162 im_yX7_need se_yX7_need co_X7_need in_TableSetterModel pl_X7_need (Nat.le_of_ble_eq_true rfl) (Nat.le_of_ble_eq_true rfl) (Nat.le_of_ble_eq_true rfl) ?_
  refine Ev.gi (e_X7_need  h) (fun r4 m3 h => ?_)
  refine vJ.istore_n (ls2 := [(0, .ref 163), (1, .int l1), (2, .int l2), (3, .int r4)]) dX7_lines_13 rfl (Nat.le_of_ble_eq_true rfl) rfl ?_
  refine vJ.iload_n dX7_lines_14 rfl rfl ?_
  refine vJ.if_ge (tgt := 22) dX7_lines_15 (by decide) (fun hc7 => ?_) (fun hc7 => ?_)
  · replace h := h.1 hc7
    refine vJ.aload_n dX7_lines_22 rfl rfl ?_
    refine vJ.iload_n dX7_lines_23 rfl rfl ?_
    refine vJ.iload_n dX7_lines_24 rfl rfl ?_
    refine vJ.callV (ci := 7) (Yc := mX7_linesOf) (frc := 0) (loc := 0) (as := [.int l1, .int l2]) dX7_lines_25 rfl sh_163 (Nat.le_of_ble_eq_true rfl) rfl ml_RX7_172 im_yX7_linesOf se_yX7_linesOf co_X7_linesOf in_TableSetterModel pl_X7_linesOf (Nat.le_of_ble_eq_true rfl) (Nat.le_of_ble_eq_true rfl) (Nat.le_of_ble_eq_true rfl) ?_
    refine Ev.gi h (fun r6 m5 h => ?_)
    exact vJ.ireturn dX7_lines_28 rfl rfl rfl ⟨rfl, _, rfl, h⟩
  · replace h := h.2 hc7
    refine vJ.iload_n dX7_lines_18 rfl rfl ?_
    refine vJ.goto (tgt := 28) dX7_lines_19 (by decide) ?_
    exact vJ.ireturn dX7_lines_28 rfl rfl rfl ⟨rfl, _, rfl, h⟩
def EI_X7_lines (l1 : Int32) (l2 : Int32) (m : vM) (P : Int32 → vM → Prop) : Prop := Ev mX7_lines 3 65 197 [.ref 163, .int l1, .int l2] 197 SH m (vPi P)
theorem f_X7_lines {l1 : Int32} {l2 : Int32} {m : vM} {P : Int32 → vM → Prop} (h : J_X7_lines_0 l1 l2 m P) : EI_X7_lines l1 l2 m P := Ev.of pn_X7_lines (Nat.le_of_ble_eq_true rfl) h
theorem e_X7_lines {l1 : Int32} {l2 : Int32} {m : vM} {P : Int32 → vM → Prop}  (h : wp_X7_lines l1 l2 m P) : EI_X7_lines l1 l2 m P := f_X7_lines (b_X7_lines  h)
def J_X7_wantOf_0 (l1 : Int32) (l2 : Int32) (m : vM) (P : Int32 → vM → Prop) : Prop := vJ mX7_wantOf 1 23 197 none 0 [(0, .ref 163), (1, .int l1), (2, .int l2)] [] 197 SH m (vPi P)
def J_X7_wantOf_53 (l1 : Int32) (l3 : Int32) (l4 : Int32) (m : vM) (P : Int32 → vM → Prop) : Prop := vJ mX7_wantOf 1 23 197 none 53 [(0, .ref 163), (1, .int l1), (3, .int l3), (4, .int l4)] [] 197 SH m (vPi P)
def wp_X7_wantOf_0 (l1 : Int32) (l2 : Int32) (m : vM) (P : Int32 → vM → Prop) : Prop :=
  vp_in l1 40 ∧
  (((m.1 167 (Int32.toNatClampNeg l1)) = (2 : Int32) →
    vp_in l1 40 ∧
    P (m.1 176 (Int32.toNatClampNeg l1)) m) ∧
  (¬ (m.1 167 (Int32.toNatClampNeg l1)) = (2 : Int32) →
    vp_in l1 40 ∧
    (((m.1 173 (Int32.toNatClampNeg l1)) = (0 : Int32) →
      P (0 : Int32) m) ∧
    (¬ (m.1 173 (Int32.toNatClampNeg l1)) = (0 : Int32) →
      ((l2 = (1 : Int32) →
        EI_X7_lettersOf l1 m (fun r4 m3 =>
          vp_in l1 40 ∧
          P ((r4 + (m3.1 173 (Int32.toNatClampNeg l1))) - (1 : Int32)) m3)) ∧
      (¬ l2 = (1 : Int32) →
        J_X7_wantOf_53 l1 (0 : Int32) (0 : Int32) m P))))))
set_option maxRecDepth 20000 in
set_option maxHeartbeats 4000000 in
theorem b_X7_wantOf_0 {l1 : Int32} {l2 : Int32} {m : vM} {P : Int32 → vM → Prop}  (h : wp_X7_wantOf_0 l1 l2 m P) : J_X7_wantOf_0 l1 l2 m P := by
  show vJ mX7_wantOf 1 23 197 none 0 [(0, .ref 163), (1, .int l1), (2, .int l2)] [] 197 SH m (vPi P)
  unfold wp_X7_wantOf_0 at h
  refine vJ.aload_n dX7_wantOf_0 rfl rfl ?_
  refine vJ.getR (ci := 7) (k := 8) (j := 167) dX7_wantOf_1 sh_163 (Nat.le_of_ble_eq_true rfl) rfl inX7 (Nat.le_of_ble_eq_true rfl) rfl fl_RX7_19 ?_
  refine vJ.iload_n dX7_wantOf_4 rfl rfl ?_
  obtain ⟨hb1, h⟩ := h
  refine vJ.iald dX7_wantOf_5 sh_167 (Nat.le_of_ble_eq_true rfl) hb1 ?_
  refine vJ.iconst dX7_wantOf_6 ci_2 ?_
  refine vJ.icmp_ne (tgt := 17) dX7_wantOf_7 (by decide) (fun hc9 => ?_) (fun hc9 => ?_)
  · replace h := h.2 hc9
    refine vJ.aload_n dX7_wantOf_17 rfl rfl ?_
    refine vJ.getR (ci := 7) (k := 14) (j := 173) dX7_wantOf_18 sh_163 (Nat.le_of_ble_eq_true rfl) rfl inX7 (Nat.le_of_ble_eq_true rfl) rfl fl_RX7_38 ?_
    refine vJ.iload_n dX7_wantOf_21 rfl rfl ?_
    obtain ⟨hb2, h⟩ := h
    refine vJ.iald dX7_wantOf_22 sh_173 (Nat.le_of_ble_eq_true rfl) hb2 ?_
    refine vJ.if_ne (tgt := 28) dX7_wantOf_23 (by decide) (fun hc7 => ?_) (fun hc7 => ?_)
    · replace h := h.2 hc7
      refine vJ.iload_n dX7_wantOf_28 rfl rfl ?_
      refine vJ.iconst dX7_wantOf_29 ci_1 ?_
      refine vJ.icmp_ne (tgt := 48) dX7_wantOf_30 (by decide) (fun hc6 => ?_) (fun hc6 => ?_)
      · replace h := h.2 hc6
        refine vJ.iconst dX7_wantOf_48 ci_0 ?_
        refine vJ.istore_n (ls2 := [(0, .ref 163), (1, .int l1), (2, .int l2), (3, .int (0 : Int32))]) dX7_wantOf_49 rfl (Nat.le_of_ble_eq_true rfl) rfl ?_
        refine vJ.iconst dX7_wantOf_50 ci_0 ?_
        refine vJ.istore (ls2 := [(0, .ref 163), (1, .int l1), (2, .int l2), (3, .int (0 : Int32)), (4, .int (0 : Int32))]) dX7_wantOf_51 (Nat.le_of_ble_eq_true rfl) rfl ?_
        refine vJ.sub [0, 1, 3, 4] rfl ?_
        exact h
      · replace h := h.1 hc6
        refine vJ.aload_n dX7_wantOf_33 rfl rfl ?_
        refine vJ.iload_n dX7_wantOf_34 rfl rfl ?_
        refine vJ.callV (ci := 7) (Yc := mX7_lettersOf) (frc := 0) (loc := 0) (as := [.int l1]) dX7_wantOf_35 rfl sh_163 (Nat.le_of_ble_eq_true rfl) rfl ml_RX7_169 im_yX7_lettersOf se_yX7_lettersOf co_X7_lettersOf in_TableSetterModel pl_X7_lettersOf (Nat.le_of_ble_eq_true rfl) (Nat.le_of_ble_eq_true rfl) (Nat.le_of_ble_eq_true rfl) ?_
        refine Ev.gi h (fun r4 m3 h => ?_)
        refine vJ.aload_n dX7_wantOf_38 rfl rfl ?_
        refine vJ.getR (ci := 7) (k := 14) (j := 173) dX7_wantOf_39 sh_163 (Nat.le_of_ble_eq_true rfl) rfl inX7 (Nat.le_of_ble_eq_true rfl) rfl fl_RX7_38 ?_
        refine vJ.iload_n dX7_wantOf_42 rfl rfl ?_
        obtain ⟨hb5, h⟩ := h
        refine vJ.iald dX7_wantOf_43 sh_173 (Nat.le_of_ble_eq_true rfl) hb5 ?_
        refine vJ.iadd dX7_wantOf_44 ?_
        refine vJ.iconst dX7_wantOf_45 ci_1 ?_
        refine vJ.isub dX7_wantOf_46 ?_
        exact vJ.ireturn dX7_wantOf_47 rfl rfl rfl ⟨rfl, _, rfl, h⟩
    · replace h := h.1 hc7
      refine vJ.iconst dX7_wantOf_26 ci_0 ?_
      exact vJ.ireturn dX7_wantOf_27 rfl rfl rfl ⟨rfl, _, rfl, h⟩
  · replace h := h.1 hc9
    refine vJ.aload_n dX7_wantOf_10 rfl rfl ?_
    refine vJ.getR (ci := 7) (k := 17) (j := 176) dX7_wantOf_11 sh_163 (Nat.le_of_ble_eq_true rfl) rfl inX7 (Nat.le_of_ble_eq_true rfl) rfl fl_RX7_47 ?_
    refine vJ.iload_n dX7_wantOf_14 rfl rfl ?_
    obtain ⟨hb8, h⟩ := h
    refine vJ.iald dX7_wantOf_15 sh_176 (Nat.le_of_ble_eq_true rfl) hb8 ?_
    exact vJ.ireturn dX7_wantOf_16 rfl rfl rfl ⟨rfl, _, rfl, h⟩
def EI_X7_wantOf (l1 : Int32) (l2 : Int32) (m : vM) (P : Int32 → vM → Prop) : Prop := Ev mX7_wantOf 1 23 197 [.ref 163, .int l1, .int l2] 197 SH m (vPi P)
theorem f_X7_wantOf {l1 : Int32} {l2 : Int32} {m : vM} {P : Int32 → vM → Prop} (h : J_X7_wantOf_0 l1 l2 m P) : EI_X7_wantOf l1 l2 m P := Ev.of pn_X7_wantOf (Nat.le_of_ble_eq_true rfl) h
def wp_X7_wantOf_53 (l1 : Int32) (l3 : Int32) (l4 : Int32) (m : vM) (P : Int32 → vM → Prop) : Prop :=
  vp_in l1 40 ∧
  (((m.1 173 (Int32.toNatClampNeg l1)) ≤ l4 →
    P l3 m) ∧
  (¬ (m.1 173 (Int32.toNatClampNeg l1)) ≤ l4 →
    vp_in (((12 : Int32) * l1) + l4) 480 ∧
    (((m.1 174 (Int32.toNatClampNeg (((12 : Int32) * l1) + l4))) ≤ l3 →
      J_X7_wantOf_53 l1 l3 (l4 + (1 : Int32)) m P) ∧
    (¬ (m.1 174 (Int32.toNatClampNeg (((12 : Int32) * l1) + l4))) ≤ l3 →
      vp_in (((12 : Int32) * l1) + l4) 480 ∧
      ∀ v4 : Int32, v4 = (m.1 174 (Int32.toNatClampNeg (((12 : Int32) * l1) + l4))) →
      J_X7_wantOf_53 l1 v4 (l4 + (1 : Int32)) m P))))
set_option maxRecDepth 20000 in
set_option maxHeartbeats 4000000 in
theorem b_X7_wantOf_53 {l1 : Int32} {l3 : Int32} {l4 : Int32} {m : vM} {P : Int32 → vM → Prop}  (h : wp_X7_wantOf_53 l1 l3 l4 m P) : J_X7_wantOf_53 l1 l3 l4 m P := by
  show vJ mX7_wantOf 1 23 197 none 53 [(0, .ref 163), (1, .int l1), (3, .int l3), (4, .int l4)] [] 197 SH m (vPi P)
  unfold wp_X7_wantOf_53 at h
  refine vJ.iload dX7_wantOf_53 rfl ?_
  refine vJ.aload_n dX7_wantOf_55 rfl rfl ?_
  refine vJ.getR (ci := 7) (k := 14) (j := 173) dX7_wantOf_56 sh_163 (Nat.le_of_ble_eq_true rfl) rfl inX7 (Nat.le_of_ble_eq_true rfl) rfl fl_RX7_38 ?_
  refine vJ.iload_n dX7_wantOf_59 rfl rfl ?_
  obtain ⟨hb1, h⟩ := h
  refine vJ.iald dX7_wantOf_60 sh_173 (Nat.le_of_ble_eq_true rfl) hb1 ?_
  refine vJ.icmp_ge (tgt := 103) dX7_wantOf_61 (by decide) (fun hc6 => ?_) (fun hc6 => ?_)
  · replace h := h.1 hc6
    refine vJ.iload_n dX7_wantOf_103 rfl rfl ?_
    exact vJ.ireturn dX7_wantOf_104 rfl rfl rfl ⟨rfl, _, rfl, h⟩
  · replace h := h.2 hc6
    refine vJ.aload_n dX7_wantOf_64 rfl rfl ?_
    refine vJ.getR (ci := 7) (k := 15) (j := 174) dX7_wantOf_65 sh_163 (Nat.le_of_ble_eq_true rfl) rfl inX7 (Nat.le_of_ble_eq_true rfl) rfl fl_RX7_41 ?_
    refine vJ.bipush dX7_wantOf_68 cb_12 ?_
    refine vJ.iload_n dX7_wantOf_70 rfl rfl ?_
    refine vJ.imul dX7_wantOf_71 ?_
    refine vJ.iload dX7_wantOf_72 rfl ?_
    refine vJ.iadd dX7_wantOf_74 ?_
    obtain ⟨hb2, h⟩ := h
    refine vJ.iald dX7_wantOf_75 sh_174 (Nat.le_of_ble_eq_true rfl) hb2 ?_
    refine vJ.iload_n dX7_wantOf_76 rfl rfl ?_
    refine vJ.icmp_le (tgt := 95) dX7_wantOf_77 (by decide) (fun hc5 => ?_) (fun hc5 => ?_)
    · replace h := h.1 hc5
      refine vJ.iload_n dX7_wantOf_95 rfl rfl ?_
      refine vJ.istore_n (ls2 := [(0, .ref 163), (1, .int l1), (3, .int l3), (4, .int l4)]) dX7_wantOf_96 rfl (Nat.le_of_ble_eq_true rfl) rfl ?_
      refine vJ.iinc (v := l4 + (1 : Int32)) (ls2 := [(0, .ref 163), (1, .int l1), (3, .int l3), (4, .int (l4 + (1 : Int32)))]) dX7_wantOf_97 rfl (congrArg (l4 + ·) ci_1) (Nat.le_of_ble_eq_true rfl) rfl ?_
      refine vJ.goto (tgt := 53) dX7_wantOf_100 (by decide) ?_
      exact h
    · replace h := h.2 hc5
      refine vJ.aload_n dX7_wantOf_80 rfl rfl ?_
      refine vJ.getR (ci := 7) (k := 15) (j := 174) dX7_wantOf_81 sh_163 (Nat.le_of_ble_eq_true rfl) rfl inX7 (Nat.le_of_ble_eq_true rfl) rfl fl_RX7_41 ?_
      refine vJ.bipush dX7_wantOf_84 cb_12 ?_
      refine vJ.iload_n dX7_wantOf_86 rfl rfl ?_
      refine vJ.imul dX7_wantOf_87 ?_
      refine vJ.iload dX7_wantOf_88 rfl ?_
      refine vJ.iadd dX7_wantOf_90 ?_
      obtain ⟨hb3, h⟩ := h
      refine vJ.iald dX7_wantOf_91 sh_174 (Nat.le_of_ble_eq_true rfl) hb3 ?_
      refine vJ.goto (tgt := 96) dX7_wantOf_92 (by decide) ?_
      refine vJ.topi (fun v4 ev4 => ?_)
      replace h := h v4 ev4
      refine vJ.istore_n (ls2 := [(0, .ref 163), (1, .int l1), (3, .int v4), (4, .int l4)]) dX7_wantOf_96 rfl (Nat.le_of_ble_eq_true rfl) rfl ?_
      refine vJ.iinc (v := l4 + (1 : Int32)) (ls2 := [(0, .ref 163), (1, .int l1), (3, .int v4), (4, .int (l4 + (1 : Int32)))]) dX7_wantOf_97 rfl (congrArg (l4 + ·) ci_1) (Nat.le_of_ble_eq_true rfl) rfl ?_
      refine vJ.goto (tgt := 53) dX7_wantOf_100 (by decide) ?_
      exact h
def J_X7_want_0 (l1 : Int32) (l2 : Int32) (m : vM) (P : Int32 → vM → Prop) : Prop := vJ mX7_want 3 65 197 none 0 [(0, .ref 163), (1, .int l1), (2, .int l2)] [] 197 SH m (vPi P)
def wp_X7_want (l1 : Int32) (l2 : Int32) (m : vM) (P : Int32 → vM → Prop) : Prop :=
  wp_X7_in l2 (0 : Int32) (1 : Int32) m (fun r2 m1 =>
    wp_X7_need r2 l1 m1 (fun r4 m3 =>
      (((0 : Int32) ≤ r4 →
        EI_X7_wantOf l1 l2 m3 (fun r6 m5 =>
          P r6 m5)) ∧
      (¬ (0 : Int32) ≤ r4 →
        P r4 m3))))
set_option maxRecDepth 20000 in
set_option maxHeartbeats 4000000 in
theorem b_X7_want {l1 : Int32} {l2 : Int32} {m : vM} {P : Int32 → vM → Prop}  (h : wp_X7_want l1 l2 m P) : J_X7_want_0 l1 l2 m P := by
  show vJ mX7_want 3 65 197 none 0 [(0, .ref 163), (1, .int l1), (2, .int l2)] [] 197 SH m (vPi P)
  unfold wp_X7_want at h
  refine vJ.aload_n dX7_want_0 rfl rfl ?_
  refine vJ.iload_n dX7_want_1 rfl rfl ?_
  refine vJ.iconst dX7_want_2 ci_0 ?_
  refine vJ.iconst dX7_want_3 ci_1 ?_
  refine vJ.callS (Yc := mX7_in) (frc := 0) (loc := 0) (as := [.int l2, .int (0 : Int32), .int (1 : Int32)]) dX7_want_4 rfl ml_RX7_119 st_yX7_in co_X7_in in_TableSetterModel pl_X7_in (Nat.le_of_ble_eq_true rfl) (Nat.le_of_ble_eq_true rfl) (Nat.le_of_ble_eq_true rfl) ?_
  refine Ev.gi (e_X7_in  h) (fun r2 m1 h => ?_)
  refine vJ.iload_n dX7_want_7 rfl rfl ?_
  refine vJ.callV (ci := 7) (Yc := mX7_need) (frc := 2) (loc := 43) (as := [.int r2, .int l1]) dX7_want_8 rfl sh_163 (Nat.le_of_ble_eq_true rfl) rfl ml_RX7_162 im_yX7_need se_yX7_need co_X7_need in_TableSetterModel pl_X7_need (Nat.le_of_ble_eq_true rfl) (Nat.le_of_ble_eq_true rfl) (Nat.le_of_ble_eq_true rfl) ?_
  refine Ev.gi (e_X7_need  h) (fun r4 m3 h => ?_)
  refine vJ.istore_n (ls2 := [(0, .ref 163), (1, .int l1), (2, .int l2), (3, .int r4)]) dX7_want_11 rfl (Nat.le_of_ble_eq_true rfl) rfl ?_
  refine vJ.iload_n dX7_want_12 rfl rfl ?_
  refine vJ.if_ge (tgt := 20) dX7_want_13 (by decide) (fun hc7 => ?_) (fun hc7 => ?_)
  · replace h := h.1 hc7
    refine vJ.aload_n dX7_want_20 rfl rfl ?_
    refine vJ.iload_n dX7_want_21 rfl rfl ?_
    refine vJ.iload_n dX7_want_22 rfl rfl ?_
    refine vJ.callV (ci := 7) (Yc := mX7_wantOf) (frc := 1) (loc := 23) (as := [.int l1, .int l2]) dX7_want_23 rfl sh_163 (Nat.le_of_ble_eq_true rfl) rfl ml_RX7_175 im_yX7_wantOf se_yX7_wantOf co_X7_wantOf in_TableSetterModel pl_X7_wantOf (Nat.le_of_ble_eq_true rfl) (Nat.le_of_ble_eq_true rfl) (Nat.le_of_ble_eq_true rfl) ?_
    refine Ev.gi h (fun r6 m5 h => ?_)
    exact vJ.ireturn dX7_want_26 rfl rfl rfl ⟨rfl, _, rfl, h⟩
  · replace h := h.2 hc7
    refine vJ.iload_n dX7_want_16 rfl rfl ?_
    refine vJ.goto (tgt := 26) dX7_want_17 (by decide) ?_
    exact vJ.ireturn dX7_want_26 rfl rfl rfl ⟨rfl, _, rfl, h⟩
def EI_X7_want (l1 : Int32) (l2 : Int32) (m : vM) (P : Int32 → vM → Prop) : Prop := Ev mX7_want 3 65 197 [.ref 163, .int l1, .int l2] 197 SH m (vPi P)
theorem f_X7_want {l1 : Int32} {l2 : Int32} {m : vM} {P : Int32 → vM → Prop} (h : J_X7_want_0 l1 l2 m P) : EI_X7_want l1 l2 m P := Ev.of pn_X7_want (Nat.le_of_ble_eq_true rfl) h
theorem e_X7_want {l1 : Int32} {l2 : Int32} {m : vM} {P : Int32 → vM → Prop}  (h : wp_X7_want l1 l2 m P) : EI_X7_want l1 l2 m P := f_X7_want (b_X7_want  h)
def J_X7_share_0 (l1 : Int32) (l2 : Int32) (l3 : Int32) (m : vM) (P : vM → Prop) : Prop := vJ mX7_share 0 0 197 none 0 [(0, .ref 163), (1, .int l1), (2, .int l2), (3, .int l3)] [] 197 SH m (vPv P)
def J_X7_share_6 (l1 : Int32) (l2 : Int32) (l3 : Int32) (l4 : Int32) (l5 : Int32) (m : vM) (P : vM → Prop) : Prop := vJ mX7_share 0 0 197 none 6 [(0, .ref 163), (1, .int l1), (2, .int l2), (3, .int l3), (4, .int l4), (5, .int l5)] [] 197 SH m (vPv P)
def wp_X7_share_0 (l1 : Int32) (l2 : Int32) (l3 : Int32) (m : vM) (P : vM → Prop) : Prop :=
  J_X7_share_6 l1 l2 l3 (0 : Int32) l2 m P
set_option maxRecDepth 20000 in
set_option maxHeartbeats 4000000 in
theorem b_X7_share_0 {l1 : Int32} {l2 : Int32} {l3 : Int32} {m : vM} {P : vM → Prop}  (h : wp_X7_share_0 l1 l2 l3 m P) : J_X7_share_0 l1 l2 l3 m P := by
  show vJ mX7_share 0 0 197 none 0 [(0, .ref 163), (1, .int l1), (2, .int l2), (3, .int l3)] [] 197 SH m (vPv P)
  unfold wp_X7_share_0 at h
  refine vJ.iconst dX7_share_0 ci_0 ?_
  refine vJ.istore (ls2 := [(0, .ref 163), (1, .int l1), (2, .int l2), (3, .int l3), (4, .int (0 : Int32))]) dX7_share_1 (Nat.le_of_ble_eq_true rfl) rfl ?_
  refine vJ.iload_n dX7_share_3 rfl rfl ?_
  refine vJ.istore (ls2 := [(0, .ref 163), (1, .int l1), (2, .int l2), (3, .int l3), (4, .int (0 : Int32)), (5, .int l2)]) dX7_share_4 (Nat.le_of_ble_eq_true rfl) rfl ?_
  exact h
def EI_X7_share (l1 : Int32) (l2 : Int32) (l3 : Int32) (m : vM) (P : vM → Prop) : Prop := Ev mX7_share 0 0 197 [.ref 163, .int l1, .int l2, .int l3] 197 SH m (vPv P)
theorem f_X7_share {l1 : Int32} {l2 : Int32} {l3 : Int32} {m : vM} {P : vM → Prop} (h : J_X7_share_0 l1 l2 l3 m P) : EI_X7_share l1 l2 l3 m P := Ev.of pn_X7_share (Nat.le_of_ble_eq_true rfl) h
def J_X7_share_36 (l1 : Int32) (l2 : Int32) (l3 : Int32) (l4 : Int32) (l5 : Int32) (l6 : Int32) (m : vM) (P : vM → Prop) : Prop := vJ mX7_share 0 0 197 none 36 [(0, .ref 163), (1, .int l1), (2, .int l2), (3, .int l3), (4, .int l4), (5, .int l5), (6, .int l6)] [] 197 SH m (vPv P)
def wp_X7_share_6 (l1 : Int32) (l2 : Int32) (l3 : Int32) (l4 : Int32) (l5 : Int32) (m : vM) (P : vM → Prop) : Prop :=
  ((l3 ≤ l5 →
    J_X7_share_36 l1 l2 l3 l4 l1 l2 m P) ∧
  (¬ l3 ≤ l5 →
    vp_in l5 6 ∧
    ∀ v2 : Int32, v2 = (l4 + (m.1 178 (Int32.toNatClampNeg l5))) →
    J_X7_share_6 l1 l2 l3 v2 (l5 + (1 : Int32)) m P))
set_option maxRecDepth 20000 in
set_option maxHeartbeats 4000000 in
theorem b_X7_share_6 {l1 : Int32} {l2 : Int32} {l3 : Int32} {l4 : Int32} {l5 : Int32} {m : vM} {P : vM → Prop}  (h : wp_X7_share_6 l1 l2 l3 l4 l5 m P) : J_X7_share_6 l1 l2 l3 l4 l5 m P := by
  show vJ mX7_share 0 0 197 none 6 [(0, .ref 163), (1, .int l1), (2, .int l2), (3, .int l3), (4, .int l4), (5, .int l5)] [] 197 SH m (vPv P)
  unfold wp_X7_share_6 at h
  refine vJ.iload dX7_share_6 rfl ?_
  refine vJ.iload_n dX7_share_8 rfl rfl ?_
  refine vJ.icmp_ge (tgt := 30) dX7_share_9 (by decide) (fun hc3 => ?_) (fun hc3 => ?_)
  · replace h := h.1 hc3
    refine vJ.iload_n dX7_share_30 rfl rfl ?_
    refine vJ.istore (ls2 := [(0, .ref 163), (1, .int l1), (2, .int l2), (3, .int l3), (4, .int l4), (5, .int l1)]) dX7_share_31 (Nat.le_of_ble_eq_true rfl) rfl ?_
    refine vJ.iload_n dX7_share_33 rfl rfl ?_
    refine vJ.istore (ls2 := [(0, .ref 163), (1, .int l1), (2, .int l2), (3, .int l3), (4, .int l4), (5, .int l1), (6, .int l2)]) dX7_share_34 (Nat.le_of_ble_eq_true rfl) rfl ?_
    exact h
  · replace h := h.2 hc3
    refine vJ.iload dX7_share_12 rfl ?_
    refine vJ.aload_n dX7_share_14 rfl rfl ?_
    refine vJ.getR (ci := 7) (k := 20) (j := 178) dX7_share_15 sh_163 (Nat.le_of_ble_eq_true rfl) rfl inX7 (Nat.le_of_ble_eq_true rfl) rfl fl_RX7_53 ?_
    refine vJ.iload dX7_share_18 rfl ?_
    obtain ⟨hb1, h⟩ := h
    refine vJ.iald dX7_share_20 sh_178 (Nat.le_of_ble_eq_true rfl) hb1 ?_
    refine vJ.iadd dX7_share_21 ?_
    refine vJ.topi (fun v2 ev2 => ?_)
    replace h := h v2 ev2
    refine vJ.istore (ls2 := [(0, .ref 163), (1, .int l1), (2, .int l2), (3, .int l3), (4, .int v2), (5, .int l5)]) dX7_share_22 (Nat.le_of_ble_eq_true rfl) rfl ?_
    refine vJ.iinc (v := l5 + (1 : Int32)) (ls2 := [(0, .ref 163), (1, .int l1), (2, .int l2), (3, .int l3), (4, .int v2), (5, .int (l5 + (1 : Int32)))]) dX7_share_24 rfl (congrArg (l5 + ·) ci_1) (Nat.le_of_ble_eq_true rfl) rfl ?_
    refine vJ.goto (tgt := 6) dX7_share_27 (by decide) ?_
    exact h
def J_X7_share_98 (l2 : Int32) (l3 : Int32) (l5 : Int32) (m : vM) (P : vM → Prop) : Prop := vJ mX7_share 0 0 197 none 98 [(0, .ref 163), (2, .int l2), (3, .int l3), (5, .int l5)] [] 197 SH m (vPv P)
def wp_X7_share_36 (l1 : Int32) (l2 : Int32) (l3 : Int32) (l4 : Int32) (l5 : Int32) (l6 : Int32) (m : vM) (P : vM → Prop) : Prop :=
  ((l3 ≤ l6 →
    J_X7_share_98 l2 l3 l5 m P) ∧
  (¬ l3 ≤ l6 →
    vp_in l6 6 ∧
    (¬ l4 = 0) ∧
    vp_in l6 6 ∧
    ∀ m4 : vM, m4 = upI m 179 (Int32.toNatClampNeg l6) ((l1 * (m.1 178 (Int32.toNatClampNeg l6))) / l4) →
    vp_in l6 6 ∧
    (¬ l4 = 0) ∧
    vp_in l6 6 ∧
    ∀ m8 : vM, m8 = upI m4 180 (Int32.toNatClampNeg l6) ((l1 * (m4.1 178 (Int32.toNatClampNeg l6))) - (l1 * (m4.1 178 (Int32.toNatClampNeg l6))) / l4 * l4) →
    vp_in l6 6 ∧
    ∀ v10 : Int32, v10 = (l5 - (m8.1 179 (Int32.toNatClampNeg l6))) →
    J_X7_share_36 l1 l2 l3 l4 v10 (l6 + (1 : Int32)) m8 P))
set_option maxRecDepth 20000 in
set_option maxHeartbeats 4000000 in
theorem b_X7_share_36 {l1 : Int32} {l2 : Int32} {l3 : Int32} {l4 : Int32} {l5 : Int32} {l6 : Int32} {m : vM} {P : vM → Prop}  (h : wp_X7_share_36 l1 l2 l3 l4 l5 l6 m P) : J_X7_share_36 l1 l2 l3 l4 l5 l6 m P := by
  show vJ mX7_share 0 0 197 none 36 [(0, .ref 163), (1, .int l1), (2, .int l2), (3, .int l3), (4, .int l4), (5, .int l5), (6, .int l6)] [] 197 SH m (vPv P)
  unfold wp_X7_share_36 at h
  refine vJ.iload dX7_share_36 rfl ?_
  refine vJ.iload_n dX7_share_38 rfl rfl ?_
  refine vJ.icmp_ge (tgt := 98) dX7_share_39 (by decide) (fun hc11 => ?_) (fun hc11 => ?_)
  · replace h := h.1 hc11
    refine vJ.sub [0, 2, 3, 5] rfl ?_
    exact h
  · replace h := h.2 hc11
    refine vJ.aload_n dX7_share_42 rfl rfl ?_
    refine vJ.getR (ci := 7) (k := 21) (j := 179) dX7_share_43 sh_163 (Nat.le_of_ble_eq_true rfl) rfl inX7 (Nat.le_of_ble_eq_true rfl) rfl fl_RX7_56 ?_
    refine vJ.iload dX7_share_46 rfl ?_
    refine vJ.iload_n dX7_share_48 rfl rfl ?_
    refine vJ.aload_n dX7_share_49 rfl rfl ?_
    refine vJ.getR (ci := 7) (k := 20) (j := 178) dX7_share_50 sh_163 (Nat.le_of_ble_eq_true rfl) rfl inX7 (Nat.le_of_ble_eq_true rfl) rfl fl_RX7_53 ?_
    refine vJ.iload dX7_share_53 rfl ?_
    obtain ⟨hb1, h⟩ := h
    refine vJ.iald dX7_share_55 sh_178 (Nat.le_of_ble_eq_true rfl) hb1 ?_
    refine vJ.imul dX7_share_56 ?_
    refine vJ.iload dX7_share_57 rfl ?_
    obtain ⟨hz2, h⟩ := h
    refine vJ.idiv dX7_share_59 hz2 ?_
    obtain ⟨hb3, h⟩ := h
    refine vJ.iast dX7_share_60 sh_179 (Nat.le_of_ble_eq_true rfl) hb3 ?_
    refine vJ.topm (fun m4 em4 => ?_)
    replace h := h m4 em4
    refine vJ.aload_n dX7_share_61 rfl rfl ?_
    refine vJ.getR (ci := 7) (k := 22) (j := 180) dX7_share_62 sh_163 (Nat.le_of_ble_eq_true rfl) rfl inX7 (Nat.le_of_ble_eq_true rfl) rfl fl_RX7_59 ?_
    refine vJ.iload dX7_share_65 rfl ?_
    refine vJ.iload_n dX7_share_67 rfl rfl ?_
    refine vJ.aload_n dX7_share_68 rfl rfl ?_
    refine vJ.getR (ci := 7) (k := 20) (j := 178) dX7_share_69 sh_163 (Nat.le_of_ble_eq_true rfl) rfl inX7 (Nat.le_of_ble_eq_true rfl) rfl fl_RX7_53 ?_
    refine vJ.iload dX7_share_72 rfl ?_
    obtain ⟨hb5, h⟩ := h
    refine vJ.iald dX7_share_74 sh_178 (Nat.le_of_ble_eq_true rfl) hb5 ?_
    refine vJ.imul dX7_share_75 ?_
    refine vJ.iload dX7_share_76 rfl ?_
    obtain ⟨hz6, h⟩ := h
    refine vJ.irem dX7_share_78 hz6 ?_
    obtain ⟨hb7, h⟩ := h
    refine vJ.iast dX7_share_79 sh_180 (Nat.le_of_ble_eq_true rfl) hb7 ?_
    refine vJ.topm (fun m8 em8 => ?_)
    replace h := h m8 em8
    refine vJ.iload dX7_share_80 rfl ?_
    refine vJ.aload_n dX7_share_82 rfl rfl ?_
    refine vJ.getR (ci := 7) (k := 21) (j := 179) dX7_share_83 sh_163 (Nat.le_of_ble_eq_true rfl) rfl inX7 (Nat.le_of_ble_eq_true rfl) rfl fl_RX7_56 ?_
    refine vJ.iload dX7_share_86 rfl ?_
    obtain ⟨hb9, h⟩ := h
    refine vJ.iald dX7_share_88 sh_179 (Nat.le_of_ble_eq_true rfl) hb9 ?_
    refine vJ.isub dX7_share_89 ?_
    refine vJ.topi (fun v10 ev10 => ?_)
    replace h := h v10 ev10
    refine vJ.istore (ls2 := [(0, .ref 163), (1, .int l1), (2, .int l2), (3, .int l3), (4, .int l4), (5, .int v10), (6, .int l6)]) dX7_share_90 (Nat.le_of_ble_eq_true rfl) rfl ?_
    refine vJ.iinc (v := l6 + (1 : Int32)) (ls2 := [(0, .ref 163), (1, .int l1), (2, .int l2), (3, .int l3), (4, .int l4), (5, .int v10), (6, .int (l6 + (1 : Int32)))]) dX7_share_92 rfl (congrArg (l6 + ·) ci_1) (Nat.le_of_ble_eq_true rfl) rfl ?_
    refine vJ.goto (tgt := 36) dX7_share_95 (by decide) ?_
    exact h
def J_X7_share_109 (l2 : Int32) (l3 : Int32) (l5 : Int32) (l6 : Int32) (l7 : Int32) (m : vM) (P : vM → Prop) : Prop := vJ mX7_share 0 0 197 none 109 [(0, .ref 163), (2, .int l2), (3, .int l3), (5, .int l5), (6, .int l6), (7, .int l7)] [] 197 SH m (vPv P)
def wp_X7_share_98 (l2 : Int32) (l3 : Int32) (l5 : Int32) (m : vM) (P : vM → Prop) : Prop :=
  ((l5 ≤ (0 : Int32) →
    P m) ∧
  (¬ l5 ≤ (0 : Int32) →
    J_X7_share_109 l2 l3 l5 l2 l2 m P))
set_option maxRecDepth 20000 in
set_option maxHeartbeats 4000000 in
theorem b_X7_share_98 {l2 : Int32} {l3 : Int32} {l5 : Int32} {m : vM} {P : vM → Prop}  (h : wp_X7_share_98 l2 l3 l5 m P) : J_X7_share_98 l2 l3 l5 m P := by
  show vJ mX7_share 0 0 197 none 98 [(0, .ref 163), (2, .int l2), (3, .int l3), (5, .int l5)] [] 197 SH m (vPv P)
  unfold wp_X7_share_98 at h
  refine vJ.iload dX7_share_98 rfl ?_
  refine vJ.if_le (tgt := 172) dX7_share_100 (by decide) (fun hc1 => ?_) (fun hc1 => ?_)
  · replace h := h.1 hc1
    exact vJ.vreturn dX7_share_172 rfl rfl ⟨rfl, rfl, h⟩
  · replace h := h.2 hc1
    refine vJ.iload_n dX7_share_103 rfl rfl ?_
    refine vJ.istore (ls2 := [(0, .ref 163), (2, .int l2), (3, .int l3), (5, .int l5), (6, .int l2)]) dX7_share_104 (Nat.le_of_ble_eq_true rfl) rfl ?_
    refine vJ.iload_n dX7_share_106 rfl rfl ?_
    refine vJ.istore (ls2 := [(0, .ref 163), (2, .int l2), (3, .int l3), (5, .int l5), (6, .int l2), (7, .int l2)]) dX7_share_107 (Nat.le_of_ble_eq_true rfl) rfl ?_
    exact h
def wp_X7_share_109 (l2 : Int32) (l3 : Int32) (l5 : Int32) (l6 : Int32) (l7 : Int32) (m : vM) (P : vM → Prop) : Prop :=
  ((l3 ≤ l7 →
    vp_in l6 6 ∧
    vp_in l6 6 ∧
    ∀ m3 : vM, m3 = upI m 179 (Int32.toNatClampNeg l6) ((m.1 179 (Int32.toNatClampNeg l6)) + (1 : Int32)) →
    vp_in l6 6 ∧
    ∀ m5 : vM, m5 = upI m3 180 (Int32.toNatClampNeg l6) (-1 : Int32) →
    J_X7_share_98 l2 l3 (l5 + (-1 : Int32)) m5 P) ∧
  (¬ l3 ≤ l7 →
    vp_in l7 6 ∧
    vp_in l6 6 ∧
    (((m.1 180 (Int32.toNatClampNeg l7)) ≤ (m.1 180 (Int32.toNatClampNeg l6)) →
      J_X7_share_109 l2 l3 l5 l6 (l7 + (1 : Int32)) m P) ∧
    (¬ (m.1 180 (Int32.toNatClampNeg l7)) ≤ (m.1 180 (Int32.toNatClampNeg l6)) →
      J_X7_share_109 l2 l3 l5 l7 (l7 + (1 : Int32)) m P))))
set_option maxRecDepth 20000 in
set_option maxHeartbeats 4000000 in
theorem b_X7_share_109 {l2 : Int32} {l3 : Int32} {l5 : Int32} {l6 : Int32} {l7 : Int32} {m : vM} {P : vM → Prop}  (h : wp_X7_share_109 l2 l3 l5 l6 l7 m P) : J_X7_share_109 l2 l3 l5 l6 l7 m P := by
  show vJ mX7_share 0 0 197 none 109 [(0, .ref 163), (2, .int l2), (3, .int l3), (5, .int l5), (6, .int l6), (7, .int l7)] [] 197 SH m (vPv P)
  unfold wp_X7_share_109 at h
  refine vJ.iload dX7_share_109 rfl ?_
  refine vJ.iload_n dX7_share_111 rfl rfl ?_
  refine vJ.icmp_ge (tgt := 147) dX7_share_112 (by decide) (fun hc9 => ?_) (fun hc9 => ?_)
  · replace h := h.1 hc9
    refine vJ.aload_n dX7_share_147 rfl rfl ?_
    refine vJ.getR (ci := 7) (k := 21) (j := 179) dX7_share_148 sh_163 (Nat.le_of_ble_eq_true rfl) rfl inX7 (Nat.le_of_ble_eq_true rfl) rfl fl_RX7_56 ?_
    refine vJ.iload dX7_share_151 rfl ?_
    refine vJ.dup2 dX7_share_153 rfl rfl ?_
    obtain ⟨hb1, h⟩ := h
    refine vJ.iald dX7_share_154 sh_179 (Nat.le_of_ble_eq_true rfl) hb1 ?_
    refine vJ.iconst dX7_share_155 ci_1 ?_
    refine vJ.iadd dX7_share_156 ?_
    obtain ⟨hb2, h⟩ := h
    refine vJ.iast dX7_share_157 sh_179 (Nat.le_of_ble_eq_true rfl) hb2 ?_
    refine vJ.topm (fun m3 em3 => ?_)
    replace h := h m3 em3
    refine vJ.aload_n dX7_share_158 rfl rfl ?_
    refine vJ.getR (ci := 7) (k := 22) (j := 180) dX7_share_159 sh_163 (Nat.le_of_ble_eq_true rfl) rfl inX7 (Nat.le_of_ble_eq_true rfl) rfl fl_RX7_59 ?_
    refine vJ.iload dX7_share_162 rfl ?_
    refine vJ.iconst dX7_share_164 ci_m1 ?_
    obtain ⟨hb4, h⟩ := h
    refine vJ.iast dX7_share_165 sh_180 (Nat.le_of_ble_eq_true rfl) hb4 ?_
    refine vJ.topm (fun m5 em5 => ?_)
    replace h := h m5 em5
    refine vJ.iinc (v := l5 + (-1 : Int32)) (ls2 := [(0, .ref 163), (2, .int l2), (3, .int l3), (5, .int (l5 + (-1 : Int32))), (6, .int l6), (7, .int l7)]) dX7_share_166 rfl (congrArg (l5 + ·) ci_m1) (Nat.le_of_ble_eq_true rfl) rfl ?_
    refine vJ.goto (tgt := 98) dX7_share_169 (by decide) ?_
    refine vJ.sub [0, 1, 2, 3] rfl ?_
    exact h
  · replace h := h.2 hc9
    refine vJ.aload_n dX7_share_115 rfl rfl ?_
    refine vJ.getR (ci := 7) (k := 22) (j := 180) dX7_share_116 sh_163 (Nat.le_of_ble_eq_true rfl) rfl inX7 (Nat.le_of_ble_eq_true rfl) rfl fl_RX7_59 ?_
    refine vJ.iload dX7_share_119 rfl ?_
    obtain ⟨hb6, h⟩ := h
    refine vJ.iald dX7_share_121 sh_180 (Nat.le_of_ble_eq_true rfl) hb6 ?_
    refine vJ.aload_n dX7_share_122 rfl rfl ?_
    refine vJ.getR (ci := 7) (k := 22) (j := 180) dX7_share_123 sh_163 (Nat.le_of_ble_eq_true rfl) rfl inX7 (Nat.le_of_ble_eq_true rfl) rfl fl_RX7_59 ?_
    refine vJ.iload dX7_share_126 rfl ?_
    obtain ⟨hb7, h⟩ := h
    refine vJ.iald dX7_share_128 sh_180 (Nat.le_of_ble_eq_true rfl) hb7 ?_
    refine vJ.icmp_le (tgt := 137) dX7_share_129 (by decide) (fun hc8 => ?_) (fun hc8 => ?_)
    · replace h := h.1 hc8
      refine vJ.iload dX7_share_137 rfl ?_
      refine vJ.istore (ls2 := [(0, .ref 163), (2, .int l2), (3, .int l3), (5, .int l5), (6, .int l6), (7, .int l7)]) dX7_share_139 (Nat.le_of_ble_eq_true rfl) rfl ?_
      refine vJ.iinc (v := l7 + (1 : Int32)) (ls2 := [(0, .ref 163), (2, .int l2), (3, .int l3), (5, .int l5), (6, .int l6), (7, .int (l7 + (1 : Int32)))]) dX7_share_141 rfl (congrArg (l7 + ·) ci_1) (Nat.le_of_ble_eq_true rfl) rfl ?_
      refine vJ.goto (tgt := 109) dX7_share_144 (by decide) ?_
      exact h
    · replace h := h.2 hc8
      refine vJ.iload dX7_share_132 rfl ?_
      refine vJ.goto (tgt := 139) dX7_share_134 (by decide) ?_
      refine vJ.istore (ls2 := [(0, .ref 163), (2, .int l2), (3, .int l3), (5, .int l5), (6, .int l7), (7, .int l7)]) dX7_share_139 (Nat.le_of_ble_eq_true rfl) rfl ?_
      refine vJ.iinc (v := l7 + (1 : Int32)) (ls2 := [(0, .ref 163), (2, .int l2), (3, .int l3), (5, .int l5), (6, .int l7), (7, .int (l7 + (1 : Int32)))]) dX7_share_141 rfl (congrArg (l7 + ·) ci_1) (Nat.le_of_ble_eq_true rfl) rfl ?_
      refine vJ.goto (tgt := 109) dX7_share_144 (by decide) ?_
      exact h
def J_X7_widthOver_0 (a1 : Nat) (n1 : Nat) (l2 : Int32) (l3 : Int32) (m : vM) (P : Int32 → vM → Prop) : Prop := vJ mX7_widthOver 0 0 197 none 0 [(0, .ref 163), (1, .ref a1), (2, .int l2), (3, .int l3)] [] 197 SH m (vPi P)
def J_X7_widthOver_13 (a1 : Nat) (n1 : Nat) (l2 : Int32) (l3 : Int32) (l4 : Int32) (l5 : Int32) (m : vM) (P : Int32 → vM → Prop) : Prop := vJ mX7_widthOver 0 0 197 none 13 [(1, .ref a1), (2, .int l2), (3, .int l3), (4, .int l4), (5, .int l5)] [] 197 SH m (vPi P)
def wp_X7_widthOver_0 (a1 : Nat) (n1 : Nat) (l2 : Int32) (l3 : Int32) (m : vM) (P : Int32 → vM → Prop) : Prop :=
  ∀ v1 : Int32, v1 = ((l3 - (1 : Int32)) * (m.1 163 4)) →
  J_X7_widthOver_13 a1 n1 l2 l3 v1 l2 m P
set_option maxRecDepth 20000 in
set_option maxHeartbeats 4000000 in
theorem b_X7_widthOver_0 {a1 : Nat} {n1 : Nat} {l2 : Int32} {l3 : Int32} {m : vM} {P : Int32 → vM → Prop} (ha1 : SH a1 = (0, n1, vz)) (hw1 : a1 < 197) (h : wp_X7_widthOver_0 a1 n1 l2 l3 m P) : J_X7_widthOver_0 a1 n1 l2 l3 m P := by
  show vJ mX7_widthOver 0 0 197 none 0 [(0, .ref 163), (1, .ref a1), (2, .int l2), (3, .int l3)] [] 197 SH m (vPi P)
  unfold wp_X7_widthOver_0 at h
  refine vJ.iload_n dX7_widthOver_0 rfl rfl ?_
  refine vJ.iconst dX7_widthOver_1 ci_1 ?_
  refine vJ.isub dX7_widthOver_2 ?_
  refine vJ.aload_n dX7_widthOver_3 rfl rfl ?_
  refine vJ.getI (ci := 7) (k := 4) dX7_widthOver_4 sh_163 (Nat.le_of_ble_eq_true rfl) rfl inX7 (Nat.le_of_ble_eq_true rfl) rfl fl_RX7_129 ?_
  refine vJ.imul dX7_widthOver_7 ?_
  refine vJ.topi (fun v1 ev1 => ?_)
  replace h := h v1 ev1
  refine vJ.istore (ls2 := [(0, .ref 163), (1, .ref a1), (2, .int l2), (3, .int l3), (4, .int v1)]) dX7_widthOver_8 (Nat.le_of_ble_eq_true rfl) rfl ?_
  refine vJ.iload_n dX7_widthOver_10 rfl rfl ?_
  refine vJ.istore (ls2 := [(0, .ref 163), (1, .ref a1), (2, .int l2), (3, .int l3), (4, .int v1), (5, .int l2)]) dX7_widthOver_11 (Nat.le_of_ble_eq_true rfl) rfl ?_
  refine vJ.sub [1, 2, 3, 4, 5] rfl ?_
  exact h
def EI_X7_widthOver (a1 : Nat) (n1 : Nat) (l2 : Int32) (l3 : Int32) (m : vM) (P : Int32 → vM → Prop) : Prop := Ev mX7_widthOver 0 0 197 [.ref 163, .ref a1, .int l2, .int l3] 197 SH m (vPi P)
theorem f_X7_widthOver {a1 : Nat} {n1 : Nat} {l2 : Int32} {l3 : Int32} {m : vM} {P : Int32 → vM → Prop} (h : J_X7_widthOver_0 a1 n1 l2 l3 m P) : EI_X7_widthOver a1 n1 l2 l3 m P := Ev.of pn_X7_widthOver (Nat.le_of_ble_eq_true rfl) h
def wp_X7_widthOver_13 (a1 : Nat) (n1 : Nat) (l2 : Int32) (l3 : Int32) (l4 : Int32) (l5 : Int32) (m : vM) (P : Int32 → vM → Prop) : Prop :=
  (((l2 + l3) ≤ l5 →
    P l4 m) ∧
  (¬ (l2 + l3) ≤ l5 →
    vp_in l5 n1 ∧
    ∀ v2 : Int32, v2 = (l4 + (m.1 a1 (Int32.toNatClampNeg l5))) →
    J_X7_widthOver_13 a1 n1 l2 l3 v2 (l5 + (1 : Int32)) m P))
set_option maxRecDepth 20000 in
set_option maxHeartbeats 4000000 in
theorem b_X7_widthOver_13 {a1 : Nat} {n1 : Nat} {l2 : Int32} {l3 : Int32} {l4 : Int32} {l5 : Int32} {m : vM} {P : Int32 → vM → Prop} (ha1 : SH a1 = (0, n1, vz)) (hw1 : a1 < 197) (h : wp_X7_widthOver_13 a1 n1 l2 l3 l4 l5 m P) : J_X7_widthOver_13 a1 n1 l2 l3 l4 l5 m P := by
  show vJ mX7_widthOver 0 0 197 none 13 [(1, .ref a1), (2, .int l2), (3, .int l3), (4, .int l4), (5, .int l5)] [] 197 SH m (vPi P)
  unfold wp_X7_widthOver_13 at h
  refine vJ.iload dX7_widthOver_13 rfl ?_
  refine vJ.iload_n dX7_widthOver_15 rfl rfl ?_
  refine vJ.iload_n dX7_widthOver_16 rfl rfl ?_
  refine vJ.iadd dX7_widthOver_17 ?_
  refine vJ.icmp_ge (tgt := 36) dX7_widthOver_18 (by decide) (fun hc3 => ?_) (fun hc3 => ?_)
  · replace h := h.1 hc3
    refine vJ.iload dX7_widthOver_36 rfl ?_
    exact vJ.ireturn dX7_widthOver_38 rfl rfl rfl ⟨rfl, _, rfl, h⟩
  · replace h := h.2 hc3
    refine vJ.iload dX7_widthOver_21 rfl ?_
    refine vJ.aload_n dX7_widthOver_23 rfl rfl ?_
    refine vJ.iload dX7_widthOver_24 rfl ?_
    obtain ⟨hb1, h⟩ := h
    refine vJ.iald dX7_widthOver_26 ha1 hw1 hb1 ?_
    refine vJ.iadd dX7_widthOver_27 ?_
    refine vJ.topi (fun v2 ev2 => ?_)
    replace h := h v2 ev2
    refine vJ.istore (ls2 := [(1, .ref a1), (2, .int l2), (3, .int l3), (4, .int v2), (5, .int l5)]) dX7_widthOver_28 (Nat.le_of_ble_eq_true rfl) rfl ?_
    refine vJ.iinc (v := l5 + (1 : Int32)) (ls2 := [(1, .ref a1), (2, .int l2), (3, .int l3), (4, .int v2), (5, .int (l5 + (1 : Int32)))]) dX7_widthOver_30 rfl (congrArg (l5 + ·) ci_1) (Nat.le_of_ble_eq_true rfl) rfl ?_
    refine vJ.goto (tgt := 13) dX7_widthOver_33 (by decide) ?_
    exact h
def J_X7_lacks_0 (l1 : Int32) (l2 : Int32) (l3 : Int32) (m : vM) (P : vM → Prop) : Prop := vJ mX7_lacks 1 27 197 none 0 [(0, .ref 163), (1, .int l1), (2, .int l2), (3, .int l3)] [] 197 SH m (vPv P)
def J_X7_lacks_8 (l1 : Int32) (l2 : Int32) (l3 : Int32) (l4 : Int32) (m : vM) (P : vM → Prop) : Prop := vJ mX7_lacks 1 27 197 none 8 [(0, .ref 163), (1, .int l1), (2, .int l2), (3, .int l3), (4, .int l4)] [] 197 SH m (vPv P)
def wp_X7_lacks_0 (l1 : Int32) (l2 : Int32) (l3 : Int32) (m : vM) (P : vM → Prop) : Prop :=
  (((0 : Int32) < l1 →
    J_X7_lacks_8 l1 l2 l3 l2 m P) ∧
  (¬ (0 : Int32) < l1 →
    P m))
set_option maxRecDepth 20000 in
set_option maxHeartbeats 4000000 in
theorem b_X7_lacks_0 {l1 : Int32} {l2 : Int32} {l3 : Int32} {m : vM} {P : vM → Prop}  (h : wp_X7_lacks_0 l1 l2 l3 m P) : J_X7_lacks_0 l1 l2 l3 m P := by
  show vJ mX7_lacks 1 27 197 none 0 [(0, .ref 163), (1, .int l1), (2, .int l2), (3, .int l3)] [] 197 SH m (vPv P)
  unfold wp_X7_lacks_0 at h
  refine vJ.iload_n dX7_lacks_0 rfl rfl ?_
  refine vJ.if_gt (tgt := 5) dX7_lacks_1 (by decide) (fun hc1 => ?_) (fun hc1 => ?_)
  · replace h := h.1 hc1
    refine vJ.iload_n dX7_lacks_5 rfl rfl ?_
    refine vJ.istore (ls2 := [(0, .ref 163), (1, .int l1), (2, .int l2), (3, .int l3), (4, .int l2)]) dX7_lacks_6 (Nat.le_of_ble_eq_true rfl) rfl ?_
    exact h
  · replace h := h.2 hc1
    exact vJ.vreturn dX7_lacks_4 rfl rfl ⟨rfl, rfl, h⟩
def EI_X7_lacks (l1 : Int32) (l2 : Int32) (l3 : Int32) (m : vM) (P : vM → Prop) : Prop := Ev mX7_lacks 1 27 197 [.ref 163, .int l1, .int l2, .int l3] 197 SH m (vPv P)
theorem f_X7_lacks {l1 : Int32} {l2 : Int32} {l3 : Int32} {m : vM} {P : vM → Prop} (h : J_X7_lacks_0 l1 l2 l3 m P) : EI_X7_lacks l1 l2 l3 m P := Ev.of pn_X7_lacks (Nat.le_of_ble_eq_true rfl) h
def J_X7_lacks_48 (l2 : Int32) (l3 : Int32) (l4 : Int32) (m : vM) (P : vM → Prop) : Prop := vJ mX7_lacks 1 27 197 none 48 [(0, .ref 163), (2, .int l2), (3, .int l3), (4, .int l4)] [] 197 SH m (vPv P)
def wp_X7_lacks_8 (l1 : Int32) (l2 : Int32) (l3 : Int32) (l4 : Int32) (m : vM) (P : vM → Prop) : Prop :=
  (((l2 + l3) ≤ l4 →
    EI_X7_share l1 l2 (l2 + l3) m (fun m1 =>
      J_X7_lacks_48 l2 l3 l2 m1 P)) ∧
  (¬ (l2 + l3) ≤ l4 →
    vp_in l4 6 ∧
    vp_in l4 6 ∧
    ∀ m4 : vM, m4 = upI m 178 (Int32.toNatClampNeg l4) (m.1 165 (Int32.toNatClampNeg l4)) →
    J_X7_lacks_8 l1 l2 l3 (l4 + (1 : Int32)) m4 P))
set_option maxRecDepth 20000 in
set_option maxHeartbeats 4000000 in
theorem b_X7_lacks_8 {l1 : Int32} {l2 : Int32} {l3 : Int32} {l4 : Int32} {m : vM} {P : vM → Prop}  (h : wp_X7_lacks_8 l1 l2 l3 l4 m P) : J_X7_lacks_8 l1 l2 l3 l4 m P := by
  show vJ mX7_lacks 1 27 197 none 8 [(0, .ref 163), (1, .int l1), (2, .int l2), (3, .int l3), (4, .int l4)] [] 197 SH m (vPv P)
  unfold wp_X7_lacks_8 at h
  refine vJ.iload dX7_lacks_8 rfl ?_
  refine vJ.iload_n dX7_lacks_10 rfl rfl ?_
  refine vJ.iload_n dX7_lacks_11 rfl rfl ?_
  refine vJ.iadd dX7_lacks_12 ?_
  refine vJ.icmp_ge (tgt := 36) dX7_lacks_13 (by decide) (fun hc5 => ?_) (fun hc5 => ?_)
  · replace h := h.1 hc5
    refine vJ.aload_n dX7_lacks_36 rfl rfl ?_
    refine vJ.iload_n dX7_lacks_37 rfl rfl ?_
    refine vJ.iload_n dX7_lacks_38 rfl rfl ?_
    refine vJ.iload_n dX7_lacks_39 rfl rfl ?_
    refine vJ.iload_n dX7_lacks_40 rfl rfl ?_
    refine vJ.iadd dX7_lacks_41 ?_
    refine vJ.callV (ci := 7) (Yc := mX7_share) (frc := 0) (loc := 0) (as := [.int l1, .int l2, .int (l2 + l3)]) dX7_lacks_42 rfl sh_163 (Nat.le_of_ble_eq_true rfl) rfl ml_RX7_185 im_yX7_share se_yX7_share co_X7_share in_TableSetterModel pl_X7_share (Nat.le_of_ble_eq_true rfl) (Nat.le_of_ble_eq_true rfl) (Nat.le_of_ble_eq_true rfl) ?_
    refine Ev.gv h (fun m1 h => ?_)
    refine vJ.iload_n dX7_lacks_45 rfl rfl ?_
    refine vJ.istore (ls2 := [(0, .ref 163), (1, .int l1), (2, .int l2), (3, .int l3), (4, .int l2)]) dX7_lacks_46 (Nat.le_of_ble_eq_true rfl) rfl ?_
    refine vJ.sub [0, 2, 3, 4] rfl ?_
    exact h
  · replace h := h.2 hc5
    refine vJ.aload_n dX7_lacks_16 rfl rfl ?_
    refine vJ.getR (ci := 7) (k := 20) (j := 178) dX7_lacks_17 sh_163 (Nat.le_of_ble_eq_true rfl) rfl inX7 (Nat.le_of_ble_eq_true rfl) rfl fl_RX7_53 ?_
    refine vJ.iload dX7_lacks_20 rfl ?_
    refine vJ.aload_n dX7_lacks_22 rfl rfl ?_
    refine vJ.getR (ci := 7) (k := 5) (j := 165) dX7_lacks_23 sh_163 (Nat.le_of_ble_eq_true rfl) rfl inX7 (Nat.le_of_ble_eq_true rfl) rfl fl_RX7_13 ?_
    refine vJ.iload dX7_lacks_26 rfl ?_
    obtain ⟨hb2, h⟩ := h
    refine vJ.iald dX7_lacks_28 sh_165 (Nat.le_of_ble_eq_true rfl) hb2 ?_
    obtain ⟨hb3, h⟩ := h
    refine vJ.iast dX7_lacks_29 sh_178 (Nat.le_of_ble_eq_true rfl) hb3 ?_
    refine vJ.topm (fun m4 em4 => ?_)
    replace h := h m4 em4
    refine vJ.iinc (v := l4 + (1 : Int32)) (ls2 := [(0, .ref 163), (1, .int l1), (2, .int l2), (3, .int l3), (4, .int (l4 + (1 : Int32)))]) dX7_lacks_30 rfl (congrArg (l4 + ·) ci_1) (Nat.le_of_ble_eq_true rfl) rfl ?_
    refine vJ.goto (tgt := 8) dX7_lacks_33 (by decide) ?_
    exact h
def wp_X7_lacks_48 (l2 : Int32) (l3 : Int32) (l4 : Int32) (m : vM) (P : vM → Prop) : Prop :=
  (((l2 + l3) ≤ l4 →
    P m) ∧
  (¬ (l2 + l3) ≤ l4 →
    vp_in l4 6 ∧
    vp_in l4 6 ∧
    (((m.1 179 (Int32.toNatClampNeg l4)) ≤ (m.1 184 (Int32.toNatClampNeg l4)) →
      vp_in l4 6 ∧
      vp_in l4 6 ∧
      ∀ m5 : vM, m5 = upI m 184 (Int32.toNatClampNeg l4) (m.1 184 (Int32.toNatClampNeg l4)) →
      J_X7_lacks_48 l2 l3 (l4 + (1 : Int32)) m5 P) ∧
    (¬ (m.1 179 (Int32.toNatClampNeg l4)) ≤ (m.1 184 (Int32.toNatClampNeg l4)) →
      vp_in l4 6 ∧
      vp_in l4 6 ∧
      ∀ m8 : vM, m8 = upI m 184 (Int32.toNatClampNeg l4) (m.1 179 (Int32.toNatClampNeg l4)) →
      J_X7_lacks_48 l2 l3 (l4 + (1 : Int32)) m8 P))))
set_option maxRecDepth 20000 in
set_option maxHeartbeats 4000000 in
theorem b_X7_lacks_48 {l2 : Int32} {l3 : Int32} {l4 : Int32} {m : vM} {P : vM → Prop}  (h : wp_X7_lacks_48 l2 l3 l4 m P) : J_X7_lacks_48 l2 l3 l4 m P := by
  show vJ mX7_lacks 1 27 197 none 48 [(0, .ref 163), (2, .int l2), (3, .int l3), (4, .int l4)] [] 197 SH m (vPv P)
  unfold wp_X7_lacks_48 at h
  refine vJ.iload dX7_lacks_48 rfl ?_
  refine vJ.iload_n dX7_lacks_50 rfl rfl ?_
  refine vJ.iload_n dX7_lacks_51 rfl rfl ?_
  refine vJ.iadd dX7_lacks_52 ?_
  refine vJ.icmp_ge (tgt := 103) dX7_lacks_53 (by decide) (fun hc10 => ?_) (fun hc10 => ?_)
  · replace h := h.1 hc10
    exact vJ.vreturn dX7_lacks_103 rfl rfl ⟨rfl, rfl, h⟩
  · replace h := h.2 hc10
    refine vJ.aload_n dX7_lacks_56 rfl rfl ?_
    refine vJ.getR (ci := 7) (k := 26) (j := 184) dX7_lacks_57 sh_163 (Nat.le_of_ble_eq_true rfl) rfl inX7 (Nat.le_of_ble_eq_true rfl) rfl fl_RX7_71 ?_
    refine vJ.iload dX7_lacks_60 rfl ?_
    refine vJ.aload_n dX7_lacks_62 rfl rfl ?_
    refine vJ.getR (ci := 7) (k := 21) (j := 179) dX7_lacks_63 sh_163 (Nat.le_of_ble_eq_true rfl) rfl inX7 (Nat.le_of_ble_eq_true rfl) rfl fl_RX7_56 ?_
    refine vJ.iload dX7_lacks_66 rfl ?_
    obtain ⟨hb1, h⟩ := h
    refine vJ.iald dX7_lacks_68 sh_179 (Nat.le_of_ble_eq_true rfl) hb1 ?_
    refine vJ.aload_n dX7_lacks_69 rfl rfl ?_
    refine vJ.getR (ci := 7) (k := 26) (j := 184) dX7_lacks_70 sh_163 (Nat.le_of_ble_eq_true rfl) rfl inX7 (Nat.le_of_ble_eq_true rfl) rfl fl_RX7_71 ?_
    refine vJ.iload dX7_lacks_73 rfl ?_
    obtain ⟨hb2, h⟩ := h
    refine vJ.iald dX7_lacks_75 sh_184 (Nat.le_of_ble_eq_true rfl) hb2 ?_
    refine vJ.icmp_le (tgt := 89) dX7_lacks_76 (by decide) (fun hc9 => ?_) (fun hc9 => ?_)
    · replace h := h.1 hc9
      refine vJ.aload_n dX7_lacks_89 rfl rfl ?_
      refine vJ.getR (ci := 7) (k := 26) (j := 184) dX7_lacks_90 sh_163 (Nat.le_of_ble_eq_true rfl) rfl inX7 (Nat.le_of_ble_eq_true rfl) rfl fl_RX7_71 ?_
      refine vJ.iload dX7_lacks_93 rfl ?_
      obtain ⟨hb3, h⟩ := h
      refine vJ.iald dX7_lacks_95 sh_184 (Nat.le_of_ble_eq_true rfl) hb3 ?_
      obtain ⟨hb4, h⟩ := h
      refine vJ.iast dX7_lacks_96 sh_184 (Nat.le_of_ble_eq_true rfl) hb4 ?_
      refine vJ.topm (fun m5 em5 => ?_)
      replace h := h m5 em5
      refine vJ.iinc (v := l4 + (1 : Int32)) (ls2 := [(0, .ref 163), (2, .int l2), (3, .int l3), (4, .int (l4 + (1 : Int32)))]) dX7_lacks_97 rfl (congrArg (l4 + ·) ci_1) (Nat.le_of_ble_eq_true rfl) rfl ?_
      refine vJ.goto (tgt := 48) dX7_lacks_100 (by decide) ?_
      exact h
    · replace h := h.2 hc9
      refine vJ.aload_n dX7_lacks_79 rfl rfl ?_
      refine vJ.getR (ci := 7) (k := 21) (j := 179) dX7_lacks_80 sh_163 (Nat.le_of_ble_eq_true rfl) rfl inX7 (Nat.le_of_ble_eq_true rfl) rfl fl_RX7_56 ?_
      refine vJ.iload dX7_lacks_83 rfl ?_
      obtain ⟨hb6, h⟩ := h
      refine vJ.iald dX7_lacks_85 sh_179 (Nat.le_of_ble_eq_true rfl) hb6 ?_
      refine vJ.goto (tgt := 96) dX7_lacks_86 (by decide) ?_
      obtain ⟨hb7, h⟩ := h
      refine vJ.iast dX7_lacks_96 sh_184 (Nat.le_of_ble_eq_true rfl) hb7 ?_
      refine vJ.topm (fun m8 em8 => ?_)
      replace h := h m8 em8
      refine vJ.iinc (v := l4 + (1 : Int32)) (ls2 := [(0, .ref 163), (2, .int l2), (3, .int l3), (4, .int (l4 + (1 : Int32)))]) dX7_lacks_97 rfl (congrArg (l4 + ·) ci_1) (Nat.le_of_ble_eq_true rfl) rfl ?_
      refine vJ.goto (tgt := 48) dX7_lacks_100 (by decide) ?_
      exact h
def J_X7_layWidths_0 (l1 : Int32) (a2 : Nat) (n2 : Nat) (m : vM) (P : vM → Prop) : Prop := vJ mX7_layWidths 2 51 197 none 0 [(0, .ref 163), (1, .int l1), (2, .ref a2)] [] 197 SH m (vPv P)
def J_X7_layWidths_2 (l1 : Int32) (a2 : Nat) (n2 : Nat) (l3 : Int32) (m : vM) (P : vM → Prop) : Prop := vJ mX7_layWidths 2 51 197 none 2 [(0, .ref 163), (1, .int l1), (2, .ref a2), (3, .int l3)] [] 197 SH m (vPv P)
def wp_X7_layWidths_0 (l1 : Int32) (a2 : Nat) (n2 : Nat) (m : vM) (P : vM → Prop) : Prop :=
  J_X7_layWidths_2 l1 a2 n2 (0 : Int32) m P
set_option maxRecDepth 20000 in
set_option maxHeartbeats 4000000 in
theorem b_X7_layWidths_0 {l1 : Int32} {a2 : Nat} {n2 : Nat} {m : vM} {P : vM → Prop} (ha2 : SH a2 = (0, n2, vz)) (hw2 : a2 < 197) (h : wp_X7_layWidths_0 l1 a2 n2 m P) : J_X7_layWidths_0 l1 a2 n2 m P := by
  show vJ mX7_layWidths 2 51 197 none 0 [(0, .ref 163), (1, .int l1), (2, .ref a2)] [] 197 SH m (vPv P)
  unfold wp_X7_layWidths_0 at h
  refine vJ.iconst dX7_layWidths_0 ci_0 ?_
  refine vJ.istore_n (ls2 := [(0, .ref 163), (1, .int l1), (2, .ref a2), (3, .int (0 : Int32))]) dX7_layWidths_1 rfl (Nat.le_of_ble_eq_true rfl) rfl ?_
  exact h
def EI_X7_layWidths (l1 : Int32) (a2 : Nat) (n2 : Nat) (m : vM) (P : vM → Prop) : Prop := Ev mX7_layWidths 2 51 197 [.ref 163, .int l1, .ref a2] 197 SH m (vPv P)
theorem f_X7_layWidths {l1 : Int32} {a2 : Nat} {n2 : Nat} {m : vM} {P : vM → Prop} (h : J_X7_layWidths_0 l1 a2 n2 m P) : EI_X7_layWidths l1 a2 n2 m P := Ev.of pn_X7_layWidths (Nat.le_of_ble_eq_true rfl) h
def J_X7_layWidths_22 (l1 : Int32) (a2 : Nat) (n2 : Nat) (l3 : Int32) (m : vM) (P : vM → Prop) : Prop := vJ mX7_layWidths 2 51 197 none 22 [(0, .ref 163), (1, .int l1), (2, .ref a2), (3, .int l3)] [] 197 SH m (vPv P)
def wp_X7_layWidths_2 (l1 : Int32) (a2 : Nat) (n2 : Nat) (l3 : Int32) (m : vM) (P : vM → Prop) : Prop :=
  (((m.1 163 3) ≤ l3 →
    J_X7_layWidths_22 l1 a2 n2 (1 : Int32) m P) ∧
  (¬ (m.1 163 3) ≤ l3 →
    vp_in l3 n2 ∧
    ∀ m2 : vM, m2 = upI m a2 (Int32.toNatClampNeg l3) (0 : Int32) →
    J_X7_layWidths_2 l1 a2 n2 (l3 + (1 : Int32)) m2 P))
set_option maxRecDepth 20000 in
set_option maxHeartbeats 4000000 in
theorem b_X7_layWidths_2 {l1 : Int32} {a2 : Nat} {n2 : Nat} {l3 : Int32} {m : vM} {P : vM → Prop} (ha2 : SH a2 = (0, n2, vz)) (hw2 : a2 < 197) (h : wp_X7_layWidths_2 l1 a2 n2 l3 m P) : J_X7_layWidths_2 l1 a2 n2 l3 m P := by
  show vJ mX7_layWidths 2 51 197 none 2 [(0, .ref 163), (1, .int l1), (2, .ref a2), (3, .int l3)] [] 197 SH m (vPv P)
  unfold wp_X7_layWidths_2 at h
  refine vJ.iload_n dX7_layWidths_2 rfl rfl ?_
  refine vJ.aload_n dX7_layWidths_3 rfl rfl ?_
  refine vJ.getI (ci := 7) (k := 3) dX7_layWidths_4 sh_163 (Nat.le_of_ble_eq_true rfl) rfl inX7 (Nat.le_of_ble_eq_true rfl) rfl fl_RX7_126 ?_
  refine vJ.icmp_ge (tgt := 20) dX7_layWidths_7 (by decide) (fun hc3 => ?_) (fun hc3 => ?_)
  · replace h := h.1 hc3
    refine vJ.iconst dX7_layWidths_20 ci_1 ?_
    refine vJ.istore_n (ls2 := [(0, .ref 163), (1, .int l1), (2, .ref a2), (3, .int (1 : Int32))]) dX7_layWidths_21 rfl (Nat.le_of_ble_eq_true rfl) rfl ?_
    exact h
  · replace h := h.2 hc3
    refine vJ.aload_n dX7_layWidths_10 rfl rfl ?_
    refine vJ.iload_n dX7_layWidths_11 rfl rfl ?_
    refine vJ.iconst dX7_layWidths_12 ci_0 ?_
    obtain ⟨hb1, h⟩ := h
    refine vJ.iast dX7_layWidths_13 ha2 hw2 hb1 ?_
    refine vJ.topm (fun m2 em2 => ?_)
    replace h := h m2 em2
    refine vJ.iinc (v := l3 + (1 : Int32)) (ls2 := [(0, .ref 163), (1, .int l1), (2, .ref a2), (3, .int (l3 + (1 : Int32)))]) dX7_layWidths_14 rfl (congrArg (l3 + ·) ci_1) (Nat.le_of_ble_eq_true rfl) rfl ?_
    refine vJ.goto (tgt := 2) dX7_layWidths_17 (by decide) ?_
    exact h
def J_X7_layWidths_33 (l1 : Int32) (a2 : Nat) (n2 : Nat) (l3 : Int32) (l4 : Int32) (m : vM) (P : vM → Prop) : Prop := vJ mX7_layWidths 2 51 197 none 33 [(0, .ref 163), (1, .int l1), (2, .ref a2), (3, .int l3), (4, .int l4)] [] 197 SH m (vPv P)
def wp_X7_layWidths_22 (l1 : Int32) (a2 : Nat) (n2 : Nat) (l3 : Int32) (m : vM) (P : vM → Prop) : Prop :=
  (((m.1 163 3) < l3 →
    P m) ∧
  (¬ (m.1 163 3) < l3 →
    J_X7_layWidths_33 l1 a2 n2 l3 (0 : Int32) m P))
set_option maxRecDepth 20000 in
set_option maxHeartbeats 4000000 in
theorem b_X7_layWidths_22 {l1 : Int32} {a2 : Nat} {n2 : Nat} {l3 : Int32} {m : vM} {P : vM → Prop} (ha2 : SH a2 = (0, n2, vz)) (hw2 : a2 < 197) (h : wp_X7_layWidths_22 l1 a2 n2 l3 m P) : J_X7_layWidths_22 l1 a2 n2 l3 m P := by
  show vJ mX7_layWidths 2 51 197 none 22 [(0, .ref 163), (1, .int l1), (2, .ref a2), (3, .int l3)] [] 197 SH m (vPv P)
  unfold wp_X7_layWidths_22 at h
  refine vJ.iload_n dX7_layWidths_22 rfl rfl ?_
  refine vJ.aload_n dX7_layWidths_23 rfl rfl ?_
  refine vJ.getI (ci := 7) (k := 3) dX7_layWidths_24 sh_163 (Nat.le_of_ble_eq_true rfl) rfl inX7 (Nat.le_of_ble_eq_true rfl) rfl fl_RX7_126 ?_
  refine vJ.icmp_gt (tgt := 166) dX7_layWidths_27 (by decide) (fun hc1 => ?_) (fun hc1 => ?_)
  · replace h := h.1 hc1
    exact vJ.vreturn dX7_layWidths_166 rfl rfl ⟨rfl, rfl, h⟩
  · replace h := h.2 hc1
    refine vJ.iconst dX7_layWidths_30 ci_0 ?_
    refine vJ.istore (ls2 := [(0, .ref 163), (1, .int l1), (2, .ref a2), (3, .int l3), (4, .int (0 : Int32))]) dX7_layWidths_31 (Nat.le_of_ble_eq_true rfl) rfl ?_
    exact h
def J_X7_layWidths_59 (l1 : Int32) (a2 : Nat) (n2 : Nat) (l3 : Int32) (l4 : Int32) (m : vM) (P : vM → Prop) : Prop := vJ mX7_layWidths 2 51 197 none 59 [(0, .ref 163), (1, .int l1), (2, .ref a2), (3, .int l3), (4, .int l4)] [] 197 SH m (vPv P)
def wp_X7_layWidths_33 (l1 : Int32) (a2 : Nat) (n2 : Nat) (l3 : Int32) (l4 : Int32) (m : vM) (P : vM → Prop) : Prop :=
  (((m.1 163 3) ≤ l4 →
    J_X7_layWidths_59 l1 a2 n2 l3 (0 : Int32) m P) ∧
  (¬ (m.1 163 3) ≤ l4 →
    vp_in l4 6 ∧
    ∀ m2 : vM, m2 = upI m 184 (Int32.toNatClampNeg l4) (0 : Int32) →
    J_X7_layWidths_33 l1 a2 n2 l3 (l4 + (1 : Int32)) m2 P))
set_option maxRecDepth 20000 in
set_option maxHeartbeats 4000000 in
theorem b_X7_layWidths_33 {l1 : Int32} {a2 : Nat} {n2 : Nat} {l3 : Int32} {l4 : Int32} {m : vM} {P : vM → Prop} (ha2 : SH a2 = (0, n2, vz)) (hw2 : a2 < 197) (h : wp_X7_layWidths_33 l1 a2 n2 l3 l4 m P) : J_X7_layWidths_33 l1 a2 n2 l3 l4 m P := by
  show vJ mX7_layWidths 2 51 197 none 33 [(0, .ref 163), (1, .int l1), (2, .ref a2), (3, .int l3), (4, .int l4)] [] 197 SH m (vPv P)
  unfold wp_X7_layWidths_33 at h
  refine vJ.iload dX7_layWidths_33 rfl ?_
  refine vJ.aload_n dX7_layWidths_35 rfl rfl ?_
  refine vJ.getI (ci := 7) (k := 3) dX7_layWidths_36 sh_163 (Nat.le_of_ble_eq_true rfl) rfl inX7 (Nat.le_of_ble_eq_true rfl) rfl fl_RX7_126 ?_
  refine vJ.icmp_ge (tgt := 56) dX7_layWidths_39 (by decide) (fun hc3 => ?_) (fun hc3 => ?_)
  · replace h := h.1 hc3
    refine vJ.iconst dX7_layWidths_56 ci_0 ?_
    refine vJ.istore (ls2 := [(0, .ref 163), (1, .int l1), (2, .ref a2), (3, .int l3), (4, .int (0 : Int32))]) dX7_layWidths_57 (Nat.le_of_ble_eq_true rfl) rfl ?_
    exact h
  · replace h := h.2 hc3
    refine vJ.aload_n dX7_layWidths_42 rfl rfl ?_
    refine vJ.getR (ci := 7) (k := 26) (j := 184) dX7_layWidths_43 sh_163 (Nat.le_of_ble_eq_true rfl) rfl inX7 (Nat.le_of_ble_eq_true rfl) rfl fl_RX7_71 ?_
    refine vJ.iload dX7_layWidths_46 rfl ?_
    refine vJ.iconst dX7_layWidths_48 ci_0 ?_
    obtain ⟨hb1, h⟩ := h
    refine vJ.iast dX7_layWidths_49 sh_184 (Nat.le_of_ble_eq_true rfl) hb1 ?_
    refine vJ.topm (fun m2 em2 => ?_)
    replace h := h m2 em2
    refine vJ.iinc (v := l4 + (1 : Int32)) (ls2 := [(0, .ref 163), (1, .int l1), (2, .ref a2), (3, .int l3), (4, .int (l4 + (1 : Int32)))]) dX7_layWidths_50 rfl (congrArg (l4 + ·) ci_1) (Nat.le_of_ble_eq_true rfl) rfl ?_
    refine vJ.goto (tgt := 33) dX7_layWidths_53 (by decide) ?_
    exact h
def J_X7_layWidths_131 (l1 : Int32) (a2 : Nat) (n2 : Nat) (l3 : Int32) (l4 : Int32) (m : vM) (P : vM → Prop) : Prop := vJ mX7_layWidths 2 51 197 none 131 [(0, .ref 163), (1, .int l1), (2, .ref a2), (3, .int l3), (4, .int l4)] [] 197 SH m (vPv P)
def wp_X7_layWidths_59 (l1 : Int32) (a2 : Nat) (n2 : Nat) (l3 : Int32) (l4 : Int32) (m : vM) (P : vM → Prop) : Prop :=
  (((m.1 163 7) ≤ l4 →
    J_X7_layWidths_131 l1 a2 n2 l3 (0 : Int32) m P) ∧
  (¬ (m.1 163 7) ≤ l4 →
    vp_in l4 40 ∧
    (((m.1 172 (Int32.toNatClampNeg l4)) = (0 : Int32) →
      vp_in l4 40 ∧
      (((m.1 171 (Int32.toNatClampNeg l4)) = l3 →
        EI_X7_wantOf l4 l1 m (fun r4 m3 =>
          vp_in l4 40 ∧
          EI_X7_widthOver a2 n2 (m3.1 169 (Int32.toNatClampNeg l4)) l3 m3 (fun r7 m6 =>
            vp_in l4 40 ∧
            EI_X7_lacks (r4 - r7) (m6.1 169 (Int32.toNatClampNeg l4)) l3 m6 (fun m9 =>
              J_X7_layWidths_59 l1 a2 n2 l3 (l4 + (1 : Int32)) m9 P)))) ∧
      (¬ (m.1 171 (Int32.toNatClampNeg l4)) = l3 →
        J_X7_layWidths_59 l1 a2 n2 l3 (l4 + (1 : Int32)) m P))) ∧
    (¬ (m.1 172 (Int32.toNatClampNeg l4)) = (0 : Int32) →
      J_X7_layWidths_59 l1 a2 n2 l3 (l4 + (1 : Int32)) m P))))
set_option maxRecDepth 20000 in
set_option maxHeartbeats 4000000 in
theorem b_X7_layWidths_59 {l1 : Int32} {a2 : Nat} {n2 : Nat} {l3 : Int32} {l4 : Int32} {m : vM} {P : vM → Prop} (ha2 : SH a2 = (0, n2, vz)) (hw2 : a2 < 197) (h : wp_X7_layWidths_59 l1 a2 n2 l3 l4 m P) : J_X7_layWidths_59 l1 a2 n2 l3 l4 m P := by
  show vJ mX7_layWidths 2 51 197 none 59 [(0, .ref 163), (1, .int l1), (2, .ref a2), (3, .int l3), (4, .int l4)] [] 197 SH m (vPv P)
  unfold wp_X7_layWidths_59 at h
  refine vJ.iload dX7_layWidths_59 rfl ?_
  refine vJ.aload_n dX7_layWidths_61 rfl rfl ?_
  refine vJ.getI (ci := 7) (k := 7) dX7_layWidths_62 sh_163 (Nat.le_of_ble_eq_true rfl) rfl inX7 (Nat.le_of_ble_eq_true rfl) rfl fl_RX7_132 ?_
  refine vJ.icmp_ge (tgt := 128) dX7_layWidths_65 (by decide) (fun hc12 => ?_) (fun hc12 => ?_)
  · replace h := h.1 hc12
    refine vJ.iconst dX7_layWidths_128 ci_0 ?_
    refine vJ.istore (ls2 := [(0, .ref 163), (1, .int l1), (2, .ref a2), (3, .int l3), (4, .int (0 : Int32))]) dX7_layWidths_129 (Nat.le_of_ble_eq_true rfl) rfl ?_
    exact h
  · replace h := h.2 hc12
    refine vJ.aload_n dX7_layWidths_68 rfl rfl ?_
    refine vJ.getR (ci := 7) (k := 13) (j := 172) dX7_layWidths_69 sh_163 (Nat.le_of_ble_eq_true rfl) rfl inX7 (Nat.le_of_ble_eq_true rfl) rfl fl_RX7_34 ?_
    refine vJ.iload dX7_layWidths_72 rfl ?_
    obtain ⟨hb1, h⟩ := h
    refine vJ.zald dX7_layWidths_74 sh_172 (Nat.le_of_ble_eq_true rfl) hb1 ?_
    refine vJ.if_ne (tgt := 122) dX7_layWidths_75 (by decide) (fun hc11 => ?_) (fun hc11 => ?_)
    · replace h := h.2 hc11
      refine vJ.iinc (v := l4 + (1 : Int32)) (ls2 := [(0, .ref 163), (1, .int l1), (2, .ref a2), (3, .int l3), (4, .int (l4 + (1 : Int32)))]) dX7_layWidths_122 rfl (congrArg (l4 + ·) ci_1) (Nat.le_of_ble_eq_true rfl) rfl ?_
      refine vJ.goto (tgt := 59) dX7_layWidths_125 (by decide) ?_
      exact h
    · replace h := h.1 hc11
      refine vJ.aload_n dX7_layWidths_78 rfl rfl ?_
      refine vJ.getR (ci := 7) (k := 12) (j := 171) dX7_layWidths_79 sh_163 (Nat.le_of_ble_eq_true rfl) rfl inX7 (Nat.le_of_ble_eq_true rfl) rfl fl_RX7_31 ?_
      refine vJ.iload dX7_layWidths_82 rfl ?_
      obtain ⟨hb2, h⟩ := h
      refine vJ.iald dX7_layWidths_84 sh_171 (Nat.le_of_ble_eq_true rfl) hb2 ?_
      refine vJ.iload_n dX7_layWidths_85 rfl rfl ?_
      refine vJ.icmp_ne (tgt := 122) dX7_layWidths_86 (by decide) (fun hc10 => ?_) (fun hc10 => ?_)
      · replace h := h.2 hc10
        refine vJ.iinc (v := l4 + (1 : Int32)) (ls2 := [(0, .ref 163), (1, .int l1), (2, .ref a2), (3, .int l3), (4, .int (l4 + (1 : Int32)))]) dX7_layWidths_122 rfl (congrArg (l4 + ·) ci_1) (Nat.le_of_ble_eq_true rfl) rfl ?_
        refine vJ.goto (tgt := 59) dX7_layWidths_125 (by decide) ?_
        exact h
      · replace h := h.1 hc10
        refine vJ.aload_n dX7_layWidths_89 rfl rfl ?_
        refine vJ.aload_n dX7_layWidths_90 rfl rfl ?_
        refine vJ.iload dX7_layWidths_91 rfl ?_
        refine vJ.iload_n dX7_layWidths_93 rfl rfl ?_
        refine vJ.callV (ci := 7) (Yc := mX7_wantOf) (frc := 1) (loc := 23) (as := [.int l4, .int l1]) dX7_layWidths_94 rfl sh_163 (Nat.le_of_ble_eq_true rfl) rfl ml_RX7_175 im_yX7_wantOf se_yX7_wantOf co_X7_wantOf in_TableSetterModel pl_X7_wantOf (Nat.le_of_ble_eq_true rfl) (Nat.le_of_ble_eq_true rfl) (Nat.le_of_ble_eq_true rfl) ?_
        refine Ev.gi h (fun r4 m3 h => ?_)
        refine vJ.aload_n dX7_layWidths_97 rfl rfl ?_
        refine vJ.aload_n dX7_layWidths_98 rfl rfl ?_
        refine vJ.aload_n dX7_layWidths_99 rfl rfl ?_
        refine vJ.getR (ci := 7) (k := 10) (j := 169) dX7_layWidths_100 sh_163 (Nat.le_of_ble_eq_true rfl) rfl inX7 (Nat.le_of_ble_eq_true rfl) rfl fl_RX7_25 ?_
        refine vJ.iload dX7_layWidths_103 rfl ?_
        obtain ⟨hb5, h⟩ := h
        refine vJ.iald dX7_layWidths_105 sh_169 (Nat.le_of_ble_eq_true rfl) hb5 ?_
        refine vJ.iload_n dX7_layWidths_106 rfl rfl ?_
        refine vJ.callV (ci := 7) (Yc := mX7_widthOver) (frc := 0) (loc := 0) (as := [.ref a2, .int (m3.1 169 (Int32.toNatClampNeg l4)), .int l3]) dX7_layWidths_107 rfl sh_163 (Nat.le_of_ble_eq_true rfl) rfl ml_RX7_178 im_yX7_widthOver se_yX7_widthOver co_X7_widthOver in_TableSetterModel pl_X7_widthOver (Nat.le_of_ble_eq_true rfl) (Nat.le_of_ble_eq_true rfl) (Nat.le_of_ble_eq_true rfl) ?_
        refine Ev.gi h (fun r7 m6 h => ?_)
        refine vJ.isub dX7_layWidths_110 ?_
        refine vJ.aload_n dX7_layWidths_111 rfl rfl ?_
        refine vJ.getR (ci := 7) (k := 10) (j := 169) dX7_layWidths_112 sh_163 (Nat.le_of_ble_eq_true rfl) rfl inX7 (Nat.le_of_ble_eq_true rfl) rfl fl_RX7_25 ?_
        refine vJ.iload dX7_layWidths_115 rfl ?_
        obtain ⟨hb8, h⟩ := h
        refine vJ.iald dX7_layWidths_117 sh_169 (Nat.le_of_ble_eq_true rfl) hb8 ?_
        refine vJ.iload_n dX7_layWidths_118 rfl rfl ?_
        refine vJ.callV (ci := 7) (Yc := mX7_lacks) (frc := 1) (loc := 27) (as := [.int (r4 - r7), .int (m6.1 169 (Int32.toNatClampNeg l4)), .int l3]) dX7_layWidths_119 rfl sh_163 (Nat.le_of_ble_eq_true rfl) rfl ml_RX7_182 im_yX7_lacks se_yX7_lacks co_X7_lacks in_TableSetterModel pl_X7_lacks (Nat.le_of_ble_eq_true rfl) (Nat.le_of_ble_eq_true rfl) (Nat.le_of_ble_eq_true rfl) ?_
        refine Ev.gv h (fun m9 h => ?_)
        refine vJ.iinc (v := l4 + (1 : Int32)) (ls2 := [(0, .ref 163), (1, .int l1), (2, .ref a2), (3, .int l3), (4, .int (l4 + (1 : Int32)))]) dX7_layWidths_122 rfl (congrArg (l4 + ·) ci_1) (Nat.le_of_ble_eq_true rfl) rfl ?_
        refine vJ.goto (tgt := 59) dX7_layWidths_125 (by decide) ?_
        exact h
def wp_X7_layWidths_131 (l1 : Int32) (a2 : Nat) (n2 : Nat) (l3 : Int32) (l4 : Int32) (m : vM) (P : vM → Prop) : Prop :=
  (((m.1 163 3) ≤ l4 →
    J_X7_layWidths_22 l1 a2 n2 (l3 + (1 : Int32)) m P) ∧
  (¬ (m.1 163 3) ≤ l4 →
    vp_in l4 n2 ∧
    vp_in l4 6 ∧
    vp_in l4 n2 ∧
    ∀ m4 : vM, m4 = upI m a2 (Int32.toNatClampNeg l4) ((m.1 a2 (Int32.toNatClampNeg l4)) + (m.1 184 (Int32.toNatClampNeg l4))) →
    J_X7_layWidths_131 l1 a2 n2 l3 (l4 + (1 : Int32)) m4 P))
set_option maxRecDepth 20000 in
set_option maxHeartbeats 4000000 in
theorem b_X7_layWidths_131 {l1 : Int32} {a2 : Nat} {n2 : Nat} {l3 : Int32} {l4 : Int32} {m : vM} {P : vM → Prop} (ha2 : SH a2 = (0, n2, vz)) (hw2 : a2 < 197) (h : wp_X7_layWidths_131 l1 a2 n2 l3 l4 m P) : J_X7_layWidths_131 l1 a2 n2 l3 l4 m P := by
  show vJ mX7_layWidths 2 51 197 none 131 [(0, .ref 163), (1, .int l1), (2, .ref a2), (3, .int l3), (4, .int l4)] [] 197 SH m (vPv P)
  unfold wp_X7_layWidths_131 at h
  refine vJ.iload dX7_layWidths_131 rfl ?_
  refine vJ.aload_n dX7_layWidths_133 rfl rfl ?_
  refine vJ.getI (ci := 7) (k := 3) dX7_layWidths_134 sh_163 (Nat.le_of_ble_eq_true rfl) rfl inX7 (Nat.le_of_ble_eq_true rfl) rfl fl_RX7_126 ?_
  refine vJ.icmp_ge (tgt := 160) dX7_layWidths_137 (by decide) (fun hc5 => ?_) (fun hc5 => ?_)
  · replace h := h.1 hc5
    refine vJ.iinc (v := l3 + (1 : Int32)) (ls2 := [(0, .ref 163), (1, .int l1), (2, .ref a2), (3, .int (l3 + (1 : Int32))), (4, .int l4)]) dX7_layWidths_160 rfl (congrArg (l3 + ·) ci_1) (Nat.le_of_ble_eq_true rfl) rfl ?_
    refine vJ.goto (tgt := 22) dX7_layWidths_163 (by decide) ?_
    refine vJ.sub [0, 1, 2, 3] rfl ?_
    exact h
  · replace h := h.2 hc5
    refine vJ.aload_n dX7_layWidths_140 rfl rfl ?_
    refine vJ.iload dX7_layWidths_141 rfl ?_
    refine vJ.dup2 dX7_layWidths_143 rfl rfl ?_
    obtain ⟨hb1, h⟩ := h
    refine vJ.iald dX7_layWidths_144 ha2 hw2 hb1 ?_
    refine vJ.aload_n dX7_layWidths_145 rfl rfl ?_
    refine vJ.getR (ci := 7) (k := 26) (j := 184) dX7_layWidths_146 sh_163 (Nat.le_of_ble_eq_true rfl) rfl inX7 (Nat.le_of_ble_eq_true rfl) rfl fl_RX7_71 ?_
    refine vJ.iload dX7_layWidths_149 rfl ?_
    obtain ⟨hb2, h⟩ := h
    refine vJ.iald dX7_layWidths_151 sh_184 (Nat.le_of_ble_eq_true rfl) hb2 ?_
    refine vJ.iadd dX7_layWidths_152 ?_
    obtain ⟨hb3, h⟩ := h
    refine vJ.iast dX7_layWidths_153 ha2 hw2 hb3 ?_
    refine vJ.topm (fun m4 em4 => ?_)
    replace h := h m4 em4
    refine vJ.iinc (v := l4 + (1 : Int32)) (ls2 := [(0, .ref 163), (1, .int l1), (2, .ref a2), (3, .int l3), (4, .int (l4 + (1 : Int32)))]) dX7_layWidths_154 rfl (congrArg (l4 + ·) ci_1) (Nat.le_of_ble_eq_true rfl) rfl ?_
    refine vJ.goto (tgt := 131) dX7_layWidths_157 (by decide) ?_
    exact h
def J_X7_layBoth_0  (m : vM) (P : vM → Prop) : Prop := vJ mX7_layBoth 3 75 197 none 0 [(0, .ref 163)] [] 197 SH m (vPv P)
def J_X7_layBoth_20 (l1 : Int32) (m : vM) (P : vM → Prop) : Prop := vJ mX7_layBoth 3 75 197 none 20 [(0, .ref 163), (1, .int l1)] [] 197 SH m (vPv P)
def wp_X7_layBoth_0  (m : vM) (P : vM → Prop) : Prop :=
  EI_X7_layWidths (0 : Int32) 182 6 m (fun m1 =>
    EI_X7_layWidths (1 : Int32) 183 6 m1 (fun m2 =>
      J_X7_layBoth_20 (0 : Int32) m2 P))
set_option maxRecDepth 20000 in
set_option maxHeartbeats 4000000 in
theorem b_X7_layBoth_0  {m : vM} {P : vM → Prop}  (h : wp_X7_layBoth_0  m P) : J_X7_layBoth_0  m P := by
  show vJ mX7_layBoth 3 75 197 none 0 [(0, .ref 163)] [] 197 SH m (vPv P)
  unfold wp_X7_layBoth_0 at h
  refine vJ.aload_n dX7_layBoth_0 rfl rfl ?_
  refine vJ.iconst dX7_layBoth_1 ci_0 ?_
  refine vJ.aload_n dX7_layBoth_2 rfl rfl ?_
  refine vJ.getR (ci := 7) (k := 24) (j := 182) dX7_layBoth_3 sh_163 (Nat.le_of_ble_eq_true rfl) rfl inX7 (Nat.le_of_ble_eq_true rfl) rfl fl_RX7_65 ?_
  refine vJ.callV (ci := 7) (Yc := mX7_layWidths) (frc := 2) (loc := 51) (as := [.int (0 : Int32), .ref 182]) dX7_layBoth_6 rfl sh_163 (Nat.le_of_ble_eq_true rfl) rfl ml_RX7_188 im_yX7_layWidths se_yX7_layWidths co_X7_layWidths in_TableSetterModel pl_X7_layWidths (Nat.le_of_ble_eq_true rfl) (Nat.le_of_ble_eq_true rfl) (Nat.le_of_ble_eq_true rfl) ?_
  refine Ev.gv h (fun m1 h => ?_)
  refine vJ.aload_n dX7_layBoth_9 rfl rfl ?_
  refine vJ.iconst dX7_layBoth_10 ci_1 ?_
  refine vJ.aload_n dX7_layBoth_11 rfl rfl ?_
  refine vJ.getR (ci := 7) (k := 25) (j := 183) dX7_layBoth_12 sh_163 (Nat.le_of_ble_eq_true rfl) rfl inX7 (Nat.le_of_ble_eq_true rfl) rfl fl_RX7_68 ?_
  refine vJ.callV (ci := 7) (Yc := mX7_layWidths) (frc := 2) (loc := 51) (as := [.int (1 : Int32), .ref 183]) dX7_layBoth_15 rfl sh_163 (Nat.le_of_ble_eq_true rfl) rfl ml_RX7_188 im_yX7_layWidths se_yX7_layWidths co_X7_layWidths in_TableSetterModel pl_X7_layWidths (Nat.le_of_ble_eq_true rfl) (Nat.le_of_ble_eq_true rfl) (Nat.le_of_ble_eq_true rfl) ?_
  refine Ev.gv h (fun m2 h => ?_)
  refine vJ.iconst dX7_layBoth_18 ci_0 ?_
  refine vJ.istore_n (ls2 := [(0, .ref 163), (1, .int (0 : Int32))]) dX7_layBoth_19 rfl (Nat.le_of_ble_eq_true rfl) rfl ?_
  exact h
def EI_X7_layBoth  (m : vM) (P : vM → Prop) : Prop := Ev mX7_layBoth 3 75 197 [.ref 163] 197 SH m (vPv P)
theorem f_X7_layBoth  {m : vM} {P : vM → Prop} (h : J_X7_layBoth_0  m P) : EI_X7_layBoth  m P := Ev.of pn_X7_layBoth (Nat.le_of_ble_eq_true rfl) h
def wp_X7_layBoth_20 (l1 : Int32) (m : vM) (P : vM → Prop) : Prop :=
  (((m.1 163 3) ≤ l1 →
    P m) ∧
  (¬ (m.1 163 3) ≤ l1 →
    vp_in l1 6 ∧
    vp_in l1 6 ∧
    (((m.1 182 (Int32.toNatClampNeg l1)) ≤ (m.1 183 (Int32.toNatClampNeg l1)) →
      vp_in l1 6 ∧
      vp_in l1 6 ∧
      ∀ m5 : vM, m5 = upI m 183 (Int32.toNatClampNeg l1) (m.1 183 (Int32.toNatClampNeg l1)) →
      J_X7_layBoth_20 (l1 + (1 : Int32)) m5 P) ∧
    (¬ (m.1 182 (Int32.toNatClampNeg l1)) ≤ (m.1 183 (Int32.toNatClampNeg l1)) →
      vp_in l1 6 ∧
      vp_in l1 6 ∧
      ∀ m8 : vM, m8 = upI m 183 (Int32.toNatClampNeg l1) (m.1 182 (Int32.toNatClampNeg l1)) →
      J_X7_layBoth_20 (l1 + (1 : Int32)) m8 P))))
set_option maxRecDepth 20000 in
set_option maxHeartbeats 4000000 in
theorem b_X7_layBoth_20 {l1 : Int32} {m : vM} {P : vM → Prop}  (h : wp_X7_layBoth_20 l1 m P) : J_X7_layBoth_20 l1 m P := by
  show vJ mX7_layBoth 3 75 197 none 20 [(0, .ref 163), (1, .int l1)] [] 197 SH m (vPv P)
  unfold wp_X7_layBoth_20 at h
  refine vJ.iload_n dX7_layBoth_20 rfl rfl ?_
  refine vJ.aload_n dX7_layBoth_21 rfl rfl ?_
  refine vJ.getI (ci := 7) (k := 3) dX7_layBoth_22 sh_163 (Nat.le_of_ble_eq_true rfl) rfl inX7 (Nat.le_of_ble_eq_true rfl) rfl fl_RX7_126 ?_
  refine vJ.icmp_ge (tgt := 70) dX7_layBoth_25 (by decide) (fun hc10 => ?_) (fun hc10 => ?_)
  · replace h := h.1 hc10
    exact vJ.vreturn dX7_layBoth_70 rfl rfl ⟨rfl, rfl, h⟩
  · replace h := h.2 hc10
    refine vJ.aload_n dX7_layBoth_28 rfl rfl ?_
    refine vJ.getR (ci := 7) (k := 25) (j := 183) dX7_layBoth_29 sh_163 (Nat.le_of_ble_eq_true rfl) rfl inX7 (Nat.le_of_ble_eq_true rfl) rfl fl_RX7_68 ?_
    refine vJ.iload_n dX7_layBoth_32 rfl rfl ?_
    refine vJ.aload_n dX7_layBoth_33 rfl rfl ?_
    refine vJ.getR (ci := 7) (k := 25) (j := 183) dX7_layBoth_34 sh_163 (Nat.le_of_ble_eq_true rfl) rfl inX7 (Nat.le_of_ble_eq_true rfl) rfl fl_RX7_68 ?_
    refine vJ.iload_n dX7_layBoth_37 rfl rfl ?_
    obtain ⟨hb1, h⟩ := h
    refine vJ.iald dX7_layBoth_38 sh_183 (Nat.le_of_ble_eq_true rfl) hb1 ?_
    refine vJ.aload_n dX7_layBoth_39 rfl rfl ?_
    refine vJ.getR (ci := 7) (k := 24) (j := 182) dX7_layBoth_40 sh_163 (Nat.le_of_ble_eq_true rfl) rfl inX7 (Nat.le_of_ble_eq_true rfl) rfl fl_RX7_65 ?_
    refine vJ.iload_n dX7_layBoth_43 rfl rfl ?_
    obtain ⟨hb2, h⟩ := h
    refine vJ.iald dX7_layBoth_44 sh_182 (Nat.le_of_ble_eq_true rfl) hb2 ?_
    refine vJ.icmp_ge (tgt := 57) dX7_layBoth_45 (by decide) (fun hc9 => ?_) (fun hc9 => ?_)
    · replace h := h.1 hc9
      refine vJ.aload_n dX7_layBoth_57 rfl rfl ?_
      refine vJ.getR (ci := 7) (k := 25) (j := 183) dX7_layBoth_58 sh_163 (Nat.le_of_ble_eq_true rfl) rfl inX7 (Nat.le_of_ble_eq_true rfl) rfl fl_RX7_68 ?_
      refine vJ.iload_n dX7_layBoth_61 rfl rfl ?_
      obtain ⟨hb3, h⟩ := h
      refine vJ.iald dX7_layBoth_62 sh_183 (Nat.le_of_ble_eq_true rfl) hb3 ?_
      obtain ⟨hb4, h⟩ := h
      refine vJ.iast dX7_layBoth_63 sh_183 (Nat.le_of_ble_eq_true rfl) hb4 ?_
      refine vJ.topm (fun m5 em5 => ?_)
      replace h := h m5 em5
      refine vJ.iinc (v := l1 + (1 : Int32)) (ls2 := [(0, .ref 163), (1, .int (l1 + (1 : Int32)))]) dX7_layBoth_64 rfl (congrArg (l1 + ·) ci_1) (Nat.le_of_ble_eq_true rfl) rfl ?_
      refine vJ.goto (tgt := 20) dX7_layBoth_67 (by decide) ?_
      exact h
    · replace h := h.2 hc9
      refine vJ.aload_n dX7_layBoth_48 rfl rfl ?_
      refine vJ.getR (ci := 7) (k := 24) (j := 182) dX7_layBoth_49 sh_163 (Nat.le_of_ble_eq_true rfl) rfl inX7 (Nat.le_of_ble_eq_true rfl) rfl fl_RX7_65 ?_
      refine vJ.iload_n dX7_layBoth_52 rfl rfl ?_
      obtain ⟨hb6, h⟩ := h
      refine vJ.iald dX7_layBoth_53 sh_182 (Nat.le_of_ble_eq_true rfl) hb6 ?_
      refine vJ.goto (tgt := 63) dX7_layBoth_54 (by decide) ?_
      obtain ⟨hb7, h⟩ := h
      refine vJ.iast dX7_layBoth_63 sh_183 (Nat.le_of_ble_eq_true rfl) hb7 ?_
      refine vJ.topm (fun m8 em8 => ?_)
      replace h := h m8 em8
      refine vJ.iinc (v := l1 + (1 : Int32)) (ls2 := [(0, .ref 163), (1, .int (l1 + (1 : Int32)))]) dX7_layBoth_64 rfl (congrArg (l1 + ·) ci_1) (Nat.le_of_ble_eq_true rfl) rfl ?_
      refine vJ.goto (tgt := 20) dX7_layBoth_67 (by decide) ?_
      exact h
def J_X7_natural_0 (l1 : Int32) (l2 : Int32) (m : vM) (P : Int32 → vM → Prop) : Prop := vJ mX7_natural 4 96 197 none 0 [(0, .ref 163), (1, .int l1), (2, .int l2)] [] 197 SH m (vPi P)
def wp_X7_natural (l1 : Int32) (l2 : Int32) (m : vM) (P : Int32 → vM → Prop) : Prop :=
  wp_X7_isColumn l1 m (fun r2 m1 =>
    ((r2 = (0 : Int32) →
      P (-1 : Int32) m1) ∧
    (¬ r2 = (0 : Int32) →
      wp_X7_in l2 (0 : Int32) (1 : Int32) m1 (fun r4 m3 =>
        ((r4 = (0 : Int32) →
          P (-1 : Int32) m3) ∧
        (¬ r4 = (0 : Int32) →
          EI_X7_layBoth m3 (fun m5 =>
            ((l2 = (0 : Int32) →
              vp_in l1 6 ∧
              P (m5.1 182 (Int32.toNatClampNeg l1)) m5) ∧
            (¬ l2 = (0 : Int32) →
              vp_in l1 6 ∧
              P (m5.1 183 (Int32.toNatClampNeg l1)) m5)))))))))
set_option maxRecDepth 20000 in
set_option maxHeartbeats 4000000 in
theorem b_X7_natural {l1 : Int32} {l2 : Int32} {m : vM} {P : Int32 → vM → Prop}  (h : wp_X7_natural l1 l2 m P) : J_X7_natural_0 l1 l2 m P := by
  show vJ mX7_natural 4 96 197 none 0 [(0, .ref 163), (1, .int l1), (2, .int l2)] [] 197 SH m (vPi P)
  unfold wp_X7_natural at h
  refine vJ.aload_n dX7_natural_0 rfl rfl ?_
  refine vJ.iload_n dX7_natural_1 rfl rfl ?_
  refine vJ.callV (ci := 7) (Yc := mX7_isColumn) (frc := 1) (loc := 22) (as := [.int l1]) dX7_natural_2 rfl sh_163 (Nat.le_of_ble_eq_true rfl) rfl ml_RX7_141 im_yX7_isColumn se_yX7_isColumn co_X7_isColumn in_TableSetterModel pl_X7_isColumn (Nat.le_of_ble_eq_true rfl) (Nat.le_of_ble_eq_true rfl) (Nat.le_of_ble_eq_true rfl) ?_
  refine Ev.gi (e_X7_isColumn  h) (fun r2 m1 h => ?_)
  refine vJ.if_eq (tgt := 17) dX7_natural_5 (by decide) (fun hc10 => ?_) (fun hc10 => ?_)
  · replace h := h.1 hc10
    refine vJ.iconst dX7_natural_17 ci_m1 ?_
    exact vJ.ireturn dX7_natural_18 rfl rfl rfl ⟨rfl, _, rfl, h⟩
  · replace h := h.2 hc10
    refine vJ.iload_n dX7_natural_8 rfl rfl ?_
    refine vJ.iconst dX7_natural_9 ci_0 ?_
    refine vJ.iconst dX7_natural_10 ci_1 ?_
    refine vJ.callS (Yc := mX7_in) (frc := 0) (loc := 0) (as := [.int l2, .int (0 : Int32), .int (1 : Int32)]) dX7_natural_11 rfl ml_RX7_119 st_yX7_in co_X7_in in_TableSetterModel pl_X7_in (Nat.le_of_ble_eq_true rfl) (Nat.le_of_ble_eq_true rfl) (Nat.le_of_ble_eq_true rfl) ?_
    refine Ev.gi (e_X7_in  h) (fun r4 m3 h => ?_)
    refine vJ.if_ne (tgt := 19) dX7_natural_14 (by decide) (fun hc9 => ?_) (fun hc9 => ?_)
    · replace h := h.2 hc9
      refine vJ.aload_n dX7_natural_19 rfl rfl ?_
      refine vJ.callV (ci := 7) (Yc := mX7_layBoth) (frc := 3) (loc := 75) (as := []) dX7_natural_20 rfl sh_163 (Nat.le_of_ble_eq_true rfl) rfl ml_RX7_192 im_yX7_layBoth se_yX7_layBoth co_X7_layBoth in_TableSetterModel pl_X7_layBoth (Nat.le_of_ble_eq_true rfl) (Nat.le_of_ble_eq_true rfl) (Nat.le_of_ble_eq_true rfl) ?_
      refine Ev.gv h (fun m5 h => ?_)
      refine vJ.iload_n dX7_natural_23 rfl rfl ?_
      refine vJ.if_ne (tgt := 36) dX7_natural_24 (by decide) (fun hc8 => ?_) (fun hc8 => ?_)
      · replace h := h.2 hc8
        refine vJ.aload_n dX7_natural_36 rfl rfl ?_
        refine vJ.getR (ci := 7) (k := 25) (j := 183) dX7_natural_37 sh_163 (Nat.le_of_ble_eq_true rfl) rfl inX7 (Nat.le_of_ble_eq_true rfl) rfl fl_RX7_68 ?_
        refine vJ.iload_n dX7_natural_40 rfl rfl ?_
        obtain ⟨hb6, h⟩ := h
        refine vJ.iald dX7_natural_41 sh_183 (Nat.le_of_ble_eq_true rfl) hb6 ?_
        exact vJ.ireturn dX7_natural_42 rfl rfl rfl ⟨rfl, _, rfl, h⟩
      · replace h := h.1 hc8
        refine vJ.aload_n dX7_natural_27 rfl rfl ?_
        refine vJ.getR (ci := 7) (k := 24) (j := 182) dX7_natural_28 sh_163 (Nat.le_of_ble_eq_true rfl) rfl inX7 (Nat.le_of_ble_eq_true rfl) rfl fl_RX7_65 ?_
        refine vJ.iload_n dX7_natural_31 rfl rfl ?_
        obtain ⟨hb7, h⟩ := h
        refine vJ.iald dX7_natural_32 sh_182 (Nat.le_of_ble_eq_true rfl) hb7 ?_
        refine vJ.goto (tgt := 42) dX7_natural_33 (by decide) ?_
        exact vJ.ireturn dX7_natural_42 rfl rfl rfl ⟨rfl, _, rfl, h⟩
    · replace h := h.1 hc9
      refine vJ.iconst dX7_natural_17 ci_m1 ?_
      exact vJ.ireturn dX7_natural_18 rfl rfl rfl ⟨rfl, _, rfl, h⟩
def EI_X7_natural (l1 : Int32) (l2 : Int32) (m : vM) (P : Int32 → vM → Prop) : Prop := Ev mX7_natural 4 96 197 [.ref 163, .int l1, .int l2] 197 SH m (vPi P)
theorem f_X7_natural {l1 : Int32} {l2 : Int32} {m : vM} {P : Int32 → vM → Prop} (h : J_X7_natural_0 l1 l2 m P) : EI_X7_natural l1 l2 m P := Ev.of pn_X7_natural (Nat.le_of_ble_eq_true rfl) h
theorem e_X7_natural {l1 : Int32} {l2 : Int32} {m : vM} {P : Int32 → vM → Prop}  (h : wp_X7_natural l1 l2 m P) : EI_X7_natural l1 l2 m P := f_X7_natural (b_X7_natural  h)
def J_X7_sumOf_0 (a1 : Nat) (n1 : Nat) (m : vM) (P : Int32 → vM → Prop) : Prop := vJ mX7_sumOf 0 0 197 none 0 [(0, .ref 163), (1, .ref a1)] [] 197 SH m (vPi P)
def J_X7_sumOf_4 (a1 : Nat) (n1 : Nat) (l2 : Int32) (l3 : Int32) (m : vM) (P : Int32 → vM → Prop) : Prop := vJ mX7_sumOf 0 0 197 none 4 [(0, .ref 163), (1, .ref a1), (2, .int l2), (3, .int l3)] [] 197 SH m (vPi P)
def wp_X7_sumOf_0 (a1 : Nat) (n1 : Nat) (m : vM) (P : Int32 → vM → Prop) : Prop :=
  J_X7_sumOf_4 a1 n1 (0 : Int32) (0 : Int32) m P
set_option maxRecDepth 20000 in
set_option maxHeartbeats 4000000 in
theorem b_X7_sumOf_0 {a1 : Nat} {n1 : Nat} {m : vM} {P : Int32 → vM → Prop} (ha1 : SH a1 = (0, n1, vz)) (hw1 : a1 < 197) (h : wp_X7_sumOf_0 a1 n1 m P) : J_X7_sumOf_0 a1 n1 m P := by
  show vJ mX7_sumOf 0 0 197 none 0 [(0, .ref 163), (1, .ref a1)] [] 197 SH m (vPi P)
  unfold wp_X7_sumOf_0 at h
  refine vJ.iconst dX7_sumOf_0 ci_0 ?_
  refine vJ.istore_n (ls2 := [(0, .ref 163), (1, .ref a1), (2, .int (0 : Int32))]) dX7_sumOf_1 rfl (Nat.le_of_ble_eq_true rfl) rfl ?_
  refine vJ.iconst dX7_sumOf_2 ci_0 ?_
  refine vJ.istore_n (ls2 := [(0, .ref 163), (1, .ref a1), (2, .int (0 : Int32)), (3, .int (0 : Int32))]) dX7_sumOf_3 rfl (Nat.le_of_ble_eq_true rfl) rfl ?_
  exact h
def EI_X7_sumOf (a1 : Nat) (n1 : Nat) (m : vM) (P : Int32 → vM → Prop) : Prop := Ev mX7_sumOf 0 0 197 [.ref 163, .ref a1] 197 SH m (vPi P)
theorem f_X7_sumOf {a1 : Nat} {n1 : Nat} {m : vM} {P : Int32 → vM → Prop} (h : J_X7_sumOf_0 a1 n1 m P) : EI_X7_sumOf a1 n1 m P := Ev.of pn_X7_sumOf (Nat.le_of_ble_eq_true rfl) h
def wp_X7_sumOf_4 (a1 : Nat) (n1 : Nat) (l2 : Int32) (l3 : Int32) (m : vM) (P : Int32 → vM → Prop) : Prop :=
  (((m.1 163 3) ≤ l3 →
    P l2 m) ∧
  (¬ (m.1 163 3) ≤ l3 →
    vp_in l3 n1 ∧
    ∀ v2 : Int32, v2 = (l2 + (m.1 a1 (Int32.toNatClampNeg l3))) →
    J_X7_sumOf_4 a1 n1 v2 (l3 + (1 : Int32)) m P))
set_option maxRecDepth 20000 in
set_option maxHeartbeats 4000000 in
theorem b_X7_sumOf_4 {a1 : Nat} {n1 : Nat} {l2 : Int32} {l3 : Int32} {m : vM} {P : Int32 → vM → Prop} (ha1 : SH a1 = (0, n1, vz)) (hw1 : a1 < 197) (h : wp_X7_sumOf_4 a1 n1 l2 l3 m P) : J_X7_sumOf_4 a1 n1 l2 l3 m P := by
  show vJ mX7_sumOf 0 0 197 none 4 [(0, .ref 163), (1, .ref a1), (2, .int l2), (3, .int l3)] [] 197 SH m (vPi P)
  unfold wp_X7_sumOf_4 at h
  refine vJ.iload_n dX7_sumOf_4 rfl rfl ?_
  refine vJ.aload_n dX7_sumOf_5 rfl rfl ?_
  refine vJ.getI (ci := 7) (k := 3) dX7_sumOf_6 sh_163 (Nat.le_of_ble_eq_true rfl) rfl inX7 (Nat.le_of_ble_eq_true rfl) rfl fl_RX7_126 ?_
  refine vJ.icmp_ge (tgt := 24) dX7_sumOf_9 (by decide) (fun hc3 => ?_) (fun hc3 => ?_)
  · replace h := h.1 hc3
    refine vJ.iload_n dX7_sumOf_24 rfl rfl ?_
    exact vJ.ireturn dX7_sumOf_25 rfl rfl rfl ⟨rfl, _, rfl, h⟩
  · replace h := h.2 hc3
    refine vJ.iload_n dX7_sumOf_12 rfl rfl ?_
    refine vJ.aload_n dX7_sumOf_13 rfl rfl ?_
    refine vJ.iload_n dX7_sumOf_14 rfl rfl ?_
    obtain ⟨hb1, h⟩ := h
    refine vJ.iald dX7_sumOf_15 ha1 hw1 hb1 ?_
    refine vJ.iadd dX7_sumOf_16 ?_
    refine vJ.topi (fun v2 ev2 => ?_)
    replace h := h v2 ev2
    refine vJ.istore_n (ls2 := [(0, .ref 163), (1, .ref a1), (2, .int v2), (3, .int l3)]) dX7_sumOf_17 rfl (Nat.le_of_ble_eq_true rfl) rfl ?_
    refine vJ.iinc (v := l3 + (1 : Int32)) (ls2 := [(0, .ref 163), (1, .ref a1), (2, .int v2), (3, .int (l3 + (1 : Int32)))]) dX7_sumOf_18 rfl (congrArg (l3 + ·) ci_1) (Nat.le_of_ble_eq_true rfl) rfl ?_
    refine vJ.goto (tgt := 4) dX7_sumOf_21 (by decide) ?_
    exact h
def J_X7_layHeights_0 (a1 : Nat) (n1 : Nat) (m : vM) (P : vM → Prop) : Prop := vJ mX7_layHeights 1 28 197 none 0 [(0, .ref 163), (1, .ref a1)] [] 197 SH m (vPv P)
def J_X7_layHeights_2 (a1 : Nat) (n1 : Nat) (l2 : Int32) (m : vM) (P : vM → Prop) : Prop := vJ mX7_layHeights 1 28 197 none 2 [(0, .ref 163), (1, .ref a1), (2, .int l2)] [] 197 SH m (vPv P)
def wp_X7_layHeights_0 (a1 : Nat) (n1 : Nat) (m : vM) (P : vM → Prop) : Prop :=
  J_X7_layHeights_2 a1 n1 (0 : Int32) m P
set_option maxRecDepth 20000 in
set_option maxHeartbeats 4000000 in
theorem b_X7_layHeights_0 {a1 : Nat} {n1 : Nat} {m : vM} {P : vM → Prop} (ha1 : SH a1 = (0, n1, vz)) (hw1 : a1 < 197) (h : wp_X7_layHeights_0 a1 n1 m P) : J_X7_layHeights_0 a1 n1 m P := by
  show vJ mX7_layHeights 1 28 197 none 0 [(0, .ref 163), (1, .ref a1)] [] 197 SH m (vPv P)
  unfold wp_X7_layHeights_0 at h
  refine vJ.iconst dX7_layHeights_0 ci_0 ?_
  refine vJ.istore_n (ls2 := [(0, .ref 163), (1, .ref a1), (2, .int (0 : Int32))]) dX7_layHeights_1 rfl (Nat.le_of_ble_eq_true rfl) rfl ?_
  exact h
def EI_X7_layHeights (a1 : Nat) (n1 : Nat) (m : vM) (P : vM → Prop) : Prop := Ev mX7_layHeights 1 28 197 [.ref 163, .ref a1] 197 SH m (vPv P)
theorem f_X7_layHeights {a1 : Nat} {n1 : Nat} {m : vM} {P : vM → Prop} (h : J_X7_layHeights_0 a1 n1 m P) : EI_X7_layHeights a1 n1 m P := Ev.of pn_X7_layHeights (Nat.le_of_ble_eq_true rfl) h
def J_X7_layHeights_25 (a1 : Nat) (n1 : Nat) (l2 : Int32) (m : vM) (P : vM → Prop) : Prop := vJ mX7_layHeights 1 28 197 none 25 [(0, .ref 163), (1, .ref a1), (2, .int l2)] [] 197 SH m (vPv P)
def wp_X7_layHeights_2 (a1 : Nat) (n1 : Nat) (l2 : Int32) (m : vM) (P : vM → Prop) : Prop :=
  (((m.1 163 2) ≤ l2 →
    J_X7_layHeights_25 a1 n1 (1 : Int32) m P) ∧
  (¬ (m.1 163 2) ≤ l2 →
    vp_in l2 16 ∧
    ∀ m2 : vM, m2 = upI m 185 (Int32.toNatClampNeg l2) (1 : Int32) →
    J_X7_layHeights_2 a1 n1 (l2 + (1 : Int32)) m2 P))
set_option maxRecDepth 20000 in
set_option maxHeartbeats 4000000 in
theorem b_X7_layHeights_2 {a1 : Nat} {n1 : Nat} {l2 : Int32} {m : vM} {P : vM → Prop} (ha1 : SH a1 = (0, n1, vz)) (hw1 : a1 < 197) (h : wp_X7_layHeights_2 a1 n1 l2 m P) : J_X7_layHeights_2 a1 n1 l2 m P := by
  show vJ mX7_layHeights 1 28 197 none 2 [(0, .ref 163), (1, .ref a1), (2, .int l2)] [] 197 SH m (vPv P)
  unfold wp_X7_layHeights_2 at h
  refine vJ.iload_n dX7_layHeights_2 rfl rfl ?_
  refine vJ.aload_n dX7_layHeights_3 rfl rfl ?_
  refine vJ.getI (ci := 7) (k := 2) dX7_layHeights_4 sh_163 (Nat.le_of_ble_eq_true rfl) rfl inX7 (Nat.le_of_ble_eq_true rfl) rfl fl_RX7_123 ?_
  refine vJ.icmp_ge (tgt := 23) dX7_layHeights_7 (by decide) (fun hc3 => ?_) (fun hc3 => ?_)
  · replace h := h.1 hc3
    refine vJ.iconst dX7_layHeights_23 ci_1 ?_
    refine vJ.istore_n (ls2 := [(0, .ref 163), (1, .ref a1), (2, .int (1 : Int32))]) dX7_layHeights_24 rfl (Nat.le_of_ble_eq_true rfl) rfl ?_
    exact h
  · replace h := h.2 hc3
    refine vJ.aload_n dX7_layHeights_10 rfl rfl ?_
    refine vJ.getR (ci := 7) (k := 27) (j := 185) dX7_layHeights_11 sh_163 (Nat.le_of_ble_eq_true rfl) rfl inX7 (Nat.le_of_ble_eq_true rfl) rfl fl_RX7_74 ?_
    refine vJ.iload_n dX7_layHeights_14 rfl rfl ?_
    refine vJ.iconst dX7_layHeights_15 ci_1 ?_
    obtain ⟨hb1, h⟩ := h
    refine vJ.iast dX7_layHeights_16 sh_185 (Nat.le_of_ble_eq_true rfl) hb1 ?_
    refine vJ.topm (fun m2 em2 => ?_)
    replace h := h m2 em2
    refine vJ.iinc (v := l2 + (1 : Int32)) (ls2 := [(0, .ref 163), (1, .ref a1), (2, .int (l2 + (1 : Int32)))]) dX7_layHeights_17 rfl (congrArg (l2 + ·) ci_1) (Nat.le_of_ble_eq_true rfl) rfl ?_
    refine vJ.goto (tgt := 2) dX7_layHeights_20 (by decide) ?_
    exact h
def J_X7_layHeights_35 (a1 : Nat) (n1 : Nat) (l2 : Int32) (l3 : Int32) (m : vM) (P : vM → Prop) : Prop := vJ mX7_layHeights 1 28 197 none 35 [(0, .ref 163), (1, .ref a1), (2, .int l2), (3, .int l3)] [] 197 SH m (vPv P)
def wp_X7_layHeights_25 (a1 : Nat) (n1 : Nat) (l2 : Int32) (m : vM) (P : vM → Prop) : Prop :=
  (((m.1 163 2) < l2 →
    P m) ∧
  (¬ (m.1 163 2) < l2 →
    J_X7_layHeights_35 a1 n1 l2 (0 : Int32) m P))
set_option maxRecDepth 20000 in
set_option maxHeartbeats 4000000 in
theorem b_X7_layHeights_25 {a1 : Nat} {n1 : Nat} {l2 : Int32} {m : vM} {P : vM → Prop} (ha1 : SH a1 = (0, n1, vz)) (hw1 : a1 < 197) (h : wp_X7_layHeights_25 a1 n1 l2 m P) : J_X7_layHeights_25 a1 n1 l2 m P := by
  show vJ mX7_layHeights 1 28 197 none 25 [(0, .ref 163), (1, .ref a1), (2, .int l2)] [] 197 SH m (vPv P)
  unfold wp_X7_layHeights_25 at h
  refine vJ.iload_n dX7_layHeights_25 rfl rfl ?_
  refine vJ.aload_n dX7_layHeights_26 rfl rfl ?_
  refine vJ.getI (ci := 7) (k := 2) dX7_layHeights_27 sh_163 (Nat.le_of_ble_eq_true rfl) rfl inX7 (Nat.le_of_ble_eq_true rfl) rfl fl_RX7_123 ?_
  refine vJ.icmp_gt (tgt := 234) dX7_layHeights_30 (by decide) (fun hc1 => ?_) (fun hc1 => ?_)
  · replace h := h.1 hc1
    exact vJ.vreturn dX7_layHeights_234 rfl rfl ⟨rfl, rfl, h⟩
  · replace h := h.2 hc1
    refine vJ.iconst dX7_layHeights_33 ci_0 ?_
    refine vJ.istore_n (ls2 := [(0, .ref 163), (1, .ref a1), (2, .int l2), (3, .int (0 : Int32))]) dX7_layHeights_34 rfl (Nat.le_of_ble_eq_true rfl) rfl ?_
    exact h
def J_X7_layHeights_58 (a1 : Nat) (n1 : Nat) (l2 : Int32) (l3 : Int32) (m : vM) (P : vM → Prop) : Prop := vJ mX7_layHeights 1 28 197 none 58 [(0, .ref 163), (1, .ref a1), (2, .int l2), (3, .int l3)] [] 197 SH m (vPv P)
def wp_X7_layHeights_35 (a1 : Nat) (n1 : Nat) (l2 : Int32) (l3 : Int32) (m : vM) (P : vM → Prop) : Prop :=
  (((m.1 163 2) ≤ l3 →
    J_X7_layHeights_58 a1 n1 l2 (0 : Int32) m P) ∧
  (¬ (m.1 163 2) ≤ l3 →
    vp_in l3 16 ∧
    ∀ m2 : vM, m2 = upI m 186 (Int32.toNatClampNeg l3) (0 : Int32) →
    J_X7_layHeights_35 a1 n1 l2 (l3 + (1 : Int32)) m2 P))
set_option maxRecDepth 20000 in
set_option maxHeartbeats 4000000 in
theorem b_X7_layHeights_35 {a1 : Nat} {n1 : Nat} {l2 : Int32} {l3 : Int32} {m : vM} {P : vM → Prop} (ha1 : SH a1 = (0, n1, vz)) (hw1 : a1 < 197) (h : wp_X7_layHeights_35 a1 n1 l2 l3 m P) : J_X7_layHeights_35 a1 n1 l2 l3 m P := by
  show vJ mX7_layHeights 1 28 197 none 35 [(0, .ref 163), (1, .ref a1), (2, .int l2), (3, .int l3)] [] 197 SH m (vPv P)
  unfold wp_X7_layHeights_35 at h
  refine vJ.iload_n dX7_layHeights_35 rfl rfl ?_
  refine vJ.aload_n dX7_layHeights_36 rfl rfl ?_
  refine vJ.getI (ci := 7) (k := 2) dX7_layHeights_37 sh_163 (Nat.le_of_ble_eq_true rfl) rfl inX7 (Nat.le_of_ble_eq_true rfl) rfl fl_RX7_123 ?_
  refine vJ.icmp_ge (tgt := 56) dX7_layHeights_40 (by decide) (fun hc3 => ?_) (fun hc3 => ?_)
  · replace h := h.1 hc3
    refine vJ.iconst dX7_layHeights_56 ci_0 ?_
    refine vJ.istore_n (ls2 := [(0, .ref 163), (1, .ref a1), (2, .int l2), (3, .int (0 : Int32))]) dX7_layHeights_57 rfl (Nat.le_of_ble_eq_true rfl) rfl ?_
    exact h
  · replace h := h.2 hc3
    refine vJ.aload_n dX7_layHeights_43 rfl rfl ?_
    refine vJ.getR (ci := 7) (k := 28) (j := 186) dX7_layHeights_44 sh_163 (Nat.le_of_ble_eq_true rfl) rfl inX7 (Nat.le_of_ble_eq_true rfl) rfl fl_RX7_77 ?_
    refine vJ.iload_n dX7_layHeights_47 rfl rfl ?_
    refine vJ.iconst dX7_layHeights_48 ci_0 ?_
    obtain ⟨hb1, h⟩ := h
    refine vJ.iast dX7_layHeights_49 sh_186 (Nat.le_of_ble_eq_true rfl) hb1 ?_
    refine vJ.topm (fun m2 em2 => ?_)
    replace h := h m2 em2
    refine vJ.iinc (v := l3 + (1 : Int32)) (ls2 := [(0, .ref 163), (1, .ref a1), (2, .int l2), (3, .int (l3 + (1 : Int32)))]) dX7_layHeights_50 rfl (congrArg (l3 + ·) ci_1) (Nat.le_of_ble_eq_true rfl) rfl ?_
    refine vJ.goto (tgt := 35) dX7_layHeights_53 (by decide) ?_
    exact h
def J_X7_layHeights_199 (a1 : Nat) (n1 : Nat) (l2 : Int32) (l3 : Int32) (m : vM) (P : vM → Prop) : Prop := vJ mX7_layHeights 1 28 197 none 199 [(0, .ref 163), (1, .ref a1), (2, .int l2), (3, .int l3)] [] 197 SH m (vPv P)
def J_X7_layHeights_117 (a1 : Nat) (n1 : Nat) (l2 : Int32) (l3 : Int32) (l4 : Int32) (l5 : Int32) (m : vM) (P : vM → Prop) : Prop := vJ mX7_layHeights 1 28 197 none 117 [(0, .ref 163), (1, .ref a1), (2, .int l2), (3, .int l3), (4, .int l4), (5, .int l5)] [] 197 SH m (vPv P)
def wp_X7_layHeights_58 (a1 : Nat) (n1 : Nat) (l2 : Int32) (l3 : Int32) (m : vM) (P : vM → Prop) : Prop :=
  (((m.1 163 7) ≤ l3 →
    J_X7_layHeights_199 a1 n1 l2 (0 : Int32) m P) ∧
  (¬ (m.1 163 7) ≤ l3 →
    vp_in l3 40 ∧
    (((m.1 172 (Int32.toNatClampNeg l3)) = (0 : Int32) →
      vp_in l3 40 ∧
      (((m.1 170 (Int32.toNatClampNeg l3)) = l2 →
        vp_in l3 40 ∧
        vp_in l3 40 ∧
        EI_X7_widthOver a1 n1 (m.1 169 (Int32.toNatClampNeg l3)) (m.1 171 (Int32.toNatClampNeg l3)) m (fun r6 m5 =>
          EI_X7_linesOf l3 r6 m5 (fun r8 m7 =>
            vp_in l3 40 ∧
            ∀ v10 : Int32, v10 = (m7.1 168 (Int32.toNatClampNeg l3)) →
            J_X7_layHeights_117 a1 n1 l2 l3 r8 v10 m7 P))) ∧
      (¬ (m.1 170 (Int32.toNatClampNeg l3)) = l2 →
        J_X7_layHeights_58 a1 n1 l2 (l3 + (1 : Int32)) m P))) ∧
    (¬ (m.1 172 (Int32.toNatClampNeg l3)) = (0 : Int32) →
      J_X7_layHeights_58 a1 n1 l2 (l3 + (1 : Int32)) m P))))
set_option maxRecDepth 20000 in
set_option maxHeartbeats 4000000 in
theorem b_X7_layHeights_58 {a1 : Nat} {n1 : Nat} {l2 : Int32} {l3 : Int32} {m : vM} {P : vM → Prop} (ha1 : SH a1 = (0, n1, vz)) (hw1 : a1 < 197) (h : wp_X7_layHeights_58 a1 n1 l2 l3 m P) : J_X7_layHeights_58 a1 n1 l2 l3 m P := by
  show vJ mX7_layHeights 1 28 197 none 58 [(0, .ref 163), (1, .ref a1), (2, .int l2), (3, .int l3)] [] 197 SH m (vPv P)
  unfold wp_X7_layHeights_58 at h
  refine vJ.iload_n dX7_layHeights_58 rfl rfl ?_
  refine vJ.aload_n dX7_layHeights_59 rfl rfl ?_
  refine vJ.getI (ci := 7) (k := 7) dX7_layHeights_60 sh_163 (Nat.le_of_ble_eq_true rfl) rfl inX7 (Nat.le_of_ble_eq_true rfl) rfl fl_RX7_132 ?_
  refine vJ.icmp_ge (tgt := 197) dX7_layHeights_63 (by decide) (fun hc13 => ?_) (fun hc13 => ?_)
  · replace h := h.1 hc13
    refine vJ.iconst dX7_layHeights_197 ci_0 ?_
    refine vJ.istore_n (ls2 := [(0, .ref 163), (1, .ref a1), (2, .int l2), (3, .int (0 : Int32))]) dX7_layHeights_198 rfl (Nat.le_of_ble_eq_true rfl) rfl ?_
    exact h
  · replace h := h.2 hc13
    refine vJ.aload_n dX7_layHeights_66 rfl rfl ?_
    refine vJ.getR (ci := 7) (k := 13) (j := 172) dX7_layHeights_67 sh_163 (Nat.le_of_ble_eq_true rfl) rfl inX7 (Nat.le_of_ble_eq_true rfl) rfl fl_RX7_34 ?_
    refine vJ.iload_n dX7_layHeights_70 rfl rfl ?_
    obtain ⟨hb1, h⟩ := h
    refine vJ.zald dX7_layHeights_71 sh_172 (Nat.le_of_ble_eq_true rfl) hb1 ?_
    refine vJ.if_ne (tgt := 191) dX7_layHeights_72 (by decide) (fun hc12 => ?_) (fun hc12 => ?_)
    · replace h := h.2 hc12
      refine vJ.iinc (v := l3 + (1 : Int32)) (ls2 := [(0, .ref 163), (1, .ref a1), (2, .int l2), (3, .int (l3 + (1 : Int32)))]) dX7_layHeights_191 rfl (congrArg (l3 + ·) ci_1) (Nat.le_of_ble_eq_true rfl) rfl ?_
      refine vJ.goto (tgt := 58) dX7_layHeights_194 (by decide) ?_
      exact h
    · replace h := h.1 hc12
      refine vJ.aload_n dX7_layHeights_75 rfl rfl ?_
      refine vJ.getR (ci := 7) (k := 11) (j := 170) dX7_layHeights_76 sh_163 (Nat.le_of_ble_eq_true rfl) rfl inX7 (Nat.le_of_ble_eq_true rfl) rfl fl_RX7_28 ?_
      refine vJ.iload_n dX7_layHeights_79 rfl rfl ?_
      obtain ⟨hb2, h⟩ := h
      refine vJ.iald dX7_layHeights_80 sh_170 (Nat.le_of_ble_eq_true rfl) hb2 ?_
      refine vJ.iload_n dX7_layHeights_81 rfl rfl ?_
      refine vJ.icmp_ne (tgt := 191) dX7_layHeights_82 (by decide) (fun hc11 => ?_) (fun hc11 => ?_)
      · replace h := h.2 hc11
        refine vJ.iinc (v := l3 + (1 : Int32)) (ls2 := [(0, .ref 163), (1, .ref a1), (2, .int l2), (3, .int (l3 + (1 : Int32)))]) dX7_layHeights_191 rfl (congrArg (l3 + ·) ci_1) (Nat.le_of_ble_eq_true rfl) rfl ?_
        refine vJ.goto (tgt := 58) dX7_layHeights_194 (by decide) ?_
        exact h
      · replace h := h.1 hc11
        refine vJ.aload_n dX7_layHeights_85 rfl rfl ?_
        refine vJ.iload_n dX7_layHeights_86 rfl rfl ?_
        refine vJ.aload_n dX7_layHeights_87 rfl rfl ?_
        refine vJ.aload_n dX7_layHeights_88 rfl rfl ?_
        refine vJ.aload_n dX7_layHeights_89 rfl rfl ?_
        refine vJ.getR (ci := 7) (k := 10) (j := 169) dX7_layHeights_90 sh_163 (Nat.le_of_ble_eq_true rfl) rfl inX7 (Nat.le_of_ble_eq_true rfl) rfl fl_RX7_25 ?_
        refine vJ.iload_n dX7_layHeights_93 rfl rfl ?_
        obtain ⟨hb3, h⟩ := h
        refine vJ.iald dX7_layHeights_94 sh_169 (Nat.le_of_ble_eq_true rfl) hb3 ?_
        refine vJ.aload_n dX7_layHeights_95 rfl rfl ?_
        refine vJ.getR (ci := 7) (k := 12) (j := 171) dX7_layHeights_96 sh_163 (Nat.le_of_ble_eq_true rfl) rfl inX7 (Nat.le_of_ble_eq_true rfl) rfl fl_RX7_31 ?_
        refine vJ.iload_n dX7_layHeights_99 rfl rfl ?_
        obtain ⟨hb4, h⟩ := h
        refine vJ.iald dX7_layHeights_100 sh_171 (Nat.le_of_ble_eq_true rfl) hb4 ?_
        refine vJ.callV (ci := 7) (Yc := mX7_widthOver) (frc := 0) (loc := 0) (as := [.ref a1, .int (m.1 169 (Int32.toNatClampNeg l3)), .int (m.1 171 (Int32.toNatClampNeg l3))]) dX7_layHeights_101 rfl sh_163 (Nat.le_of_ble_eq_true rfl) rfl ml_RX7_178 im_yX7_widthOver se_yX7_widthOver co_X7_widthOver in_TableSetterModel pl_X7_widthOver (Nat.le_of_ble_eq_true rfl) (Nat.le_of_ble_eq_true rfl) (Nat.le_of_ble_eq_true rfl) ?_
        refine Ev.gi h (fun r6 m5 h => ?_)
        refine vJ.callV (ci := 7) (Yc := mX7_linesOf) (frc := 0) (loc := 0) (as := [.int l3, .int r6]) dX7_layHeights_104 rfl sh_163 (Nat.le_of_ble_eq_true rfl) rfl ml_RX7_172 im_yX7_linesOf se_yX7_linesOf co_X7_linesOf in_TableSetterModel pl_X7_linesOf (Nat.le_of_ble_eq_true rfl) (Nat.le_of_ble_eq_true rfl) (Nat.le_of_ble_eq_true rfl) ?_
        refine Ev.gi h (fun r8 m7 h => ?_)
        refine vJ.istore (ls2 := [(0, .ref 163), (1, .ref a1), (2, .int l2), (3, .int l3), (4, .int r8)]) dX7_layHeights_107 (Nat.le_of_ble_eq_true rfl) rfl ?_
        refine vJ.aload_n dX7_layHeights_109 rfl rfl ?_
        refine vJ.getR (ci := 7) (k := 9) (j := 168) dX7_layHeights_110 sh_163 (Nat.le_of_ble_eq_true rfl) rfl inX7 (Nat.le_of_ble_eq_true rfl) rfl fl_RX7_22 ?_
        refine vJ.iload_n dX7_layHeights_113 rfl rfl ?_
        obtain ⟨hb9, h⟩ := h
        refine vJ.iald dX7_layHeights_114 sh_168 (Nat.le_of_ble_eq_true rfl) hb9 ?_
        refine vJ.topi (fun v10 ev10 => ?_)
        replace h := h v10 ev10
        refine vJ.istore (ls2 := [(0, .ref 163), (1, .ref a1), (2, .int l2), (3, .int l3), (4, .int r8), (5, .int v10)]) dX7_layHeights_115 (Nat.le_of_ble_eq_true rfl) rfl ?_
        exact h
def wp_X7_layHeights_199 (a1 : Nat) (n1 : Nat) (l2 : Int32) (l3 : Int32) (m : vM) (P : vM → Prop) : Prop :=
  (((m.1 163 2) ≤ l3 →
    J_X7_layHeights_25 a1 n1 (l2 + (1 : Int32)) m P) ∧
  (¬ (m.1 163 2) ≤ l3 →
    vp_in l3 16 ∧
    vp_in l3 16 ∧
    vp_in l3 16 ∧
    ∀ m4 : vM, m4 = upI m 185 (Int32.toNatClampNeg l3) ((m.1 185 (Int32.toNatClampNeg l3)) + (m.1 186 (Int32.toNatClampNeg l3))) →
    J_X7_layHeights_199 a1 n1 l2 (l3 + (1 : Int32)) m4 P))
set_option maxRecDepth 20000 in
set_option maxHeartbeats 4000000 in
theorem b_X7_layHeights_199 {a1 : Nat} {n1 : Nat} {l2 : Int32} {l3 : Int32} {m : vM} {P : vM → Prop} (ha1 : SH a1 = (0, n1, vz)) (hw1 : a1 < 197) (h : wp_X7_layHeights_199 a1 n1 l2 l3 m P) : J_X7_layHeights_199 a1 n1 l2 l3 m P := by
  show vJ mX7_layHeights 1 28 197 none 199 [(0, .ref 163), (1, .ref a1), (2, .int l2), (3, .int l3)] [] 197 SH m (vPv P)
  unfold wp_X7_layHeights_199 at h
  refine vJ.iload_n dX7_layHeights_199 rfl rfl ?_
  refine vJ.aload_n dX7_layHeights_200 rfl rfl ?_
  refine vJ.getI (ci := 7) (k := 2) dX7_layHeights_201 sh_163 (Nat.le_of_ble_eq_true rfl) rfl inX7 (Nat.le_of_ble_eq_true rfl) rfl fl_RX7_123 ?_
  refine vJ.icmp_ge (tgt := 228) dX7_layHeights_204 (by decide) (fun hc5 => ?_) (fun hc5 => ?_)
  · replace h := h.1 hc5
    refine vJ.iinc (v := l2 + (1 : Int32)) (ls2 := [(0, .ref 163), (1, .ref a1), (2, .int (l2 + (1 : Int32))), (3, .int l3)]) dX7_layHeights_228 rfl (congrArg (l2 + ·) ci_1) (Nat.le_of_ble_eq_true rfl) rfl ?_
    refine vJ.goto (tgt := 25) dX7_layHeights_231 (by decide) ?_
    refine vJ.sub [0, 1, 2] rfl ?_
    exact h
  · replace h := h.2 hc5
    refine vJ.aload_n dX7_layHeights_207 rfl rfl ?_
    refine vJ.getR (ci := 7) (k := 27) (j := 185) dX7_layHeights_208 sh_163 (Nat.le_of_ble_eq_true rfl) rfl inX7 (Nat.le_of_ble_eq_true rfl) rfl fl_RX7_74 ?_
    refine vJ.iload_n dX7_layHeights_211 rfl rfl ?_
    refine vJ.dup2 dX7_layHeights_212 rfl rfl ?_
    obtain ⟨hb1, h⟩ := h
    refine vJ.iald dX7_layHeights_213 sh_185 (Nat.le_of_ble_eq_true rfl) hb1 ?_
    refine vJ.aload_n dX7_layHeights_214 rfl rfl ?_
    refine vJ.getR (ci := 7) (k := 28) (j := 186) dX7_layHeights_215 sh_163 (Nat.le_of_ble_eq_true rfl) rfl inX7 (Nat.le_of_ble_eq_true rfl) rfl fl_RX7_77 ?_
    refine vJ.iload_n dX7_layHeights_218 rfl rfl ?_
    obtain ⟨hb2, h⟩ := h
    refine vJ.iald dX7_layHeights_219 sh_186 (Nat.le_of_ble_eq_true rfl) hb2 ?_
    refine vJ.iadd dX7_layHeights_220 ?_
    obtain ⟨hb3, h⟩ := h
    refine vJ.iast dX7_layHeights_221 sh_185 (Nat.le_of_ble_eq_true rfl) hb3 ?_
    refine vJ.topm (fun m4 em4 => ?_)
    replace h := h m4 em4
    refine vJ.iinc (v := l3 + (1 : Int32)) (ls2 := [(0, .ref 163), (1, .ref a1), (2, .int l2), (3, .int (l3 + (1 : Int32)))]) dX7_layHeights_222 rfl (congrArg (l3 + ·) ci_1) (Nat.le_of_ble_eq_true rfl) rfl ?_
    refine vJ.goto (tgt := 199) dX7_layHeights_225 (by decide) ?_
    exact h
def wp_X7_layHeights_117 (a1 : Nat) (n1 : Nat) (l2 : Int32) (l3 : Int32) (l4 : Int32) (l5 : Int32) (m : vM) (P : vM → Prop) : Prop :=
  vp_in l3 40 ∧
  ((((m.1 168 (Int32.toNatClampNeg l3)) + l2) ≤ l5 →
    vp_in l3 40 ∧
    ∀ v3 : Int32, v3 = (((m.1 168 (Int32.toNatClampNeg l3)) + l2) - (1 : Int32)) →
    vp_in v3 16 ∧
    ((l4 ≤ (m.1 186 (Int32.toNatClampNeg v3)) →
      vp_in v3 16 ∧
      vp_in v3 16 ∧
      ∀ m7 : vM, m7 = upI m 186 (Int32.toNatClampNeg v3) (m.1 186 (Int32.toNatClampNeg v3)) →
      J_X7_layHeights_58 a1 n1 l2 (l3 + (1 : Int32)) m7 P) ∧
    (¬ l4 ≤ (m.1 186 (Int32.toNatClampNeg v3)) →
      vp_in v3 16 ∧
      ∀ m9 : vM, m9 = upI m 186 (Int32.toNatClampNeg v3) l4 →
      J_X7_layHeights_58 a1 n1 l2 (l3 + (1 : Int32)) m9 P))) ∧
  (¬ ((m.1 168 (Int32.toNatClampNeg l3)) + l2) ≤ l5 →
    vp_in l5 16 ∧
    ∀ v12 : Int32, v12 = (l4 - (m.1 185 (Int32.toNatClampNeg l5))) →
    J_X7_layHeights_117 a1 n1 l2 l3 v12 (l5 + (1 : Int32)) m P))
set_option maxRecDepth 20000 in
set_option maxHeartbeats 4000000 in
theorem b_X7_layHeights_117 {a1 : Nat} {n1 : Nat} {l2 : Int32} {l3 : Int32} {l4 : Int32} {l5 : Int32} {m : vM} {P : vM → Prop} (ha1 : SH a1 = (0, n1, vz)) (hw1 : a1 < 197) (h : wp_X7_layHeights_117 a1 n1 l2 l3 l4 l5 m P) : J_X7_layHeights_117 a1 n1 l2 l3 l4 l5 m P := by
  show vJ mX7_layHeights 1 28 197 none 117 [(0, .ref 163), (1, .ref a1), (2, .int l2), (3, .int l3), (4, .int l4), (5, .int l5)] [] 197 SH m (vPv P)
  unfold wp_X7_layHeights_117 at h
  refine vJ.iload dX7_layHeights_117 rfl ?_
  refine vJ.aload_n dX7_layHeights_119 rfl rfl ?_
  refine vJ.getR (ci := 7) (k := 9) (j := 168) dX7_layHeights_120 sh_163 (Nat.le_of_ble_eq_true rfl) rfl inX7 (Nat.le_of_ble_eq_true rfl) rfl fl_RX7_22 ?_
  refine vJ.iload_n dX7_layHeights_123 rfl rfl ?_
  obtain ⟨hb1, h⟩ := h
  refine vJ.iald dX7_layHeights_124 sh_168 (Nat.le_of_ble_eq_true rfl) hb1 ?_
  refine vJ.iload_n dX7_layHeights_125 rfl rfl ?_
  refine vJ.iadd dX7_layHeights_126 ?_
  refine vJ.icmp_ge (tgt := 148) dX7_layHeights_127 (by decide) (fun hc13 => ?_) (fun hc13 => ?_)
  · replace h := h.1 hc13
    refine vJ.aload_n dX7_layHeights_148 rfl rfl ?_
    refine vJ.getR (ci := 7) (k := 9) (j := 168) dX7_layHeights_149 sh_163 (Nat.le_of_ble_eq_true rfl) rfl inX7 (Nat.le_of_ble_eq_true rfl) rfl fl_RX7_22 ?_
    refine vJ.iload_n dX7_layHeights_152 rfl rfl ?_
    obtain ⟨hb2, h⟩ := h
    refine vJ.iald dX7_layHeights_153 sh_168 (Nat.le_of_ble_eq_true rfl) hb2 ?_
    refine vJ.iload_n dX7_layHeights_154 rfl rfl ?_
    refine vJ.iadd dX7_layHeights_155 ?_
    refine vJ.iconst dX7_layHeights_156 ci_1 ?_
    refine vJ.isub dX7_layHeights_157 ?_
    refine vJ.topi (fun v3 ev3 => ?_)
    replace h := h v3 ev3
    refine vJ.istore (ls2 := [(0, .ref 163), (1, .ref a1), (2, .int l2), (3, .int l3), (4, .int l4), (5, .int v3)]) dX7_layHeights_158 (Nat.le_of_ble_eq_true rfl) rfl ?_
    refine vJ.aload_n dX7_layHeights_160 rfl rfl ?_
    refine vJ.getR (ci := 7) (k := 28) (j := 186) dX7_layHeights_161 sh_163 (Nat.le_of_ble_eq_true rfl) rfl inX7 (Nat.le_of_ble_eq_true rfl) rfl fl_RX7_77 ?_
    refine vJ.iload dX7_layHeights_164 rfl ?_
    refine vJ.iload dX7_layHeights_166 rfl ?_
    refine vJ.aload_n dX7_layHeights_168 rfl rfl ?_
    refine vJ.getR (ci := 7) (k := 28) (j := 186) dX7_layHeights_169 sh_163 (Nat.le_of_ble_eq_true rfl) rfl inX7 (Nat.le_of_ble_eq_true rfl) rfl fl_RX7_77 ?_
    refine vJ.iload dX7_layHeights_172 rfl ?_
    obtain ⟨hb4, h⟩ := h
    refine vJ.iald dX7_layHeights_174 sh_186 (Nat.le_of_ble_eq_true rfl) hb4 ?_
    refine vJ.icmp_le (tgt := 183) dX7_layHeights_175 (by decide) (fun hc10 => ?_) (fun hc10 => ?_)
    · replace h := h.1 hc10
      refine vJ.aload_n dX7_layHeights_183 rfl rfl ?_
      refine vJ.getR (ci := 7) (k := 28) (j := 186) dX7_layHeights_184 sh_163 (Nat.le_of_ble_eq_true rfl) rfl inX7 (Nat.le_of_ble_eq_true rfl) rfl fl_RX7_77 ?_
      refine vJ.iload dX7_layHeights_187 rfl ?_
      obtain ⟨hb5, h⟩ := h
      refine vJ.iald dX7_layHeights_189 sh_186 (Nat.le_of_ble_eq_true rfl) hb5 ?_
      obtain ⟨hb6, h⟩ := h
      refine vJ.iast dX7_layHeights_190 sh_186 (Nat.le_of_ble_eq_true rfl) hb6 ?_
      refine vJ.topm (fun m7 em7 => ?_)
      replace h := h m7 em7
      refine vJ.iinc (v := l3 + (1 : Int32)) (ls2 := [(0, .ref 163), (1, .ref a1), (2, .int l2), (3, .int (l3 + (1 : Int32))), (4, .int l4), (5, .int v3)]) dX7_layHeights_191 rfl (congrArg (l3 + ·) ci_1) (Nat.le_of_ble_eq_true rfl) rfl ?_
      refine vJ.goto (tgt := 58) dX7_layHeights_194 (by decide) ?_
      refine vJ.sub [0, 1, 2, 3] rfl ?_
      exact h
    · replace h := h.2 hc10
      refine vJ.iload dX7_layHeights_178 rfl ?_
      refine vJ.goto (tgt := 190) dX7_layHeights_180 (by decide) ?_
      obtain ⟨hb8, h⟩ := h
      refine vJ.iast dX7_layHeights_190 sh_186 (Nat.le_of_ble_eq_true rfl) hb8 ?_
      refine vJ.topm (fun m9 em9 => ?_)
      replace h := h m9 em9
      refine vJ.iinc (v := l3 + (1 : Int32)) (ls2 := [(0, .ref 163), (1, .ref a1), (2, .int l2), (3, .int (l3 + (1 : Int32))), (4, .int l4), (5, .int v3)]) dX7_layHeights_191 rfl (congrArg (l3 + ·) ci_1) (Nat.le_of_ble_eq_true rfl) rfl ?_
      refine vJ.goto (tgt := 58) dX7_layHeights_194 (by decide) ?_
      refine vJ.sub [0, 1, 2, 3] rfl ?_
      exact h
  · replace h := h.2 hc13
    refine vJ.iload dX7_layHeights_130 rfl ?_
    refine vJ.aload_n dX7_layHeights_132 rfl rfl ?_
    refine vJ.getR (ci := 7) (k := 27) (j := 185) dX7_layHeights_133 sh_163 (Nat.le_of_ble_eq_true rfl) rfl inX7 (Nat.le_of_ble_eq_true rfl) rfl fl_RX7_74 ?_
    refine vJ.iload dX7_layHeights_136 rfl ?_
    obtain ⟨hb11, h⟩ := h
    refine vJ.iald dX7_layHeights_138 sh_185 (Nat.le_of_ble_eq_true rfl) hb11 ?_
    refine vJ.isub dX7_layHeights_139 ?_
    refine vJ.topi (fun v12 ev12 => ?_)
    replace h := h v12 ev12
    refine vJ.istore (ls2 := [(0, .ref 163), (1, .ref a1), (2, .int l2), (3, .int l3), (4, .int v12), (5, .int l5)]) dX7_layHeights_140 (Nat.le_of_ble_eq_true rfl) rfl ?_
    refine vJ.iinc (v := l5 + (1 : Int32)) (ls2 := [(0, .ref 163), (1, .ref a1), (2, .int l2), (3, .int l3), (4, .int v12), (5, .int (l5 + (1 : Int32)))]) dX7_layHeights_142 rfl (congrArg (l5 + ·) ci_1) (Nat.le_of_ble_eq_true rfl) rfl ?_
    refine vJ.goto (tgt := 117) dX7_layHeights_145 (by decide) ?_
    exact h
