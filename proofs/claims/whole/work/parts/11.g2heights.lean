def J_X2_grow_0  (m : vM) (P : vM → Prop) : Prop := vJ mX2_grow 0 0 197 none 0 [(0, .ref 125)] [] 197 SH m (vPv P)
def J_X2_grow_2 (l1 : Int32) (m : vM) (P : vM → Prop) : Prop := vJ mX2_grow 0 0 197 none 2 [(0, .ref 125), (1, .int l1)] [] 197 SH m (vPv P)
def wp_X2_grow_0  (m : vM) (P : vM → Prop) : Prop :=
  J_X2_grow_2 (0 : Int32) m P
set_option maxRecDepth 20000 in
set_option maxHeartbeats 4000000 in
theorem b_X2_grow_0  {m : vM} {P : vM → Prop}  (h : wp_X2_grow_0  m P) : J_X2_grow_0  m P := by
  show vJ mX2_grow 0 0 197 none 0 [(0, .ref 125)] [] 197 SH m (vPv P)
  unfold wp_X2_grow_0 at h
  refine vJ.iconst dX2_grow_0 ci_0 ?_
  refine vJ.istore_n (ls2 := [(0, .ref 125), (1, .int (0 : Int32))]) dX2_grow_1 rfl (Nat.le_of_ble_eq_true rfl) rfl ?_
  exact h
def EI_X2_grow  (m : vM) (P : vM → Prop) : Prop := Ev mX2_grow 0 0 197 [.ref 125] 197 SH m (vPv P)
theorem f_X2_grow  {m : vM} {P : vM → Prop} (h : J_X2_grow_0  m P) : EI_X2_grow  m P := Ev.of pn_X2_grow (Nat.le_of_ble_eq_true rfl) h
def wp_X2_grow_2 (l1 : Int32) (m : vM) (P : vM → Prop) : Prop :=
  (((16 : Int32) ≤ l1 →
    P m) ∧
  (¬ (16 : Int32) ≤ l1 →
    vp_in l1 16 ∧
    vp_in l1 16 ∧
    vp_in l1 16 ∧
    ∀ m4 : vM, m4 = upI m 126 (Int32.toNatClampNeg l1) ((m.1 126 (Int32.toNatClampNeg l1)) + (m.1 127 (Int32.toNatClampNeg l1))) →
    vp_in l1 16 ∧
    ∀ m6 : vM, m6 = upI m4 127 (Int32.toNatClampNeg l1) (0 : Int32) →
    J_X2_grow_2 (l1 + (1 : Int32)) m6 P))
set_option maxRecDepth 20000 in
set_option maxHeartbeats 4000000 in
theorem b_X2_grow_2 {l1 : Int32} {m : vM} {P : vM → Prop}  (h : wp_X2_grow_2 l1 m P) : J_X2_grow_2 l1 m P := by
  show vJ mX2_grow 0 0 197 none 2 [(0, .ref 125), (1, .int l1)] [] 197 SH m (vPv P)
  unfold wp_X2_grow_2 at h
  refine vJ.iload_n dX2_grow_2 rfl rfl ?_
  refine vJ.aload_n dX2_grow_3 rfl rfl ?_
  refine vJ.getR (ci := 2) (k := 0) (j := 126) dX2_grow_4 sh_125 (Nat.le_of_ble_eq_true rfl) rfl inX2 (Nat.le_of_ble_eq_true rfl) rfl fl_RX2_9 ?_
  refine vJ.alen0 (v := (16 : Int32)) dX2_grow_7 sh_126 (Nat.le_of_ble_eq_true rfl) rfl ?_
  refine vJ.icmp_ge (tgt := 39) dX2_grow_8 (by decide) (fun hc7 => ?_) (fun hc7 => ?_)
  · replace h := h.1 hc7
    exact vJ.vreturn dX2_grow_39 rfl rfl ⟨rfl, rfl, h⟩
  · replace h := h.2 hc7
    refine vJ.aload_n dX2_grow_11 rfl rfl ?_
    refine vJ.getR (ci := 2) (k := 0) (j := 126) dX2_grow_12 sh_125 (Nat.le_of_ble_eq_true rfl) rfl inX2 (Nat.le_of_ble_eq_true rfl) rfl fl_RX2_9 ?_
    refine vJ.iload_n dX2_grow_15 rfl rfl ?_
    refine vJ.dup2 dX2_grow_16 rfl rfl ?_
    obtain ⟨hb1, h⟩ := h
    refine vJ.iald dX2_grow_17 sh_126 (Nat.le_of_ble_eq_true rfl) hb1 ?_
    refine vJ.aload_n dX2_grow_18 rfl rfl ?_
    refine vJ.getR (ci := 2) (k := 2) (j := 127) dX2_grow_19 sh_125 (Nat.le_of_ble_eq_true rfl) rfl inX2 (Nat.le_of_ble_eq_true rfl) rfl fl_RX2_15 ?_
    refine vJ.iload_n dX2_grow_22 rfl rfl ?_
    obtain ⟨hb2, h⟩ := h
    refine vJ.iald dX2_grow_23 sh_127 (Nat.le_of_ble_eq_true rfl) hb2 ?_
    refine vJ.iadd dX2_grow_24 ?_
    obtain ⟨hb3, h⟩ := h
    refine vJ.iast dX2_grow_25 sh_126 (Nat.le_of_ble_eq_true rfl) hb3 ?_
    refine vJ.topm (fun m4 em4 => ?_)
    replace h := h m4 em4
    refine vJ.aload_n dX2_grow_26 rfl rfl ?_
    refine vJ.getR (ci := 2) (k := 2) (j := 127) dX2_grow_27 sh_125 (Nat.le_of_ble_eq_true rfl) rfl inX2 (Nat.le_of_ble_eq_true rfl) rfl fl_RX2_15 ?_
    refine vJ.iload_n dX2_grow_30 rfl rfl ?_
    refine vJ.iconst dX2_grow_31 ci_0 ?_
    obtain ⟨hb5, h⟩ := h
    refine vJ.iast dX2_grow_32 sh_127 (Nat.le_of_ble_eq_true rfl) hb5 ?_
    refine vJ.topm (fun m6 em6 => ?_)
    replace h := h m6 em6
    refine vJ.iinc (v := l1 + (1 : Int32)) (ls2 := [(0, .ref 125), (1, .int (l1 + (1 : Int32)))]) dX2_grow_33 rfl (congrArg (l1 + ·) ci_1) (Nat.le_of_ble_eq_true rfl) rfl ?_
    refine vJ.goto (tgt := 2) dX2_grow_36 (by decide) ?_
    exact h
def J_X2_noteLack_0 (i1 : Nat) (l2 : Int32) (m : vM) (P : vM → Prop) : Prop := vJ mX2_noteLack 1 21 197 none 0 [(0, .ref 125), (1, .ref (cA i1)), (2, .int l2)] [] 197 SH m (vPv P)
def J_X2_noteLack_27 (l3 : Int32) (l4 : Int32) (l5 : Int32) (m : vM) (P : vM → Prop) : Prop := vJ mX2_noteLack 1 21 197 none 27 [(0, .ref 125), (3, .int l3), (4, .int l4), (5, .int l5)] [] 197 SH m (vPv P)
def wp_X2_noteLack_0 (i1 : Nat) (l2 : Int32) (m : vM) (P : vM → Prop) : Prop :=
  ∀ v1 : Int32, v1 = (if (16 : Int32) < ((m.1 (cA i1) 1) + (m.1 (cA i1) 3)) then (16 : Int32) else ((m.1 (cA i1) 1) + (m.1 (cA i1) 3))) →
  ∀ v2 : Int32, v2 = (m.1 (cA i1) 1) →
  J_X2_noteLack_27 v1 l2 v2 m P
set_option maxRecDepth 20000 in
set_option maxHeartbeats 4000000 in
theorem b_X2_noteLack_0 {i1 : Nat} {l2 : Int32} {m : vM} {P : vM → Prop} (hi1 : i1 < 40) (h : wp_X2_noteLack_0 i1 l2 m P) : J_X2_noteLack_0 i1 l2 m P := by
  show vJ mX2_noteLack 1 21 197 none 0 [(0, .ref 125), (1, .ref (cA i1)), (2, .int l2)] [] 197 SH m (vPv P)
  unfold wp_X2_noteLack_0 at h
  refine vJ.aload_n dX2_noteLack_0 rfl rfl ?_
  refine vJ.getI (ci := 0) (k := 1) dX2_noteLack_1 (sh_C hi1) (lt_C hi1) rfl inX0 (Nat.le_of_ble_eq_true rfl) rfl fl_RX2_73 ?_
  refine vJ.aload_n dX2_noteLack_4 rfl rfl ?_
  refine vJ.getI (ci := 0) (k := 3) dX2_noteLack_5 (sh_C hi1) (lt_C hi1) rfl inX0 (Nat.le_of_ble_eq_true rfl) rfl fl_RX2_44 ?_
  refine vJ.iadd dX2_noteLack_8 ?_
  refine vJ.aload_n dX2_noteLack_9 rfl rfl ?_
  refine vJ.getR (ci := 2) (k := 0) (j := 126) dX2_noteLack_10 sh_125 (Nat.le_of_ble_eq_true rfl) rfl inX2 (Nat.le_of_ble_eq_true rfl) rfl fl_RX2_9 ?_
  refine vJ.alen0 (v := (16 : Int32)) dX2_noteLack_13 sh_126 (Nat.le_of_ble_eq_true rfl) rfl ?_
  refine vJ.mmin dX2_noteLack_14 ml_RX2_76 st_Lib_Math_min_name in_java_lang_Math co_Math_min (Nat.le_of_ble_eq_true rfl) (Nat.le_of_ble_eq_true rfl) ?_
  refine vJ.topi (fun v1 ev1 => ?_)
  replace h := h v1 ev1
  refine vJ.istore_n (ls2 := [(0, .ref 125), (1, .ref (cA i1)), (2, .int l2), (3, .int v1)]) dX2_noteLack_17 rfl (Nat.le_of_ble_eq_true rfl) rfl ?_
  refine vJ.iload_n dX2_noteLack_18 rfl rfl ?_
  refine vJ.istore (ls2 := [(0, .ref 125), (1, .ref (cA i1)), (2, .int l2), (3, .int v1), (4, .int l2)]) dX2_noteLack_19 (Nat.le_of_ble_eq_true rfl) rfl ?_
  refine vJ.aload_n dX2_noteLack_21 rfl rfl ?_
  refine vJ.getI (ci := 0) (k := 1) dX2_noteLack_22 (sh_C hi1) (lt_C hi1) rfl inX0 (Nat.le_of_ble_eq_true rfl) rfl fl_RX2_73 ?_
  refine vJ.topi (fun v2 ev2 => ?_)
  replace h := h v2 ev2
  refine vJ.istore (ls2 := [(0, .ref 125), (1, .ref (cA i1)), (2, .int l2), (3, .int v1), (4, .int l2), (5, .int v2)]) dX2_noteLack_25 (Nat.le_of_ble_eq_true rfl) rfl ?_
  refine vJ.sub [0, 3, 4, 5] rfl ?_
  exact h
def EI_X2_noteLack (i1 : Nat) (l2 : Int32) (m : vM) (P : vM → Prop) : Prop := Ev mX2_noteLack 1 21 197 [.ref 125, .ref (cA i1), .int l2] 197 SH m (vPv P)
theorem f_X2_noteLack {i1 : Nat} {l2 : Int32} {m : vM} {P : vM → Prop} (h : J_X2_noteLack_0 i1 l2 m P) : EI_X2_noteLack i1 l2 m P := Ev.of pn_X2_noteLack (Nat.le_of_ble_eq_true rfl) h
def wp_X2_noteLack_27 (l3 : Int32) (l4 : Int32) (l5 : Int32) (m : vM) (P : vM → Prop) : Prop :=
  ((l3 ≤ l5 →
    ((l3 ≤ (0 : Int32) →
      P m) ∧
    (¬ l3 ≤ (0 : Int32) →
      vp_in (l3 - (1 : Int32)) 16 ∧
      vp_in (l3 - (1 : Int32)) 16 ∧
      ∀ m3 : vM, m3 = upI m 127 (Int32.toNatClampNeg (l3 - (1 : Int32))) (if (m.1 127 (Int32.toNatClampNeg (l3 - (1 : Int32)))) < l4 then l4 else (m.1 127 (Int32.toNatClampNeg (l3 - (1 : Int32))))) →
      P m3))) ∧
  (¬ l3 ≤ l5 →
    vp_in l5 16 ∧
    ∀ v6 : Int32, v6 = (l4 - (m.1 126 (Int32.toNatClampNeg l5))) →
    J_X2_noteLack_27 l3 v6 (l5 + (1 : Int32)) m P))
set_option maxRecDepth 20000 in
set_option maxHeartbeats 4000000 in
theorem b_X2_noteLack_27 {l3 : Int32} {l4 : Int32} {l5 : Int32} {m : vM} {P : vM → Prop}  (h : wp_X2_noteLack_27 l3 l4 l5 m P) : J_X2_noteLack_27 l3 l4 l5 m P := by
  show vJ mX2_noteLack 1 21 197 none 27 [(0, .ref 125), (3, .int l3), (4, .int l4), (5, .int l5)] [] 197 SH m (vPv P)
  unfold wp_X2_noteLack_27 at h
  refine vJ.iload dX2_noteLack_27 rfl ?_
  refine vJ.iload_n dX2_noteLack_29 rfl rfl ?_
  refine vJ.icmp_ge (tgt := 51) dX2_noteLack_30 (by decide) (fun hc7 => ?_) (fun hc7 => ?_)
  · replace h := h.1 hc7
    refine vJ.iload_n dX2_noteLack_51 rfl rfl ?_
    refine vJ.if_le (tgt := 76) dX2_noteLack_52 (by decide) (fun hc4 => ?_) (fun hc4 => ?_)
    · replace h := h.1 hc4
      exact vJ.vreturn dX2_noteLack_76 rfl rfl ⟨rfl, rfl, h⟩
    · replace h := h.2 hc4
      refine vJ.aload_n dX2_noteLack_55 rfl rfl ?_
      refine vJ.getR (ci := 2) (k := 2) (j := 127) dX2_noteLack_56 sh_125 (Nat.le_of_ble_eq_true rfl) rfl inX2 (Nat.le_of_ble_eq_true rfl) rfl fl_RX2_15 ?_
      refine vJ.iload_n dX2_noteLack_59 rfl rfl ?_
      refine vJ.iconst dX2_noteLack_60 ci_1 ?_
      refine vJ.isub dX2_noteLack_61 ?_
      refine vJ.aload_n dX2_noteLack_62 rfl rfl ?_
      refine vJ.getR (ci := 2) (k := 2) (j := 127) dX2_noteLack_63 sh_125 (Nat.le_of_ble_eq_true rfl) rfl inX2 (Nat.le_of_ble_eq_true rfl) rfl fl_RX2_15 ?_
      refine vJ.iload_n dX2_noteLack_66 rfl rfl ?_
      refine vJ.iconst dX2_noteLack_67 ci_1 ?_
      refine vJ.isub dX2_noteLack_68 ?_
      obtain ⟨hb1, h⟩ := h
      refine vJ.iald dX2_noteLack_69 sh_127 (Nat.le_of_ble_eq_true rfl) hb1 ?_
      refine vJ.iload dX2_noteLack_70 rfl ?_
      refine vJ.mmax dX2_noteLack_72 ml_RX2_82 st_Lib_Math_max_name in_java_lang_Math co_Math_max (Nat.le_of_ble_eq_true rfl) (Nat.le_of_ble_eq_true rfl) ?_
      obtain ⟨hb2, h⟩ := h
      refine vJ.iast dX2_noteLack_75 sh_127 (Nat.le_of_ble_eq_true rfl) hb2 ?_
      refine vJ.topm (fun m3 em3 => ?_)
      replace h := h m3 em3
      exact vJ.vreturn dX2_noteLack_76 rfl rfl ⟨rfl, rfl, h⟩
  · replace h := h.2 hc7
    refine vJ.iload dX2_noteLack_33 rfl ?_
    refine vJ.aload_n dX2_noteLack_35 rfl rfl ?_
    refine vJ.getR (ci := 2) (k := 0) (j := 126) dX2_noteLack_36 sh_125 (Nat.le_of_ble_eq_true rfl) rfl inX2 (Nat.le_of_ble_eq_true rfl) rfl fl_RX2_9 ?_
    refine vJ.iload dX2_noteLack_39 rfl ?_
    obtain ⟨hb5, h⟩ := h
    refine vJ.iald dX2_noteLack_41 sh_126 (Nat.le_of_ble_eq_true rfl) hb5 ?_
    refine vJ.isub dX2_noteLack_42 ?_
    refine vJ.topi (fun v6 ev6 => ?_)
    replace h := h v6 ev6
    refine vJ.istore (ls2 := [(0, .ref 125), (3, .int l3), (4, .int v6), (5, .int l5)]) dX2_noteLack_43 (Nat.le_of_ble_eq_true rfl) rfl ?_
    refine vJ.iinc (v := l5 + (1 : Int32)) (ls2 := [(0, .ref 125), (3, .int l3), (4, .int v6), (5, .int (l5 + (1 : Int32)))]) dX2_noteLack_45 rfl (congrArg (l5 + ·) ci_1) (Nat.le_of_ble_eq_true rfl) rfl ?_
    refine vJ.goto (tgt := 27) dX2_noteLack_48 (by decide) ?_
    exact h
def J_X2_sum_0  (m : vM) (P : Int32 → vM → Prop) : Prop := vJ mX2_sum 0 0 197 none 0 [(0, .ref 125)] [] 197 SH m (vPi P)
def J_X2_sum_4 (l1 : Int32) (l2 : Int32) (m : vM) (P : Int32 → vM → Prop) : Prop := vJ mX2_sum 0 0 197 none 4 [(0, .ref 125), (1, .int l1), (2, .int l2)] [] 197 SH m (vPi P)
def wp_X2_sum_0  (m : vM) (P : Int32 → vM → Prop) : Prop :=
  J_X2_sum_4 (0 : Int32) (0 : Int32) m P
set_option maxRecDepth 20000 in
set_option maxHeartbeats 4000000 in
theorem b_X2_sum_0  {m : vM} {P : Int32 → vM → Prop}  (h : wp_X2_sum_0  m P) : J_X2_sum_0  m P := by
  show vJ mX2_sum 0 0 197 none 0 [(0, .ref 125)] [] 197 SH m (vPi P)
  unfold wp_X2_sum_0 at h
  refine vJ.iconst dX2_sum_0 ci_0 ?_
  refine vJ.istore_n (ls2 := [(0, .ref 125), (1, .int (0 : Int32))]) dX2_sum_1 rfl (Nat.le_of_ble_eq_true rfl) rfl ?_
  refine vJ.iconst dX2_sum_2 ci_0 ?_
  refine vJ.istore_n (ls2 := [(0, .ref 125), (1, .int (0 : Int32)), (2, .int (0 : Int32))]) dX2_sum_3 rfl (Nat.le_of_ble_eq_true rfl) rfl ?_
  exact h
def EI_X2_sum  (m : vM) (P : Int32 → vM → Prop) : Prop := Ev mX2_sum 0 0 197 [.ref 125] 197 SH m (vPi P)
theorem f_X2_sum  {m : vM} {P : Int32 → vM → Prop} (h : J_X2_sum_0  m P) : EI_X2_sum  m P := Ev.of pn_X2_sum (Nat.le_of_ble_eq_true rfl) h
def wp_X2_sum_4 (l1 : Int32) (l2 : Int32) (m : vM) (P : Int32 → vM → Prop) : Prop :=
  (((m.1 1 0) ≤ l2 →
    P l1 m) ∧
  (¬ (m.1 1 0) ≤ l2 →
    (((16 : Int32) ≤ l2 →
      P l1 m) ∧
    (¬ (16 : Int32) ≤ l2 →
      vp_in l2 16 ∧
      ∀ v2 : Int32, v2 = (l1 + (m.1 126 (Int32.toNatClampNeg l2))) →
      J_X2_sum_4 v2 (l2 + (1 : Int32)) m P))))
set_option maxRecDepth 20000 in
set_option maxHeartbeats 4000000 in
theorem b_X2_sum_4 {l1 : Int32} {l2 : Int32} {m : vM} {P : Int32 → vM → Prop}  (h : wp_X2_sum_4 l1 l2 m P) : J_X2_sum_4 l1 l2 m P := by
  show vJ mX2_sum 0 0 197 none 4 [(0, .ref 125), (1, .int l1), (2, .int l2)] [] 197 SH m (vPi P)
  unfold wp_X2_sum_4 at h
  refine vJ.iload_n dX2_sum_4 rfl rfl ?_
  refine vJ.aload_n dX2_sum_5 rfl rfl ?_
  refine vJ.getR (ci := 2) (k := 1) (j := 1) dX2_sum_6 sh_125 (Nat.le_of_ble_eq_true rfl) rfl inX2 (Nat.le_of_ble_eq_true rfl) rfl fl_RX2_28 ?_
  refine vJ.getI (ci := 1) (k := 0) dX2_sum_9 sh_1 (Nat.le_of_ble_eq_true rfl) rfl inX1 (Nat.le_of_ble_eq_true rfl) rfl fl_RX2_32 ?_
  refine vJ.icmp_ge (tgt := 39) dX2_sum_12 (by decide) (fun hc4 => ?_) (fun hc4 => ?_)
  · replace h := h.1 hc4
    refine vJ.iload_n dX2_sum_39 rfl rfl ?_
    exact vJ.ireturn dX2_sum_40 rfl rfl rfl ⟨rfl, _, rfl, h⟩
  · replace h := h.2 hc4
    refine vJ.iload_n dX2_sum_15 rfl rfl ?_
    refine vJ.aload_n dX2_sum_16 rfl rfl ?_
    refine vJ.getR (ci := 2) (k := 0) (j := 126) dX2_sum_17 sh_125 (Nat.le_of_ble_eq_true rfl) rfl inX2 (Nat.le_of_ble_eq_true rfl) rfl fl_RX2_9 ?_
    refine vJ.alen0 (v := (16 : Int32)) dX2_sum_20 sh_126 (Nat.le_of_ble_eq_true rfl) rfl ?_
    refine vJ.icmp_ge (tgt := 39) dX2_sum_21 (by decide) (fun hc3 => ?_) (fun hc3 => ?_)
    · replace h := h.1 hc3
      refine vJ.iload_n dX2_sum_39 rfl rfl ?_
      exact vJ.ireturn dX2_sum_40 rfl rfl rfl ⟨rfl, _, rfl, h⟩
    · replace h := h.2 hc3
      refine vJ.iload_n dX2_sum_24 rfl rfl ?_
      refine vJ.aload_n dX2_sum_25 rfl rfl ?_
      refine vJ.getR (ci := 2) (k := 0) (j := 126) dX2_sum_26 sh_125 (Nat.le_of_ble_eq_true rfl) rfl inX2 (Nat.le_of_ble_eq_true rfl) rfl fl_RX2_9 ?_
      refine vJ.iload_n dX2_sum_29 rfl rfl ?_
      obtain ⟨hb1, h⟩ := h
      refine vJ.iald dX2_sum_30 sh_126 (Nat.le_of_ble_eq_true rfl) hb1 ?_
      refine vJ.iadd dX2_sum_31 ?_
      refine vJ.topi (fun v2 ev2 => ?_)
      replace h := h v2 ev2
      refine vJ.istore_n (ls2 := [(0, .ref 125), (1, .int v2), (2, .int l2)]) dX2_sum_32 rfl (Nat.le_of_ble_eq_true rfl) rfl ?_
      refine vJ.iinc (v := l2 + (1 : Int32)) (ls2 := [(0, .ref 125), (1, .int v2), (2, .int (l2 + (1 : Int32)))]) dX2_sum_33 rfl (congrArg (l2 + ·) ci_1) (Nat.le_of_ble_eq_true rfl) rfl ?_
      refine vJ.goto (tgt := 4) dX2_sum_36 (by decide) ?_
      exact h
def J_X2_measure_0 (a1 : Nat) (n1 : Nat) (m : vM) (P : Int32 → vM → Prop) : Prop := vJ mX2_measure 2 48 197 none 0 [(0, .ref 125), (1, .ref a1)] [] 197 SH m (vPi P)
def J_X2_measure_20 (a1 : Nat) (n1 : Nat) (l2 : Int32) (l3 : Int32) (m : vM) (P : Int32 → vM → Prop) : Prop := vJ mX2_measure 2 48 197 none 20 [(0, .ref 125), (1, .ref a1), (2, .int l2), (3, .int l3)] [] 197 SH m (vPi P)
def wp_X2_measure_0 (a1 : Nat) (n1 : Nat) (m : vM) (P : Int32 → vM → Prop) : Prop :=
  ∀ m1 : vM, m1 = fillA m 126 16 (1 : Int32) →
  ∀ m2 : vM, m2 = fillA m1 127 16 (0 : Int32) →
  J_X2_measure_20 a1 n1 (1 : Int32) (0 : Int32) m2 P
set_option maxRecDepth 20000 in
set_option maxHeartbeats 4000000 in
theorem b_X2_measure_0 {a1 : Nat} {n1 : Nat} {m : vM} {P : Int32 → vM → Prop} (ha1 : SH a1 = (0, n1, vz)) (hw1 : a1 < 197) (h : wp_X2_measure_0 a1 n1 m P) : J_X2_measure_0 a1 n1 m P := by
  show vJ mX2_measure 2 48 197 none 0 [(0, .ref 125), (1, .ref a1)] [] 197 SH m (vPi P)
  unfold wp_X2_measure_0 at h
  refine vJ.aload_n dX2_measure_0 rfl rfl ?_
  refine vJ.getR (ci := 2) (k := 0) (j := 126) dX2_measure_1 sh_125 (Nat.le_of_ble_eq_true rfl) rfl inX2 (Nat.le_of_ble_eq_true rfl) rfl fl_RX2_9 ?_
  refine vJ.iconst dX2_measure_4 ci_1 ?_
  refine vJ.callS (Yc := mJ7_fill_53178) (frc := 0) (loc := 0) (as := [.ref 126, .int (1 : Int32)]) dX2_measure_5 rfl ml_RX2_48 st_yJ7_fill_53178 co_J7_fill_53178 in_java_util_Arrays pl_J7_fill_53178 (Nat.le_of_ble_eq_true rfl) (Nat.le_of_ble_eq_true rfl) (Nat.le_of_ble_eq_true rfl) ?_
  refine ev_fill (a := 126) (v := (1 : Int32)) sh_126 (Nat.le_of_ble_eq_true rfl) (fun m1 em1 => ?_)
  replace h := h m1 em1
  refine vJ.aload_n dX2_measure_8 rfl rfl ?_
  refine vJ.getR (ci := 2) (k := 2) (j := 127) dX2_measure_9 sh_125 (Nat.le_of_ble_eq_true rfl) rfl inX2 (Nat.le_of_ble_eq_true rfl) rfl fl_RX2_15 ?_
  refine vJ.iconst dX2_measure_12 ci_0 ?_
  refine vJ.callS (Yc := mJ7_fill_53178) (frc := 0) (loc := 0) (as := [.ref 127, .int (0 : Int32)]) dX2_measure_13 rfl ml_RX2_48 st_yJ7_fill_53178 co_J7_fill_53178 in_java_util_Arrays pl_J7_fill_53178 (Nat.le_of_ble_eq_true rfl) (Nat.le_of_ble_eq_true rfl) (Nat.le_of_ble_eq_true rfl) ?_
  refine ev_fill (a := 127) (v := (0 : Int32)) sh_127 (Nat.le_of_ble_eq_true rfl) (fun m2 em2 => ?_)
  replace h := h m2 em2
  refine vJ.iconst dX2_measure_16 ci_1 ?_
  refine vJ.istore_n (ls2 := [(0, .ref 125), (1, .ref a1), (2, .int (1 : Int32))]) dX2_measure_17 rfl (Nat.le_of_ble_eq_true rfl) rfl ?_
  refine vJ.iconst dX2_measure_18 ci_0 ?_
  refine vJ.istore_n (ls2 := [(0, .ref 125), (1, .ref a1), (2, .int (1 : Int32)), (3, .int (0 : Int32))]) dX2_measure_19 rfl (Nat.le_of_ble_eq_true rfl) rfl ?_
  exact h
def EI_X2_measure (a1 : Nat) (n1 : Nat) (m : vM) (P : Int32 → vM → Prop) : Prop := Ev mX2_measure 2 48 197 [.ref 125, .ref a1] 197 SH m (vPi P)
theorem f_X2_measure {a1 : Nat} {n1 : Nat} {m : vM} {P : Int32 → vM → Prop} (h : J_X2_measure_0 a1 n1 m P) : EI_X2_measure a1 n1 m P := Ev.of pn_X2_measure (Nat.le_of_ble_eq_true rfl) h
def wp_X2_measure_20 (a1 : Nat) (n1 : Nat) (l2 : Int32) (l3 : Int32) (m : vM) (P : Int32 → vM → Prop) : Prop :=
  (((m.1 125 4) ≤ l3 →
    EI_X2_grow m (fun m1 =>
      EI_X2_sum m1 (fun r3 m2 =>
        P r3 m2))) ∧
  (¬ (m.1 125 4) ≤ l3 →
    (((40 : Int32) ≤ l3 →
      EI_X2_grow m (fun m4 =>
        EI_X2_sum m4 (fun r6 m5 =>
          P r6 m5))) ∧
    (¬ (40 : Int32) ≤ l3 →
      vp_in l3 40 ∧
      ((m.1 128 (Int32.toNatClampNeg l3) = 0 ∧
        J_X2_measure_20 a1 n1 l2 (l3 + (1 : Int32)) m P) ∨ (∃ i9 : Nat, i9 < 40 ∧ m.1 128 (Int32.toNatClampNeg l3) = nI (cA i9 + 1) ∧
        (((m.1 (cA i9) 3) = l2 →
          EI_X1_spanOf i9 a1 n1 m (fun r12 m11 =>
            wp_X0_linesIn i9 r12 m11 (fun r14 m13 =>
              EI_X2_noteLack i9 r14 m13 (fun m15 =>
                J_X2_measure_20 a1 n1 l2 (l3 + (1 : Int32)) m15 P)))) ∧
        (¬ (m.1 (cA i9) 3) = l2 →
          EI_X2_grow m (fun m16 =>
            ∀ v17 : Int32, v17 = (m16.1 (cA i9) 3) →
            EI_X1_spanOf i9 a1 n1 m16 (fun r19 m18 =>
              wp_X0_linesIn i9 r19 m18 (fun r21 m20 =>
                EI_X2_noteLack i9 r21 m20 (fun m22 =>
                  J_X2_measure_20 a1 n1 v17 (l3 + (1 : Int32)) m22 P))))))))))))
set_option maxRecDepth 20000 in
set_option maxHeartbeats 4000000 in
theorem b_X2_measure_20 {a1 : Nat} {n1 : Nat} {l2 : Int32} {l3 : Int32} {m : vM} {P : Int32 → vM → Prop} (ha1 : SH a1 = (0, n1, vz)) (hw1 : a1 < 197) (h : wp_X2_measure_20 a1 n1 l2 l3 m P) : J_X2_measure_20 a1 n1 l2 l3 m P := by
  show vJ mX2_measure 2 48 197 none 20 [(0, .ref 125), (1, .ref a1), (2, .int l2), (3, .int l3)] [] 197 SH m (vPi P)
  unfold wp_X2_measure_20 at h
  refine vJ.iload_n dX2_measure_20 rfl rfl ?_
  refine vJ.aload_n dX2_measure_21 rfl rfl ?_
  refine vJ.getI (ci := 2) (k := 4) dX2_measure_22 sh_125 (Nat.le_of_ble_eq_true rfl) rfl inX2 (Nat.le_of_ble_eq_true rfl) rfl fl_RX2_24 ?_
  refine vJ.icmp_ge (tgt := 99) dX2_measure_25 (by decide) (fun hc25 => ?_) (fun hc25 => ?_)
  · replace h := h.1 hc25
    refine vJ.aload_n dX2_measure_99 rfl rfl ?_
    refine vJ.callV (ci := 2) (Yc := mX2_grow) (frc := 0) (loc := 0) (as := []) dX2_measure_100 rfl sh_125 (Nat.le_of_ble_eq_true rfl) rfl ml_RX2_54 im_yX2_grow se_yX2_grow co_X2_grow in_TableSetter_Heights pl_X2_grow (Nat.le_of_ble_eq_true rfl) (Nat.le_of_ble_eq_true rfl) (Nat.le_of_ble_eq_true rfl) ?_
    refine Ev.gv h (fun m1 h => ?_)
    refine vJ.aload_n dX2_measure_103 rfl rfl ?_
    refine vJ.callV (ci := 2) (Yc := mX2_sum) (frc := 0) (loc := 0) (as := []) dX2_measure_104 rfl sh_125 (Nat.le_of_ble_eq_true rfl) rfl ml_RX2_69 im_yX2_sum se_yX2_sum co_X2_sum in_TableSetter_Heights pl_X2_sum (Nat.le_of_ble_eq_true rfl) (Nat.le_of_ble_eq_true rfl) (Nat.le_of_ble_eq_true rfl) ?_
    refine Ev.gi h (fun r3 m2 h => ?_)
    exact vJ.ireturn dX2_measure_107 rfl rfl rfl ⟨rfl, _, rfl, h⟩
  · replace h := h.2 hc25
    refine vJ.iload_n dX2_measure_28 rfl rfl ?_
    refine vJ.aload_n dX2_measure_29 rfl rfl ?_
    refine vJ.getR (ci := 2) (k := 3) (j := 128) dX2_measure_30 sh_125 (Nat.le_of_ble_eq_true rfl) rfl inX2 (Nat.le_of_ble_eq_true rfl) rfl fl_RX2_20 ?_
    refine vJ.alen4 (v := (40 : Int32)) dX2_measure_33 sh_128 (Nat.le_of_ble_eq_true rfl) rfl ?_
    refine vJ.icmp_ge (tgt := 99) dX2_measure_34 (by decide) (fun hc24 => ?_) (fun hc24 => ?_)
    · replace h := h.1 hc24
      refine vJ.aload_n dX2_measure_99 rfl rfl ?_
      refine vJ.callV (ci := 2) (Yc := mX2_grow) (frc := 0) (loc := 0) (as := []) dX2_measure_100 rfl sh_125 (Nat.le_of_ble_eq_true rfl) rfl ml_RX2_54 im_yX2_grow se_yX2_grow co_X2_grow in_TableSetter_Heights pl_X2_grow (Nat.le_of_ble_eq_true rfl) (Nat.le_of_ble_eq_true rfl) (Nat.le_of_ble_eq_true rfl) ?_
      refine Ev.gv h (fun m4 h => ?_)
      refine vJ.aload_n dX2_measure_103 rfl rfl ?_
      refine vJ.callV (ci := 2) (Yc := mX2_sum) (frc := 0) (loc := 0) (as := []) dX2_measure_104 rfl sh_125 (Nat.le_of_ble_eq_true rfl) rfl ml_RX2_69 im_yX2_sum se_yX2_sum co_X2_sum in_TableSetter_Heights pl_X2_sum (Nat.le_of_ble_eq_true rfl) (Nat.le_of_ble_eq_true rfl) (Nat.le_of_ble_eq_true rfl) ?_
      refine Ev.gi h (fun r6 m5 h => ?_)
      exact vJ.ireturn dX2_measure_107 rfl rfl rfl ⟨rfl, _, rfl, h⟩
    · replace h := h.2 hc24
      refine vJ.aload_n dX2_measure_37 rfl rfl ?_
      refine vJ.getR (ci := 2) (k := 3) (j := 128) dX2_measure_38 sh_125 (Nat.le_of_ble_eq_true rfl) rfl inX2 (Nat.le_of_ble_eq_true rfl) rfl fl_RX2_20 ?_
      refine vJ.iload_n dX2_measure_41 rfl rfl ?_
      obtain ⟨hb7, h⟩ := h
      rcases h with ⟨hv10, h⟩ | ⟨i9, hi8, hv10, h⟩
      · refine vJ.aaldD0 dX2_measure_42 sh_128 (Nat.le_of_ble_eq_true rfl) hb7 hv10 ?_
        refine vJ.astoreN (ls2 := [(0, .ref 125), (1, .ref a1), (2, .int l2), (3, .int l3), (4, .null)]) dX2_measure_43 (Nat.le_of_ble_eq_true rfl) rfl ?_
        refine vJ.aloadN dX2_measure_45 rfl ?_
        refine vJ.ifnonnullN dX2_measure_47 ?_
        refine vJ.goto (tgt := 93) dX2_measure_50 (by decide) ?_
        refine vJ.iinc (v := l3 + (1 : Int32)) (ls2 := [(0, .ref 125), (1, .ref a1), (2, .int l2), (3, .int (l3 + (1 : Int32))), (4, .null)]) dX2_measure_93 rfl (congrArg (l3 + ·) ci_1) (Nat.le_of_ble_eq_true rfl) rfl ?_
        refine vJ.goto (tgt := 20) dX2_measure_96 (by decide) ?_
        refine vJ.sub [0, 1, 2, 3] rfl ?_
        exact h
      · refine vJ.aaldD1 dX2_measure_42 sh_128 (Nat.le_of_ble_eq_true rfl) hb7 (ord_n hi8 hv10) (ord_s hi8 hv10) ?_
        refine vJ.astore (ls2 := [(0, .ref 125), (1, .ref a1), (2, .int l2), (3, .int l3), (4, .ref (cA i9))]) dX2_measure_43 (Nat.le_of_ble_eq_true rfl) rfl ?_
        refine vJ.aload dX2_measure_45 rfl ?_
        refine vJ.ifnonnull (tgt := 53) dX2_measure_47 (by decide) ?_
        refine vJ.aload dX2_measure_53 rfl ?_
        refine vJ.getI (ci := 0) (k := 3) dX2_measure_55 (sh_C hi8) (lt_C hi8) rfl inX0 (Nat.le_of_ble_eq_true rfl) rfl fl_RX2_44 ?_
        refine vJ.iload_n dX2_measure_58 rfl rfl ?_
        refine vJ.icmp_eq (tgt := 72) dX2_measure_59 (by decide) (fun hc23 => ?_) (fun hc23 => ?_)
        · replace h := h.1 hc23
          refine vJ.aload_n dX2_measure_72 rfl rfl ?_
          refine vJ.aload dX2_measure_73 rfl ?_
          refine vJ.aload dX2_measure_75 rfl ?_
          refine vJ.aload_n dX2_measure_77 rfl rfl ?_
          refine vJ.getR (ci := 2) (k := 1) (j := 1) dX2_measure_78 sh_125 (Nat.le_of_ble_eq_true rfl) rfl inX2 (Nat.le_of_ble_eq_true rfl) rfl fl_RX2_28 ?_
          refine vJ.aload dX2_measure_81 rfl ?_
          refine vJ.aload_n dX2_measure_83 rfl rfl ?_
          refine vJ.callV (ci := 1) (Yc := mX1_spanOf) (frc := 1) (loc := 21) (as := [.ref (cA i9), .ref a1]) dX2_measure_84 rfl sh_1 (Nat.le_of_ble_eq_true rfl) rfl ml_RX2_57 im_yX1_spanOf se_yX1_spanOf co_X1_spanOf in_TableSetter_Grid pl_X1_spanOf (Nat.le_of_ble_eq_true rfl) (Nat.le_of_ble_eq_true rfl) (Nat.le_of_ble_eq_true rfl) ?_
          refine Ev.gi h (fun r12 m11 h => ?_)
          refine vJ.callV (ci := 0) (Yc := mX0_linesIn) (frc := 1) (loc := 26) (as := [.int r12]) dX2_measure_87 rfl (sh_C hi8) (lt_C hi8) rfl ml_RX2_61 im_yX0_linesIn se_yX0_linesIn co_X0_linesIn in_TableSetter_Cell pl_X0_linesIn (Nat.le_of_ble_eq_true rfl) (Nat.le_of_ble_eq_true rfl) (Nat.le_of_ble_eq_true rfl) ?_
          refine Ev.gi (e_X0_linesIn hi8 h) (fun r14 m13 h => ?_)
          refine vJ.callV (ci := 2) (Yc := mX2_noteLack) (frc := 1) (loc := 21) (as := [.ref (cA i9), .int r14]) dX2_measure_90 rfl sh_125 (Nat.le_of_ble_eq_true rfl) rfl ml_RX2_65 im_yX2_noteLack se_yX2_noteLack co_X2_noteLack in_TableSetter_Heights pl_X2_noteLack (Nat.le_of_ble_eq_true rfl) (Nat.le_of_ble_eq_true rfl) (Nat.le_of_ble_eq_true rfl) ?_
          refine Ev.gv h (fun m15 h => ?_)
          refine vJ.iinc (v := l3 + (1 : Int32)) (ls2 := [(0, .ref 125), (1, .ref a1), (2, .int l2), (3, .int (l3 + (1 : Int32))), (4, .ref (cA i9))]) dX2_measure_93 rfl (congrArg (l3 + ·) ci_1) (Nat.le_of_ble_eq_true rfl) rfl ?_
          refine vJ.goto (tgt := 20) dX2_measure_96 (by decide) ?_
          refine vJ.sub [0, 1, 2, 3] rfl ?_
          exact h
        · replace h := h.2 hc23
          refine vJ.aload_n dX2_measure_62 rfl rfl ?_
          refine vJ.callV (ci := 2) (Yc := mX2_grow) (frc := 0) (loc := 0) (as := []) dX2_measure_63 rfl sh_125 (Nat.le_of_ble_eq_true rfl) rfl ml_RX2_54 im_yX2_grow se_yX2_grow co_X2_grow in_TableSetter_Heights pl_X2_grow (Nat.le_of_ble_eq_true rfl) (Nat.le_of_ble_eq_true rfl) (Nat.le_of_ble_eq_true rfl) ?_
          refine Ev.gv h (fun m16 h => ?_)
          refine vJ.aload dX2_measure_66 rfl ?_
          refine vJ.getI (ci := 0) (k := 3) dX2_measure_68 (sh_C hi8) (lt_C hi8) rfl inX0 (Nat.le_of_ble_eq_true rfl) rfl fl_RX2_44 ?_
          refine vJ.topi (fun v17 ev17 => ?_)
          replace h := h v17 ev17
          refine vJ.istore_n (ls2 := [(0, .ref 125), (1, .ref a1), (2, .int v17), (3, .int l3), (4, .ref (cA i9))]) dX2_measure_71 rfl (Nat.le_of_ble_eq_true rfl) rfl ?_
          refine vJ.aload_n dX2_measure_72 rfl rfl ?_
          refine vJ.aload dX2_measure_73 rfl ?_
          refine vJ.aload dX2_measure_75 rfl ?_
          refine vJ.aload_n dX2_measure_77 rfl rfl ?_
          refine vJ.getR (ci := 2) (k := 1) (j := 1) dX2_measure_78 sh_125 (Nat.le_of_ble_eq_true rfl) rfl inX2 (Nat.le_of_ble_eq_true rfl) rfl fl_RX2_28 ?_
          refine vJ.aload dX2_measure_81 rfl ?_
          refine vJ.aload_n dX2_measure_83 rfl rfl ?_
          refine vJ.callV (ci := 1) (Yc := mX1_spanOf) (frc := 1) (loc := 21) (as := [.ref (cA i9), .ref a1]) dX2_measure_84 rfl sh_1 (Nat.le_of_ble_eq_true rfl) rfl ml_RX2_57 im_yX1_spanOf se_yX1_spanOf co_X1_spanOf in_TableSetter_Grid pl_X1_spanOf (Nat.le_of_ble_eq_true rfl) (Nat.le_of_ble_eq_true rfl) (Nat.le_of_ble_eq_true rfl) ?_
          refine Ev.gi h (fun r19 m18 h => ?_)
          refine vJ.callV (ci := 0) (Yc := mX0_linesIn) (frc := 1) (loc := 26) (as := [.int r19]) dX2_measure_87 rfl (sh_C hi8) (lt_C hi8) rfl ml_RX2_61 im_yX0_linesIn se_yX0_linesIn co_X0_linesIn in_TableSetter_Cell pl_X0_linesIn (Nat.le_of_ble_eq_true rfl) (Nat.le_of_ble_eq_true rfl) (Nat.le_of_ble_eq_true rfl) ?_
          refine Ev.gi (e_X0_linesIn hi8 h) (fun r21 m20 h => ?_)
          refine vJ.callV (ci := 2) (Yc := mX2_noteLack) (frc := 1) (loc := 21) (as := [.ref (cA i9), .int r21]) dX2_measure_90 rfl sh_125 (Nat.le_of_ble_eq_true rfl) rfl ml_RX2_65 im_yX2_noteLack se_yX2_noteLack co_X2_noteLack in_TableSetter_Heights pl_X2_noteLack (Nat.le_of_ble_eq_true rfl) (Nat.le_of_ble_eq_true rfl) (Nat.le_of_ble_eq_true rfl) ?_
          refine Ev.gv h (fun m22 h => ?_)
          refine vJ.iinc (v := l3 + (1 : Int32)) (ls2 := [(0, .ref 125), (1, .ref a1), (2, .int v17), (3, .int (l3 + (1 : Int32))), (4, .ref (cA i9))]) dX2_measure_93 rfl (congrArg (l3 + ·) ci_1) (Nat.le_of_ble_eq_true rfl) rfl ?_
          refine vJ.goto (tgt := 20) dX2_measure_96 (by decide) ?_
          refine vJ.sub [0, 1, 2, 3] rfl ?_
          exact h
def J_X2_sortCells_0  (m : vM) (P : vM → Prop) : Prop := vJ mX2_sortCells 2 43 197 none 0 [(0, .ref 125)] [] 197 SH m (vPv P)
def J_X2_sortCells_7 (l1 : Int32) (m : vM) (P : vM → Prop) : Prop := vJ mX2_sortCells 2 43 197 none 7 [(0, .ref 125), (1, .int l1)] [] 197 SH m (vPv P)
def wp_X2_sortCells_0  (m : vM) (P : vM → Prop) : Prop :=
  ∀ m1 : vM, m1 = upI m 125 4 (0 : Int32) →
  J_X2_sortCells_7 (1 : Int32) m1 P
set_option maxRecDepth 20000 in
set_option maxHeartbeats 4000000 in
theorem b_X2_sortCells_0  {m : vM} {P : vM → Prop}  (h : wp_X2_sortCells_0  m P) : J_X2_sortCells_0  m P := by
  show vJ mX2_sortCells 2 43 197 none 0 [(0, .ref 125)] [] 197 SH m (vPv P)
  unfold wp_X2_sortCells_0 at h
  refine vJ.aload_n dX2_sortCells_0 rfl rfl ?_
  refine vJ.iconst dX2_sortCells_1 ci_0 ?_
  refine vJ.putI (ci := 2) (k := 4) dX2_sortCells_2 sh_125 (Nat.le_of_ble_eq_true rfl) rfl inX2 tyX2 tyX2_ok nmX2 (Nat.le_of_ble_eq_true rfl) rfl rfl fl_RX2_24 rfl rfl ?_
  refine vJ.topm (fun m1 em1 => ?_)
  replace h := h m1 em1
  refine vJ.iconst dX2_sortCells_5 ci_1 ?_
  refine vJ.istore_n (ls2 := [(0, .ref 125), (1, .int (1 : Int32))]) dX2_sortCells_6 rfl (Nat.le_of_ble_eq_true rfl) rfl ?_
  exact h
def EI_X2_sortCells  (m : vM) (P : vM → Prop) : Prop := Ev mX2_sortCells 2 43 197 [.ref 125] 197 SH m (vPv P)
theorem f_X2_sortCells  {m : vM} {P : vM → Prop} (h : J_X2_sortCells_0  m P) : EI_X2_sortCells  m P := Ev.of pn_X2_sortCells (Nat.le_of_ble_eq_true rfl) h
def J_X2_sortCells_20 (l1 : Int32) (l2 : Int32) (m : vM) (P : vM → Prop) : Prop := vJ mX2_sortCells 2 43 197 none 20 [(0, .ref 125), (1, .int l1), (2, .int l2)] [] 197 SH m (vPv P)
def wp_X2_sortCells_7 (l1 : Int32) (m : vM) (P : vM → Prop) : Prop :=
  (((m.1 1 0) < l1 →
    P m) ∧
  (¬ (m.1 1 0) < l1 →
    J_X2_sortCells_20 l1 (0 : Int32) m P))
set_option maxRecDepth 20000 in
set_option maxHeartbeats 4000000 in
theorem b_X2_sortCells_7 {l1 : Int32} {m : vM} {P : vM → Prop}  (h : wp_X2_sortCells_7 l1 m P) : J_X2_sortCells_7 l1 m P := by
  show vJ mX2_sortCells 2 43 197 none 7 [(0, .ref 125), (1, .int l1)] [] 197 SH m (vPv P)
  unfold wp_X2_sortCells_7 at h
  refine vJ.iload_n dX2_sortCells_7 rfl rfl ?_
  refine vJ.aload_n dX2_sortCells_8 rfl rfl ?_
  refine vJ.getR (ci := 2) (k := 1) (j := 1) dX2_sortCells_9 sh_125 (Nat.le_of_ble_eq_true rfl) rfl inX2 (Nat.le_of_ble_eq_true rfl) rfl fl_RX2_28 ?_
  refine vJ.getI (ci := 1) (k := 0) dX2_sortCells_12 sh_1 (Nat.le_of_ble_eq_true rfl) rfl inX1 (Nat.le_of_ble_eq_true rfl) rfl fl_RX2_32 ?_
  refine vJ.icmp_gt (tgt := 103) dX2_sortCells_15 (by decide) (fun hc1 => ?_) (fun hc1 => ?_)
  · replace h := h.1 hc1
    exact vJ.vreturn dX2_sortCells_103 rfl rfl ⟨rfl, rfl, h⟩
  · replace h := h.2 hc1
    refine vJ.iconst dX2_sortCells_18 ci_0 ?_
    refine vJ.istore_n (ls2 := [(0, .ref 125), (1, .int l1), (2, .int (0 : Int32))]) dX2_sortCells_19 rfl (Nat.le_of_ble_eq_true rfl) rfl ?_
    exact h
def wp_X2_sortCells_20 (l1 : Int32) (l2 : Int32) (m : vM) (P : vM → Prop) : Prop :=
  (((m.1 1 3) ≤ l2 →
    J_X2_sortCells_7 (l1 + (1 : Int32)) m P) ∧
  (¬ (m.1 1 3) ≤ l2 →
    wp_X1_present l2 m (fun o10 m1 =>
      ((o10 = none →
        J_X2_sortCells_20 l1 (l2 + (1 : Int32)) m1 P) ∧
      (∀ i2 : Nat, i2 < 40 → o10 = some i2 →
        (((m1.1 (cA i2) 3) = l1 →
          (((m1.1 (cA i2) 7) ≤ (0 : Int32) →
            J_X2_sortCells_20 l1 (l2 + (1 : Int32)) m1 P) ∧
          (¬ (m1.1 (cA i2) 7) ≤ (0 : Int32) →
            (((40 : Int32) ≤ (m1.1 125 4) →
              J_X2_sortCells_20 l1 (l2 + (1 : Int32)) m1 P) ∧
            (¬ (40 : Int32) ≤ (m1.1 125 4) →
              vp_in (m1.1 125 4) 40 ∧
              ∀ m5 : vM, m5 = upI m1 128 (Int32.toNatClampNeg (m1.1 125 4)) (nI (cA i2 + 1)) →
              ∀ m6 : vM, m6 = upI m5 125 4 ((m5.1 125 4) + (1 : Int32)) →
              J_X2_sortCells_20 l1 (l2 + (1 : Int32)) m6 P))))) ∧
        (¬ (m1.1 (cA i2) 3) = l1 →
          J_X2_sortCells_20 l1 (l2 + (1 : Int32)) m1 P)))))))
set_option maxRecDepth 20000 in
set_option maxHeartbeats 4000000 in
theorem b_X2_sortCells_20 {l1 : Int32} {l2 : Int32} {m : vM} {P : vM → Prop}  (h : wp_X2_sortCells_20 l1 l2 m P) : J_X2_sortCells_20 l1 l2 m P := by
  show vJ mX2_sortCells 2 43 197 none 20 [(0, .ref 125), (1, .int l1), (2, .int l2)] [] 197 SH m (vPv P)
  unfold wp_X2_sortCells_20 at h
  refine vJ.iload_n dX2_sortCells_20 rfl rfl ?_
  refine vJ.aload_n dX2_sortCells_21 rfl rfl ?_
  refine vJ.getR (ci := 2) (k := 1) (j := 1) dX2_sortCells_22 sh_125 (Nat.le_of_ble_eq_true rfl) rfl inX2 (Nat.le_of_ble_eq_true rfl) rfl fl_RX2_28 ?_
  refine vJ.getI (ci := 1) (k := 3) dX2_sortCells_25 sh_1 (Nat.le_of_ble_eq_true rfl) rfl inX1 (Nat.le_of_ble_eq_true rfl) rfl fl_RX2_37 ?_
  refine vJ.icmp_ge (tgt := 97) dX2_sortCells_28 (by decide) (fun hc11 => ?_) (fun hc11 => ?_)
  · replace h := h.1 hc11
    refine vJ.iinc (v := l1 + (1 : Int32)) (ls2 := [(0, .ref 125), (1, .int (l1 + (1 : Int32))), (2, .int l2)]) dX2_sortCells_97 rfl (congrArg (l1 + ·) ci_1) (Nat.le_of_ble_eq_true rfl) rfl ?_
    refine vJ.goto (tgt := 7) dX2_sortCells_100 (by decide) ?_
    refine vJ.sub [0, 1] rfl ?_
    exact h
  · replace h := h.2 hc11
    refine vJ.aload_n dX2_sortCells_31 rfl rfl ?_
    refine vJ.getR (ci := 2) (k := 1) (j := 1) dX2_sortCells_32 sh_125 (Nat.le_of_ble_eq_true rfl) rfl inX2 (Nat.le_of_ble_eq_true rfl) rfl fl_RX2_28 ?_
    refine vJ.iload_n dX2_sortCells_35 rfl rfl ?_
    refine vJ.callV (ci := 1) (Yc := mX1_present) (frc := 1) (loc := 21) (as := [.int l2]) dX2_sortCells_36 rfl sh_1 (Nat.le_of_ble_eq_true rfl) rfl ml_RX2_40 im_yX1_present se_yX1_present co_X1_present in_TableSetter_Grid pl_X1_present (Nat.le_of_ble_eq_true rfl) (Nat.le_of_ble_eq_true rfl) (Nat.le_of_ble_eq_true rfl) ?_
    refine Ev.gc (e_X1_present  h) (fun m1 h => ?_) (fun i2 m1 hi3 h => ?_)
    · replace h := h.1 rfl
      refine vJ.astore_nN (ls2 := [(0, .ref 125), (1, .int l1), (2, .int l2), (3, .null)]) dX2_sortCells_39 rfl (Nat.le_of_ble_eq_true rfl) rfl ?_
      refine vJ.aload_nN dX2_sortCells_40 rfl rfl ?_
      refine vJ.ifnullN (tgt := 91) dX2_sortCells_41 (by decide) ?_
      refine vJ.iinc (v := l2 + (1 : Int32)) (ls2 := [(0, .ref 125), (1, .int l1), (2, .int (l2 + (1 : Int32))), (3, .null)]) dX2_sortCells_91 rfl (congrArg (l2 + ·) ci_1) (Nat.le_of_ble_eq_true rfl) rfl ?_
      refine vJ.goto (tgt := 20) dX2_sortCells_94 (by decide) ?_
      refine vJ.sub [0, 1, 2] rfl ?_
      exact h
    · replace h := h.2 i2 hi3 rfl
      refine vJ.astore_n (ls2 := [(0, .ref 125), (1, .int l1), (2, .int l2), (3, .ref (cA i2))]) dX2_sortCells_39 rfl (Nat.le_of_ble_eq_true rfl) rfl ?_
      refine vJ.aload_n dX2_sortCells_40 rfl rfl ?_
      refine vJ.ifnull dX2_sortCells_41 ?_
      refine vJ.aload_n dX2_sortCells_44 rfl rfl ?_
      refine vJ.getI (ci := 0) (k := 3) dX2_sortCells_45 (sh_C hi3) (lt_C hi3) rfl inX0 (Nat.le_of_ble_eq_true rfl) rfl fl_RX2_44 ?_
      refine vJ.iload_n dX2_sortCells_48 rfl rfl ?_
      refine vJ.icmp_ne (tgt := 91) dX2_sortCells_49 (by decide) (fun hc9 => ?_) (fun hc9 => ?_)
      · replace h := h.2 hc9
        refine vJ.iinc (v := l2 + (1 : Int32)) (ls2 := [(0, .ref 125), (1, .int l1), (2, .int (l2 + (1 : Int32))), (3, .ref (cA i2))]) dX2_sortCells_91 rfl (congrArg (l2 + ·) ci_1) (Nat.le_of_ble_eq_true rfl) rfl ?_
        refine vJ.goto (tgt := 20) dX2_sortCells_94 (by decide) ?_
        refine vJ.sub [0, 1, 2] rfl ?_
        exact h
      · replace h := h.1 hc9
        refine vJ.aload_n dX2_sortCells_52 rfl rfl ?_
        refine vJ.getI (ci := 0) (k := 7) dX2_sortCells_53 (sh_C hi3) (lt_C hi3) rfl inX0 (Nat.le_of_ble_eq_true rfl) rfl fl_RX2_45 ?_
        refine vJ.if_le (tgt := 91) dX2_sortCells_56 (by decide) (fun hc8 => ?_) (fun hc8 => ?_)
        · replace h := h.1 hc8
          refine vJ.iinc (v := l2 + (1 : Int32)) (ls2 := [(0, .ref 125), (1, .int l1), (2, .int (l2 + (1 : Int32))), (3, .ref (cA i2))]) dX2_sortCells_91 rfl (congrArg (l2 + ·) ci_1) (Nat.le_of_ble_eq_true rfl) rfl ?_
          refine vJ.goto (tgt := 20) dX2_sortCells_94 (by decide) ?_
          refine vJ.sub [0, 1, 2] rfl ?_
          exact h
        · replace h := h.2 hc8
          refine vJ.aload_n dX2_sortCells_59 rfl rfl ?_
          refine vJ.getI (ci := 2) (k := 4) dX2_sortCells_60 sh_125 (Nat.le_of_ble_eq_true rfl) rfl inX2 (Nat.le_of_ble_eq_true rfl) rfl fl_RX2_24 ?_
          refine vJ.aload_n dX2_sortCells_63 rfl rfl ?_
          refine vJ.getR (ci := 2) (k := 3) (j := 128) dX2_sortCells_64 sh_125 (Nat.le_of_ble_eq_true rfl) rfl inX2 (Nat.le_of_ble_eq_true rfl) rfl fl_RX2_20 ?_
          refine vJ.alen4 (v := (40 : Int32)) dX2_sortCells_67 sh_128 (Nat.le_of_ble_eq_true rfl) rfl ?_
          refine vJ.icmp_ge (tgt := 91) dX2_sortCells_68 (by decide) (fun hc7 => ?_) (fun hc7 => ?_)
          · replace h := h.1 hc7
            refine vJ.iinc (v := l2 + (1 : Int32)) (ls2 := [(0, .ref 125), (1, .int l1), (2, .int (l2 + (1 : Int32))), (3, .ref (cA i2))]) dX2_sortCells_91 rfl (congrArg (l2 + ·) ci_1) (Nat.le_of_ble_eq_true rfl) rfl ?_
            refine vJ.goto (tgt := 20) dX2_sortCells_94 (by decide) ?_
            refine vJ.sub [0, 1, 2] rfl ?_
            exact h
          · replace h := h.2 hc7
            refine vJ.aload_n dX2_sortCells_71 rfl rfl ?_
            refine vJ.getR (ci := 2) (k := 3) (j := 128) dX2_sortCells_72 sh_125 (Nat.le_of_ble_eq_true rfl) rfl inX2 (Nat.le_of_ble_eq_true rfl) rfl fl_RX2_20 ?_
            refine vJ.aload_n dX2_sortCells_75 rfl rfl ?_
            refine vJ.getI (ci := 2) (k := 4) dX2_sortCells_76 sh_125 (Nat.le_of_ble_eq_true rfl) rfl inX2 (Nat.le_of_ble_eq_true rfl) rfl fl_RX2_24 ?_
            refine vJ.aload_n dX2_sortCells_79 rfl rfl ?_
            obtain ⟨hb4, h⟩ := h
            refine vJ.aastD dX2_sortCells_80 sh_128 (Nat.le_of_ble_eq_true rfl) (lt_C hi3) (Nat.lt_trans (lt_C hi3) (by decide)) (sh_C hi3) hb4 ?_
            refine vJ.topm (fun m5 em5 => ?_)
            replace h := h m5 em5
            refine vJ.aload_n dX2_sortCells_81 rfl rfl ?_
            refine vJ.dup dX2_sortCells_82 rfl ?_
            refine vJ.getI (ci := 2) (k := 4) dX2_sortCells_83 sh_125 (Nat.le_of_ble_eq_true rfl) rfl inX2 (Nat.le_of_ble_eq_true rfl) rfl fl_RX2_24 ?_
            refine vJ.iconst dX2_sortCells_86 ci_1 ?_
            refine vJ.iadd dX2_sortCells_87 ?_
            refine vJ.putI (ci := 2) (k := 4) dX2_sortCells_88 sh_125 (Nat.le_of_ble_eq_true rfl) rfl inX2 tyX2 tyX2_ok nmX2 (Nat.le_of_ble_eq_true rfl) rfl rfl fl_RX2_24 rfl rfl ?_
            refine vJ.topm (fun m6 em6 => ?_)
            replace h := h m6 em6
            refine vJ.iinc (v := l2 + (1 : Int32)) (ls2 := [(0, .ref 125), (1, .int l1), (2, .int (l2 + (1 : Int32))), (3, .ref (cA i2))]) dX2_sortCells_91 rfl (congrArg (l2 + ·) ci_1) (Nat.le_of_ble_eq_true rfl) rfl ?_
            refine vJ.goto (tgt := 20) dX2_sortCells_94 (by decide) ?_
            refine vJ.sub [0, 1, 2] rfl ?_
            exact h
