def J_X7_heightBy_0 (a1 : Nat) (n1 : Nat) (m : vM) (P : Int32 → vM → Prop) : Prop := vJ mX7_heightBy 2 53 197 none 0 [(0, .ref 163), (1, .ref a1)] [] 197 SH m (vPi P)
def J_X7_heightBy_9 (l2 : Int32) (l3 : Int32) (m : vM) (P : Int32 → vM → Prop) : Prop := vJ mX7_heightBy 2 53 197 none 9 [(0, .ref 163), (2, .int l2), (3, .int l3)] [] 197 SH m (vPi P)
def wp_X7_heightBy_0 (a1 : Nat) (n1 : Nat) (m : vM) (P : Int32 → vM → Prop) : Prop :=
  EI_X7_layHeights a1 n1 m (fun m1 =>
    J_X7_heightBy_9 (0 : Int32) (0 : Int32) m1 P)
set_option maxRecDepth 20000 in
set_option maxHeartbeats 4000000 in
theorem b_X7_heightBy_0 {a1 : Nat} {n1 : Nat} {m : vM} {P : Int32 → vM → Prop} (ha1 : SH a1 = (0, n1, vz)) (hw1 : a1 < 197) (h : wp_X7_heightBy_0 a1 n1 m P) : J_X7_heightBy_0 a1 n1 m P := by
  show vJ mX7_heightBy 2 53 197 none 0 [(0, .ref 163), (1, .ref a1)] [] 197 SH m (vPi P)
  unfold wp_X7_heightBy_0 at h
  refine vJ.aload_n dX7_heightBy_0 rfl rfl ?_
  refine vJ.aload_n dX7_heightBy_1 rfl rfl ?_
  refine vJ.callV (ci := 7) (Yc := mX7_layHeights) (frc := 1) (loc := 28) (as := [.ref a1]) dX7_heightBy_2 rfl sh_163 (Nat.le_of_ble_eq_true rfl) rfl ml_RX7_202 im_yX7_layHeights se_yX7_layHeights co_X7_layHeights in_TableSetterModel pl_X7_layHeights (Nat.le_of_ble_eq_true rfl) (Nat.le_of_ble_eq_true rfl) (Nat.le_of_ble_eq_true rfl) ?_
  refine Ev.gv h (fun m1 h => ?_)
  refine vJ.iconst dX7_heightBy_5 ci_0 ?_
  refine vJ.istore_n (ls2 := [(0, .ref 163), (1, .ref a1), (2, .int (0 : Int32))]) dX7_heightBy_6 rfl (Nat.le_of_ble_eq_true rfl) rfl ?_
  refine vJ.iconst dX7_heightBy_7 ci_0 ?_
  refine vJ.istore_n (ls2 := [(0, .ref 163), (1, .ref a1), (2, .int (0 : Int32)), (3, .int (0 : Int32))]) dX7_heightBy_8 rfl (Nat.le_of_ble_eq_true rfl) rfl ?_
  refine vJ.sub [0, 2, 3] rfl ?_
  exact h
def EI_X7_heightBy (a1 : Nat) (n1 : Nat) (m : vM) (P : Int32 → vM → Prop) : Prop := Ev mX7_heightBy 2 53 197 [.ref 163, .ref a1] 197 SH m (vPi P)
theorem f_X7_heightBy {a1 : Nat} {n1 : Nat} {m : vM} {P : Int32 → vM → Prop} (h : J_X7_heightBy_0 a1 n1 m P) : EI_X7_heightBy a1 n1 m P := Ev.of pn_X7_heightBy (Nat.le_of_ble_eq_true rfl) h
def wp_X7_heightBy_9 (l2 : Int32) (l3 : Int32) (m : vM) (P : Int32 → vM → Prop) : Prop :=
  (((m.1 163 2) ≤ l3 →
    P l2 m) ∧
  (¬ (m.1 163 2) ≤ l3 →
    vp_in l3 16 ∧
    ∀ v2 : Int32, v2 = (l2 + (m.1 185 (Int32.toNatClampNeg l3))) →
    J_X7_heightBy_9 v2 (l3 + (1 : Int32)) m P))
set_option maxRecDepth 20000 in
set_option maxHeartbeats 4000000 in
theorem b_X7_heightBy_9 {l2 : Int32} {l3 : Int32} {m : vM} {P : Int32 → vM → Prop}  (h : wp_X7_heightBy_9 l2 l3 m P) : J_X7_heightBy_9 l2 l3 m P := by
  show vJ mX7_heightBy 2 53 197 none 9 [(0, .ref 163), (2, .int l2), (3, .int l3)] [] 197 SH m (vPi P)
  unfold wp_X7_heightBy_9 at h
  refine vJ.iload_n dX7_heightBy_9 rfl rfl ?_
  refine vJ.aload_n dX7_heightBy_10 rfl rfl ?_
  refine vJ.getI (ci := 7) (k := 2) dX7_heightBy_11 sh_163 (Nat.le_of_ble_eq_true rfl) rfl inX7 (Nat.le_of_ble_eq_true rfl) rfl fl_RX7_123 ?_
  refine vJ.icmp_ge (tgt := 32) dX7_heightBy_14 (by decide) (fun hc3 => ?_) (fun hc3 => ?_)
  · replace h := h.1 hc3
    refine vJ.iload_n dX7_heightBy_32 rfl rfl ?_
    exact vJ.ireturn dX7_heightBy_33 rfl rfl rfl ⟨rfl, _, rfl, h⟩
  · replace h := h.2 hc3
    refine vJ.iload_n dX7_heightBy_17 rfl rfl ?_
    refine vJ.aload_n dX7_heightBy_18 rfl rfl ?_
    refine vJ.getR (ci := 7) (k := 27) (j := 185) dX7_heightBy_19 sh_163 (Nat.le_of_ble_eq_true rfl) rfl inX7 (Nat.le_of_ble_eq_true rfl) rfl fl_RX7_74 ?_
    refine vJ.iload_n dX7_heightBy_22 rfl rfl ?_
    obtain ⟨hb1, h⟩ := h
    refine vJ.iald dX7_heightBy_23 sh_185 (Nat.le_of_ble_eq_true rfl) hb1 ?_
    refine vJ.iadd dX7_heightBy_24 ?_
    refine vJ.topi (fun v2 ev2 => ?_)
    replace h := h v2 ev2
    refine vJ.istore_n (ls2 := [(0, .ref 163), (2, .int v2), (3, .int l3)]) dX7_heightBy_25 rfl (Nat.le_of_ble_eq_true rfl) rfl ?_
    refine vJ.iinc (v := l3 + (1 : Int32)) (ls2 := [(0, .ref 163), (2, .int v2), (3, .int (l3 + (1 : Int32)))]) dX7_heightBy_26 rfl (congrArg (l3 + ·) ci_1) (Nat.le_of_ble_eq_true rfl) rfl ?_
    refine vJ.goto (tgt := 9) dX7_heightBy_29 (by decide) ?_
    exact h
def J_X7_set_0 (l1 : Int32) (m : vM) (P : Int32 → vM → Prop) : Prop := vJ mX7_set 4 96 197 none 0 [(0, .ref 163), (1, .int l1)] [] 197 SH m (vPi P)
def J_X7_set_93 (l2 : Int32) (l3 : Int32) (l4 : Int32) (l5 : Int32) (m : vM) (P : Int32 → vM → Prop) : Prop := vJ mX7_set 4 96 197 none 93 [(0, .ref 163), (2, .int l2), (3, .int l3), (4, .int l4), (5, .int l5)] [] 197 SH m (vPi P)
def wp_X7_set_0 (l1 : Int32) (m : vM) (P : Int32 → vM → Prop) : Prop :=
  wp_X7_in l1 (0 : Int32) (400 : Int32) m (fun r2 m1 =>
    ((r2 = (0 : Int32) →
      P (-1 : Int32) m1) ∧
    (¬ r2 = (0 : Int32) →
      EI_X7_layBoth m1 (fun m3 =>
        ∀ v4 : Int32, v4 = (l1 - (((m3.1 163 3) - (1 : Int32)) * (m3.1 163 4))) →
        EI_X7_sumOf 182 6 m3 (fun r6 m5 =>
          ((r6 ≤ v4 →
            EI_X7_sumOf 183 6 m5 (fun r8 m7 =>
              ((v4 ≤ r8 →
                EI_X7_sumOf 183 6 m7 (fun r10 m9 =>
                  EI_X7_sumOf 182 6 m9 (fun r12 m11 =>
                    ((r10 = r12 →
                      J_X7_set_93 v4 (0 : Int32) (1 : Int32) (0 : Int32) m11 P) ∧
                    (¬ r10 = r12 →
                      J_X7_set_93 v4 (0 : Int32) (0 : Int32) (0 : Int32) m11 P))))) ∧
              (¬ v4 ≤ r8 →
                EI_X7_sumOf 183 6 m7 (fun r15 m14 =>
                  EI_X7_sumOf 182 6 m14 (fun r17 m16 =>
                    ((r15 = r17 →
                      J_X7_set_93 v4 (1 : Int32) (1 : Int32) (0 : Int32) m16 P) ∧
                    (¬ r15 = r17 →
                      J_X7_set_93 v4 (1 : Int32) (0 : Int32) (0 : Int32) m16 P)))))))) ∧
          (¬ r6 ≤ v4 →
            P (-4 : Int32) m5)))))))
set_option maxRecDepth 20000 in
set_option maxHeartbeats 4000000 in
theorem b_X7_set_0 {l1 : Int32} {m : vM} {P : Int32 → vM → Prop}  (h : wp_X7_set_0 l1 m P) : J_X7_set_0 l1 m P := by
  show vJ mX7_set 4 96 197 none 0 [(0, .ref 163), (1, .int l1)] [] 197 SH m (vPi P)
  unfold wp_X7_set_0 at h
  refine vJ.iload_n dX7_set_0 rfl rfl ?_
  refine vJ.iconst dX7_set_1 ci_0 ?_
  refine vJ.sipush dX7_set_2 cs_400 ?_
  refine vJ.callS (Yc := mX7_in) (frc := 0) (loc := 0) (as := [.int l1, .int (0 : Int32), .int (400 : Int32)]) dX7_set_5 rfl ml_RX7_119 st_yX7_in co_X7_in in_TableSetterModel pl_X7_in (Nat.le_of_ble_eq_true rfl) (Nat.le_of_ble_eq_true rfl) (Nat.le_of_ble_eq_true rfl) ?_
  refine Ev.gi (e_X7_in  h) (fun r2 m1 h => ?_)
  refine vJ.if_ne (tgt := 13) dX7_set_8 (by decide) (fun hc21 => ?_) (fun hc21 => ?_)
  · replace h := h.2 hc21
    refine vJ.aload_n dX7_set_13 rfl rfl ?_
    refine vJ.callV (ci := 7) (Yc := mX7_layBoth) (frc := 3) (loc := 75) (as := []) dX7_set_14 rfl sh_163 (Nat.le_of_ble_eq_true rfl) rfl ml_RX7_192 im_yX7_layBoth se_yX7_layBoth co_X7_layBoth in_TableSetterModel pl_X7_layBoth (Nat.le_of_ble_eq_true rfl) (Nat.le_of_ble_eq_true rfl) (Nat.le_of_ble_eq_true rfl) ?_
    refine Ev.gv h (fun m3 h => ?_)
    refine vJ.iload_n dX7_set_17 rfl rfl ?_
    refine vJ.aload_n dX7_set_18 rfl rfl ?_
    refine vJ.getI (ci := 7) (k := 3) dX7_set_19 sh_163 (Nat.le_of_ble_eq_true rfl) rfl inX7 (Nat.le_of_ble_eq_true rfl) rfl fl_RX7_126 ?_
    refine vJ.iconst dX7_set_22 ci_1 ?_
    refine vJ.isub dX7_set_23 ?_
    refine vJ.aload_n dX7_set_24 rfl rfl ?_
    refine vJ.getI (ci := 7) (k := 4) dX7_set_25 sh_163 (Nat.le_of_ble_eq_true rfl) rfl inX7 (Nat.le_of_ble_eq_true rfl) rfl fl_RX7_129 ?_
    refine vJ.imul dX7_set_28 ?_
    refine vJ.isub dX7_set_29 ?_
    refine vJ.topi (fun v4 ev4 => ?_)
    replace h := h v4 ev4
    refine vJ.istore_n (ls2 := [(0, .ref 163), (1, .int l1), (2, .int v4)]) dX7_set_30 rfl (Nat.le_of_ble_eq_true rfl) rfl ?_
    refine vJ.iload_n dX7_set_31 rfl rfl ?_
    refine vJ.aload_n dX7_set_32 rfl rfl ?_
    refine vJ.aload_n dX7_set_33 rfl rfl ?_
    refine vJ.getR (ci := 7) (k := 24) (j := 182) dX7_set_34 sh_163 (Nat.le_of_ble_eq_true rfl) rfl inX7 (Nat.le_of_ble_eq_true rfl) rfl fl_RX7_65 ?_
    refine vJ.callV (ci := 7) (Yc := mX7_sumOf) (frc := 0) (loc := 0) (as := [.ref 182]) dX7_set_37 rfl sh_163 (Nat.le_of_ble_eq_true rfl) rfl ml_RX7_195 im_yX7_sumOf se_yX7_sumOf co_X7_sumOf in_TableSetterModel pl_X7_sumOf (Nat.le_of_ble_eq_true rfl) (Nat.le_of_ble_eq_true rfl) (Nat.le_of_ble_eq_true rfl) ?_
    refine Ev.gi h (fun r6 m5 h => ?_)
    refine vJ.icmp_ge (tgt := 46) dX7_set_40 (by decide) (fun hc20 => ?_) (fun hc20 => ?_)
    · replace h := h.1 hc20
      refine vJ.iload_n dX7_set_46 rfl rfl ?_
      refine vJ.aload_n dX7_set_47 rfl rfl ?_
      refine vJ.aload_n dX7_set_48 rfl rfl ?_
      refine vJ.getR (ci := 7) (k := 25) (j := 183) dX7_set_49 sh_163 (Nat.le_of_ble_eq_true rfl) rfl inX7 (Nat.le_of_ble_eq_true rfl) rfl fl_RX7_68 ?_
      refine vJ.callV (ci := 7) (Yc := mX7_sumOf) (frc := 0) (loc := 0) (as := [.ref 183]) dX7_set_52 rfl sh_163 (Nat.le_of_ble_eq_true rfl) rfl ml_RX7_195 im_yX7_sumOf se_yX7_sumOf co_X7_sumOf in_TableSetterModel pl_X7_sumOf (Nat.le_of_ble_eq_true rfl) (Nat.le_of_ble_eq_true rfl) (Nat.le_of_ble_eq_true rfl) ?_
      refine Ev.gi h (fun r8 m7 h => ?_)
      refine vJ.icmp_le (tgt := 62) dX7_set_55 (by decide) (fun hc19 => ?_) (fun hc19 => ?_)
      · replace h := h.1 hc19
        refine vJ.iconst dX7_set_62 ci_0 ?_
        refine vJ.istore_n (ls2 := [(0, .ref 163), (1, .int l1), (2, .int v4), (3, .int (0 : Int32))]) dX7_set_63 rfl (Nat.le_of_ble_eq_true rfl) rfl ?_
        refine vJ.aload_n dX7_set_64 rfl rfl ?_
        refine vJ.aload_n dX7_set_65 rfl rfl ?_
        refine vJ.getR (ci := 7) (k := 25) (j := 183) dX7_set_66 sh_163 (Nat.le_of_ble_eq_true rfl) rfl inX7 (Nat.le_of_ble_eq_true rfl) rfl fl_RX7_68 ?_
        refine vJ.callV (ci := 7) (Yc := mX7_sumOf) (frc := 0) (loc := 0) (as := [.ref 183]) dX7_set_69 rfl sh_163 (Nat.le_of_ble_eq_true rfl) rfl ml_RX7_195 im_yX7_sumOf se_yX7_sumOf co_X7_sumOf in_TableSetterModel pl_X7_sumOf (Nat.le_of_ble_eq_true rfl) (Nat.le_of_ble_eq_true rfl) (Nat.le_of_ble_eq_true rfl) ?_
        refine Ev.gi h (fun r10 m9 h => ?_)
        refine vJ.aload_n dX7_set_72 rfl rfl ?_
        refine vJ.aload_n dX7_set_73 rfl rfl ?_
        refine vJ.getR (ci := 7) (k := 24) (j := 182) dX7_set_74 sh_163 (Nat.le_of_ble_eq_true rfl) rfl inX7 (Nat.le_of_ble_eq_true rfl) rfl fl_RX7_65 ?_
        refine vJ.callV (ci := 7) (Yc := mX7_sumOf) (frc := 0) (loc := 0) (as := [.ref 182]) dX7_set_77 rfl sh_163 (Nat.le_of_ble_eq_true rfl) rfl ml_RX7_195 im_yX7_sumOf se_yX7_sumOf co_X7_sumOf in_TableSetterModel pl_X7_sumOf (Nat.le_of_ble_eq_true rfl) (Nat.le_of_ble_eq_true rfl) (Nat.le_of_ble_eq_true rfl) ?_
        refine Ev.gi h (fun r12 m11 h => ?_)
        refine vJ.icmp_ne (tgt := 87) dX7_set_80 (by decide) (fun hc13 => ?_) (fun hc13 => ?_)
        · replace h := h.2 hc13
          refine vJ.iconst dX7_set_87 ci_0 ?_
          refine vJ.istore (ls2 := [(0, .ref 163), (1, .int l1), (2, .int v4), (3, .int (0 : Int32)), (4, .int (0 : Int32))]) dX7_set_88 (Nat.le_of_ble_eq_true rfl) rfl ?_
          refine vJ.iconst dX7_set_90 ci_0 ?_
          refine vJ.istore (ls2 := [(0, .ref 163), (1, .int l1), (2, .int v4), (3, .int (0 : Int32)), (4, .int (0 : Int32)), (5, .int (0 : Int32))]) dX7_set_91 (Nat.le_of_ble_eq_true rfl) rfl ?_
          refine vJ.sub [0, 2, 3, 4, 5] rfl ?_
          exact h
        · replace h := h.1 hc13
          refine vJ.iconst dX7_set_83 ci_1 ?_
          refine vJ.goto (tgt := 88) dX7_set_84 (by decide) ?_
          refine vJ.istore (ls2 := [(0, .ref 163), (1, .int l1), (2, .int v4), (3, .int (0 : Int32)), (4, .int (1 : Int32))]) dX7_set_88 (Nat.le_of_ble_eq_true rfl) rfl ?_
          refine vJ.iconst dX7_set_90 ci_0 ?_
          refine vJ.istore (ls2 := [(0, .ref 163), (1, .int l1), (2, .int v4), (3, .int (0 : Int32)), (4, .int (1 : Int32)), (5, .int (0 : Int32))]) dX7_set_91 (Nat.le_of_ble_eq_true rfl) rfl ?_
          refine vJ.sub [0, 2, 3, 4, 5] rfl ?_
          exact h
      · replace h := h.2 hc19
        refine vJ.iconst dX7_set_58 ci_1 ?_
        refine vJ.goto (tgt := 63) dX7_set_59 (by decide) ?_
        refine vJ.istore_n (ls2 := [(0, .ref 163), (1, .int l1), (2, .int v4), (3, .int (1 : Int32))]) dX7_set_63 rfl (Nat.le_of_ble_eq_true rfl) rfl ?_
        refine vJ.aload_n dX7_set_64 rfl rfl ?_
        refine vJ.aload_n dX7_set_65 rfl rfl ?_
        refine vJ.getR (ci := 7) (k := 25) (j := 183) dX7_set_66 sh_163 (Nat.le_of_ble_eq_true rfl) rfl inX7 (Nat.le_of_ble_eq_true rfl) rfl fl_RX7_68 ?_
        refine vJ.callV (ci := 7) (Yc := mX7_sumOf) (frc := 0) (loc := 0) (as := [.ref 183]) dX7_set_69 rfl sh_163 (Nat.le_of_ble_eq_true rfl) rfl ml_RX7_195 im_yX7_sumOf se_yX7_sumOf co_X7_sumOf in_TableSetterModel pl_X7_sumOf (Nat.le_of_ble_eq_true rfl) (Nat.le_of_ble_eq_true rfl) (Nat.le_of_ble_eq_true rfl) ?_
        refine Ev.gi h (fun r15 m14 h => ?_)
        refine vJ.aload_n dX7_set_72 rfl rfl ?_
        refine vJ.aload_n dX7_set_73 rfl rfl ?_
        refine vJ.getR (ci := 7) (k := 24) (j := 182) dX7_set_74 sh_163 (Nat.le_of_ble_eq_true rfl) rfl inX7 (Nat.le_of_ble_eq_true rfl) rfl fl_RX7_65 ?_
        refine vJ.callV (ci := 7) (Yc := mX7_sumOf) (frc := 0) (loc := 0) (as := [.ref 182]) dX7_set_77 rfl sh_163 (Nat.le_of_ble_eq_true rfl) rfl ml_RX7_195 im_yX7_sumOf se_yX7_sumOf co_X7_sumOf in_TableSetterModel pl_X7_sumOf (Nat.le_of_ble_eq_true rfl) (Nat.le_of_ble_eq_true rfl) (Nat.le_of_ble_eq_true rfl) ?_
        refine Ev.gi h (fun r17 m16 h => ?_)
        refine vJ.icmp_ne (tgt := 87) dX7_set_80 (by decide) (fun hc18 => ?_) (fun hc18 => ?_)
        · replace h := h.2 hc18
          refine vJ.iconst dX7_set_87 ci_0 ?_
          refine vJ.istore (ls2 := [(0, .ref 163), (1, .int l1), (2, .int v4), (3, .int (1 : Int32)), (4, .int (0 : Int32))]) dX7_set_88 (Nat.le_of_ble_eq_true rfl) rfl ?_
          refine vJ.iconst dX7_set_90 ci_0 ?_
          refine vJ.istore (ls2 := [(0, .ref 163), (1, .int l1), (2, .int v4), (3, .int (1 : Int32)), (4, .int (0 : Int32)), (5, .int (0 : Int32))]) dX7_set_91 (Nat.le_of_ble_eq_true rfl) rfl ?_
          refine vJ.sub [0, 2, 3, 4, 5] rfl ?_
          exact h
        · replace h := h.1 hc18
          refine vJ.iconst dX7_set_83 ci_1 ?_
          refine vJ.goto (tgt := 88) dX7_set_84 (by decide) ?_
          refine vJ.istore (ls2 := [(0, .ref 163), (1, .int l1), (2, .int v4), (3, .int (1 : Int32)), (4, .int (1 : Int32))]) dX7_set_88 (Nat.le_of_ble_eq_true rfl) rfl ?_
          refine vJ.iconst dX7_set_90 ci_0 ?_
          refine vJ.istore (ls2 := [(0, .ref 163), (1, .int l1), (2, .int v4), (3, .int (1 : Int32)), (4, .int (1 : Int32)), (5, .int (0 : Int32))]) dX7_set_91 (Nat.le_of_ble_eq_true rfl) rfl ?_
          refine vJ.sub [0, 2, 3, 4, 5] rfl ?_
          exact h
    · replace h := h.2 hc20
      refine vJ.bipush dX7_set_43 cb_m4 ?_
      exact vJ.ireturn dX7_set_45 rfl rfl rfl ⟨rfl, _, rfl, h⟩
  · replace h := h.1 hc21
    refine vJ.iconst dX7_set_11 ci_m1 ?_
    exact vJ.ireturn dX7_set_12 rfl rfl rfl ⟨rfl, _, rfl, h⟩
def EI_X7_set (l1 : Int32) (m : vM) (P : Int32 → vM → Prop) : Prop := Ev mX7_set 4 96 197 [.ref 163, .int l1] 197 SH m (vPi P)
theorem f_X7_set {l1 : Int32} {m : vM} {P : Int32 → vM → Prop} (h : J_X7_set_0 l1 m P) : EI_X7_set l1 m P := Ev.of pn_X7_set (Nat.le_of_ble_eq_true rfl) h
def J_X7_set_186 (l3 : Int32) (l5 : Int32) (m : vM) (P : Int32 → vM → Prop) : Prop := vJ mX7_set 4 96 197 none 186 [(0, .ref 163), (3, .int l3), (5, .int l5)] [] 197 SH m (vPi P)
def wp_X7_set_93 (l2 : Int32) (l3 : Int32) (l4 : Int32) (l5 : Int32) (m : vM) (P : Int32 → vM → Prop) : Prop :=
  (((m.1 163 3) ≤ l5 →
    ((l3 = (0 : Int32) →
      EI_X7_sumOf 182 6 m (fun r2 m1 =>
        EI_X7_share (l2 - r2) (0 : Int32) (m1.1 163 3) m1 (fun m3 =>
          J_X7_set_186 l3 (0 : Int32) m3 P))) ∧
    (¬ l3 = (0 : Int32) →
      EI_X7_sumOf 183 6 m (fun r5 m4 =>
        EI_X7_share (l2 - r5) (0 : Int32) (m4.1 163 3) m4 (fun m6 =>
          J_X7_set_186 l3 (0 : Int32) m6 P))))) ∧
  (¬ (m.1 163 3) ≤ l5 →
    ((l3 = (0 : Int32) →
      ((l4 = (0 : Int32) →
        vp_in l5 6 ∧
        vp_in l5 6 ∧
        vp_in l5 6 ∧
        ∀ m14 : vM, m14 = upI m 178 (Int32.toNatClampNeg l5) ((m.1 183 (Int32.toNatClampNeg l5)) - (m.1 182 (Int32.toNatClampNeg l5))) →
        J_X7_set_93 l2 l3 l4 (l5 + (1 : Int32)) m14 P) ∧
      (¬ l4 = (0 : Int32) →
        vp_in l5 6 ∧
        vp_in l5 6 ∧
        ∀ m17 : vM, m17 = upI m 178 (Int32.toNatClampNeg l5) (m.1 165 (Int32.toNatClampNeg l5)) →
        J_X7_set_93 l2 l3 l4 (l5 + (1 : Int32)) m17 P))) ∧
    (¬ l3 = (0 : Int32) →
      vp_in l5 6 ∧
      vp_in l5 6 ∧
      ∀ m10 : vM, m10 = upI m 178 (Int32.toNatClampNeg l5) (m.1 165 (Int32.toNatClampNeg l5)) →
      J_X7_set_93 l2 l3 l4 (l5 + (1 : Int32)) m10 P))))
set_option maxRecDepth 20000 in
set_option maxHeartbeats 4000000 in
theorem b_X7_set_93 {l2 : Int32} {l3 : Int32} {l4 : Int32} {l5 : Int32} {m : vM} {P : Int32 → vM → Prop}  (h : wp_X7_set_93 l2 l3 l4 l5 m P) : J_X7_set_93 l2 l3 l4 l5 m P := by
  show vJ mX7_set 4 96 197 none 93 [(0, .ref 163), (2, .int l2), (3, .int l3), (4, .int l4), (5, .int l5)] [] 197 SH m (vPi P)
  unfold wp_X7_set_93 at h
  refine vJ.iload dX7_set_93 rfl ?_
  refine vJ.aload_n dX7_set_95 rfl rfl ?_
  refine vJ.getI (ci := 7) (k := 3) dX7_set_96 sh_163 (Nat.le_of_ble_eq_true rfl) rfl inX7 (Nat.le_of_ble_eq_true rfl) rfl fl_RX7_126 ?_
  refine vJ.icmp_ge (tgt := 149) dX7_set_99 (by decide) (fun hc20 => ?_) (fun hc20 => ?_)
  · replace h := h.1 hc20
    refine vJ.aload_n dX7_set_149 rfl rfl ?_
    refine vJ.iload_n dX7_set_150 rfl rfl ?_
    refine vJ.iload_n dX7_set_151 rfl rfl ?_
    refine vJ.if_eq (tgt := 166) dX7_set_152 (by decide) (fun hc7 => ?_) (fun hc7 => ?_)
    · replace h := h.1 hc7
      refine vJ.aload_n dX7_set_166 rfl rfl ?_
      refine vJ.aload_n dX7_set_167 rfl rfl ?_
      refine vJ.getR (ci := 7) (k := 24) (j := 182) dX7_set_168 sh_163 (Nat.le_of_ble_eq_true rfl) rfl inX7 (Nat.le_of_ble_eq_true rfl) rfl fl_RX7_65 ?_
      refine vJ.callV (ci := 7) (Yc := mX7_sumOf) (frc := 0) (loc := 0) (as := [.ref 182]) dX7_set_171 rfl sh_163 (Nat.le_of_ble_eq_true rfl) rfl ml_RX7_195 im_yX7_sumOf se_yX7_sumOf co_X7_sumOf in_TableSetterModel pl_X7_sumOf (Nat.le_of_ble_eq_true rfl) (Nat.le_of_ble_eq_true rfl) (Nat.le_of_ble_eq_true rfl) ?_
      refine Ev.gi h (fun r2 m1 h => ?_)
      refine vJ.isub dX7_set_174 ?_
      refine vJ.iconst dX7_set_175 ci_0 ?_
      refine vJ.aload_n dX7_set_176 rfl rfl ?_
      refine vJ.getI (ci := 7) (k := 3) dX7_set_177 sh_163 (Nat.le_of_ble_eq_true rfl) rfl inX7 (Nat.le_of_ble_eq_true rfl) rfl fl_RX7_126 ?_
      refine vJ.callV (ci := 7) (Yc := mX7_share) (frc := 0) (loc := 0) (as := [.int (l2 - r2), .int (0 : Int32), .int (m1.1 163 3)]) dX7_set_180 rfl sh_163 (Nat.le_of_ble_eq_true rfl) rfl ml_RX7_185 im_yX7_share se_yX7_share co_X7_share in_TableSetterModel pl_X7_share (Nat.le_of_ble_eq_true rfl) (Nat.le_of_ble_eq_true rfl) (Nat.le_of_ble_eq_true rfl) ?_
      refine Ev.gv h (fun m3 h => ?_)
      refine vJ.iconst dX7_set_183 ci_0 ?_
      refine vJ.istore (ls2 := [(0, .ref 163), (2, .int l2), (3, .int l3), (4, .int l4), (5, .int (0 : Int32))]) dX7_set_184 (Nat.le_of_ble_eq_true rfl) rfl ?_
      refine vJ.sub [0, 2, 4] rfl ?_
      exact h
    · replace h := h.2 hc7
      refine vJ.aload_n dX7_set_155 rfl rfl ?_
      refine vJ.aload_n dX7_set_156 rfl rfl ?_
      refine vJ.getR (ci := 7) (k := 25) (j := 183) dX7_set_157 sh_163 (Nat.le_of_ble_eq_true rfl) rfl inX7 (Nat.le_of_ble_eq_true rfl) rfl fl_RX7_68 ?_
      refine vJ.callV (ci := 7) (Yc := mX7_sumOf) (frc := 0) (loc := 0) (as := [.ref 183]) dX7_set_160 rfl sh_163 (Nat.le_of_ble_eq_true rfl) rfl ml_RX7_195 im_yX7_sumOf se_yX7_sumOf co_X7_sumOf in_TableSetterModel pl_X7_sumOf (Nat.le_of_ble_eq_true rfl) (Nat.le_of_ble_eq_true rfl) (Nat.le_of_ble_eq_true rfl) ?_
      refine Ev.gi h (fun r5 m4 h => ?_)
      refine vJ.goto (tgt := 174) dX7_set_163 (by decide) ?_
      refine vJ.isub dX7_set_174 ?_
      refine vJ.iconst dX7_set_175 ci_0 ?_
      refine vJ.aload_n dX7_set_176 rfl rfl ?_
      refine vJ.getI (ci := 7) (k := 3) dX7_set_177 sh_163 (Nat.le_of_ble_eq_true rfl) rfl inX7 (Nat.le_of_ble_eq_true rfl) rfl fl_RX7_126 ?_
      refine vJ.callV (ci := 7) (Yc := mX7_share) (frc := 0) (loc := 0) (as := [.int (l2 - r5), .int (0 : Int32), .int (m4.1 163 3)]) dX7_set_180 rfl sh_163 (Nat.le_of_ble_eq_true rfl) rfl ml_RX7_185 im_yX7_share se_yX7_share co_X7_share in_TableSetterModel pl_X7_share (Nat.le_of_ble_eq_true rfl) (Nat.le_of_ble_eq_true rfl) (Nat.le_of_ble_eq_true rfl) ?_
      refine Ev.gv h (fun m6 h => ?_)
      refine vJ.iconst dX7_set_183 ci_0 ?_
      refine vJ.istore (ls2 := [(0, .ref 163), (2, .int l2), (3, .int l3), (4, .int l4), (5, .int (0 : Int32))]) dX7_set_184 (Nat.le_of_ble_eq_true rfl) rfl ?_
      refine vJ.sub [0, 2, 4] rfl ?_
      exact h
  · replace h := h.2 hc20
    refine vJ.aload_n dX7_set_102 rfl rfl ?_
    refine vJ.getR (ci := 7) (k := 20) (j := 178) dX7_set_103 sh_163 (Nat.le_of_ble_eq_true rfl) rfl inX7 (Nat.le_of_ble_eq_true rfl) rfl fl_RX7_53 ?_
    refine vJ.iload dX7_set_106 rfl ?_
    refine vJ.iload_n dX7_set_108 rfl rfl ?_
    refine vJ.if_ne (tgt := 117) dX7_set_109 (by decide) (fun hc19 => ?_) (fun hc19 => ?_)
    · replace h := h.2 hc19
      refine vJ.aload_n dX7_set_117 rfl rfl ?_
      refine vJ.getR (ci := 7) (k := 5) (j := 165) dX7_set_118 sh_163 (Nat.le_of_ble_eq_true rfl) rfl inX7 (Nat.le_of_ble_eq_true rfl) rfl fl_RX7_13 ?_
      refine vJ.iload dX7_set_121 rfl ?_
      obtain ⟨hb8, h⟩ := h
      refine vJ.iald dX7_set_123 sh_165 (Nat.le_of_ble_eq_true rfl) hb8 ?_
      refine vJ.goto (tgt := 142) dX7_set_124 (by decide) ?_
      obtain ⟨hb9, h⟩ := h
      refine vJ.iast dX7_set_142 sh_178 (Nat.le_of_ble_eq_true rfl) hb9 ?_
      refine vJ.topm (fun m10 em10 => ?_)
      replace h := h m10 em10
      refine vJ.iinc (v := l5 + (1 : Int32)) (ls2 := [(0, .ref 163), (2, .int l2), (3, .int l3), (4, .int l4), (5, .int (l5 + (1 : Int32)))]) dX7_set_143 rfl (congrArg (l5 + ·) ci_1) (Nat.le_of_ble_eq_true rfl) rfl ?_
      refine vJ.goto (tgt := 93) dX7_set_146 (by decide) ?_
      exact h
    · replace h := h.1 hc19
      refine vJ.iload dX7_set_112 rfl ?_
      refine vJ.if_eq (tgt := 127) dX7_set_114 (by decide) (fun hc18 => ?_) (fun hc18 => ?_)
      · replace h := h.1 hc18
        refine vJ.aload_n dX7_set_127 rfl rfl ?_
        refine vJ.getR (ci := 7) (k := 25) (j := 183) dX7_set_128 sh_163 (Nat.le_of_ble_eq_true rfl) rfl inX7 (Nat.le_of_ble_eq_true rfl) rfl fl_RX7_68 ?_
        refine vJ.iload dX7_set_131 rfl ?_
        obtain ⟨hb11, h⟩ := h
        refine vJ.iald dX7_set_133 sh_183 (Nat.le_of_ble_eq_true rfl) hb11 ?_
        refine vJ.aload_n dX7_set_134 rfl rfl ?_
        refine vJ.getR (ci := 7) (k := 24) (j := 182) dX7_set_135 sh_163 (Nat.le_of_ble_eq_true rfl) rfl inX7 (Nat.le_of_ble_eq_true rfl) rfl fl_RX7_65 ?_
        refine vJ.iload dX7_set_138 rfl ?_
        obtain ⟨hb12, h⟩ := h
        refine vJ.iald dX7_set_140 sh_182 (Nat.le_of_ble_eq_true rfl) hb12 ?_
        refine vJ.isub dX7_set_141 ?_
        obtain ⟨hb13, h⟩ := h
        refine vJ.iast dX7_set_142 sh_178 (Nat.le_of_ble_eq_true rfl) hb13 ?_
        refine vJ.topm (fun m14 em14 => ?_)
        replace h := h m14 em14
        refine vJ.iinc (v := l5 + (1 : Int32)) (ls2 := [(0, .ref 163), (2, .int l2), (3, .int l3), (4, .int l4), (5, .int (l5 + (1 : Int32)))]) dX7_set_143 rfl (congrArg (l5 + ·) ci_1) (Nat.le_of_ble_eq_true rfl) rfl ?_
        refine vJ.goto (tgt := 93) dX7_set_146 (by decide) ?_
        exact h
      · replace h := h.2 hc18
        refine vJ.aload_n dX7_set_117 rfl rfl ?_
        refine vJ.getR (ci := 7) (k := 5) (j := 165) dX7_set_118 sh_163 (Nat.le_of_ble_eq_true rfl) rfl inX7 (Nat.le_of_ble_eq_true rfl) rfl fl_RX7_13 ?_
        refine vJ.iload dX7_set_121 rfl ?_
        obtain ⟨hb15, h⟩ := h
        refine vJ.iald dX7_set_123 sh_165 (Nat.le_of_ble_eq_true rfl) hb15 ?_
        refine vJ.goto (tgt := 142) dX7_set_124 (by decide) ?_
        obtain ⟨hb16, h⟩ := h
        refine vJ.iast dX7_set_142 sh_178 (Nat.le_of_ble_eq_true rfl) hb16 ?_
        refine vJ.topm (fun m17 em17 => ?_)
        replace h := h m17 em17
        refine vJ.iinc (v := l5 + (1 : Int32)) (ls2 := [(0, .ref 163), (2, .int l2), (3, .int l3), (4, .int l4), (5, .int (l5 + (1 : Int32)))]) dX7_set_143 rfl (congrArg (l5 + ·) ci_1) (Nat.le_of_ble_eq_true rfl) rfl ?_
        refine vJ.goto (tgt := 93) dX7_set_146 (by decide) ?_
        exact h
def wp_X7_set_186 (l3 : Int32) (l5 : Int32) (m : vM) (P : Int32 → vM → Prop) : Prop :=
  (((m.1 163 3) ≤ l5 →
    EI_X7_heightBy 181 6 m (fun r2 m1 =>
      P r2 m1)) ∧
  (¬ (m.1 163 3) ≤ l5 →
    ((l3 = (0 : Int32) →
      vp_in l5 6 ∧
      vp_in l5 6 ∧
      vp_in l5 6 ∧
      ∀ m6 : vM, m6 = upI m 181 (Int32.toNatClampNeg l5) ((m.1 182 (Int32.toNatClampNeg l5)) + (m.1 179 (Int32.toNatClampNeg l5))) →
      J_X7_set_186 l3 (l5 + (1 : Int32)) m6 P) ∧
    (¬ l3 = (0 : Int32) →
      vp_in l5 6 ∧
      vp_in l5 6 ∧
      vp_in l5 6 ∧
      ∀ m10 : vM, m10 = upI m 181 (Int32.toNatClampNeg l5) ((m.1 183 (Int32.toNatClampNeg l5)) + (m.1 179 (Int32.toNatClampNeg l5))) →
      J_X7_set_186 l3 (l5 + (1 : Int32)) m10 P))))
set_option maxRecDepth 20000 in
set_option maxHeartbeats 4000000 in
theorem b_X7_set_186 {l3 : Int32} {l5 : Int32} {m : vM} {P : Int32 → vM → Prop}  (h : wp_X7_set_186 l3 l5 m P) : J_X7_set_186 l3 l5 m P := by
  show vJ mX7_set 4 96 197 none 186 [(0, .ref 163), (3, .int l3), (5, .int l5)] [] 197 SH m (vPi P)
  unfold wp_X7_set_186 at h
  refine vJ.iload dX7_set_186 rfl ?_
  refine vJ.aload_n dX7_set_188 rfl rfl ?_
  refine vJ.getI (ci := 7) (k := 3) dX7_set_189 sh_163 (Nat.le_of_ble_eq_true rfl) rfl inX7 (Nat.le_of_ble_eq_true rfl) rfl fl_RX7_126 ?_
  refine vJ.icmp_ge (tgt := 237) dX7_set_192 (by decide) (fun hc12 => ?_) (fun hc12 => ?_)
  · replace h := h.1 hc12
    refine vJ.aload_n dX7_set_237 rfl rfl ?_
    refine vJ.aload_n dX7_set_238 rfl rfl ?_
    refine vJ.getR (ci := 7) (k := 23) (j := 181) dX7_set_239 sh_163 (Nat.le_of_ble_eq_true rfl) rfl inX7 (Nat.le_of_ble_eq_true rfl) rfl fl_RX7_62 ?_
    refine vJ.callV (ci := 7) (Yc := mX7_heightBy) (frc := 2) (loc := 53) (as := [.ref 181]) dX7_set_242 rfl sh_163 (Nat.le_of_ble_eq_true rfl) rfl ml_RX7_199 im_yX7_heightBy se_yX7_heightBy co_X7_heightBy in_TableSetterModel pl_X7_heightBy (Nat.le_of_ble_eq_true rfl) (Nat.le_of_ble_eq_true rfl) (Nat.le_of_ble_eq_true rfl) ?_
    refine Ev.gi h (fun r2 m1 h => ?_)
    exact vJ.ireturn dX7_set_245 rfl rfl rfl ⟨rfl, _, rfl, h⟩
  · replace h := h.2 hc12
    refine vJ.aload_n dX7_set_195 rfl rfl ?_
    refine vJ.getR (ci := 7) (k := 23) (j := 181) dX7_set_196 sh_163 (Nat.le_of_ble_eq_true rfl) rfl inX7 (Nat.le_of_ble_eq_true rfl) rfl fl_RX7_62 ?_
    refine vJ.iload dX7_set_199 rfl ?_
    refine vJ.iload_n dX7_set_201 rfl rfl ?_
    refine vJ.if_eq (tgt := 215) dX7_set_202 (by decide) (fun hc11 => ?_) (fun hc11 => ?_)
    · replace h := h.1 hc11
      refine vJ.aload_n dX7_set_215 rfl rfl ?_
      refine vJ.getR (ci := 7) (k := 24) (j := 182) dX7_set_216 sh_163 (Nat.le_of_ble_eq_true rfl) rfl inX7 (Nat.le_of_ble_eq_true rfl) rfl fl_RX7_65 ?_
      refine vJ.iload dX7_set_219 rfl ?_
      obtain ⟨hb3, h⟩ := h
      refine vJ.iald dX7_set_221 sh_182 (Nat.le_of_ble_eq_true rfl) hb3 ?_
      refine vJ.aload_n dX7_set_222 rfl rfl ?_
      refine vJ.getR (ci := 7) (k := 21) (j := 179) dX7_set_223 sh_163 (Nat.le_of_ble_eq_true rfl) rfl inX7 (Nat.le_of_ble_eq_true rfl) rfl fl_RX7_56 ?_
      refine vJ.iload dX7_set_226 rfl ?_
      obtain ⟨hb4, h⟩ := h
      refine vJ.iald dX7_set_228 sh_179 (Nat.le_of_ble_eq_true rfl) hb4 ?_
      refine vJ.iadd dX7_set_229 ?_
      obtain ⟨hb5, h⟩ := h
      refine vJ.iast dX7_set_230 sh_181 (Nat.le_of_ble_eq_true rfl) hb5 ?_
      refine vJ.topm (fun m6 em6 => ?_)
      replace h := h m6 em6
      refine vJ.iinc (v := l5 + (1 : Int32)) (ls2 := [(0, .ref 163), (3, .int l3), (5, .int (l5 + (1 : Int32)))]) dX7_set_231 rfl (congrArg (l5 + ·) ci_1) (Nat.le_of_ble_eq_true rfl) rfl ?_
      refine vJ.goto (tgt := 186) dX7_set_234 (by decide) ?_
      exact h
    · replace h := h.2 hc11
      refine vJ.aload_n dX7_set_205 rfl rfl ?_
      refine vJ.getR (ci := 7) (k := 25) (j := 183) dX7_set_206 sh_163 (Nat.le_of_ble_eq_true rfl) rfl inX7 (Nat.le_of_ble_eq_true rfl) rfl fl_RX7_68 ?_
      refine vJ.iload dX7_set_209 rfl ?_
      obtain ⟨hb7, h⟩ := h
      refine vJ.iald dX7_set_211 sh_183 (Nat.le_of_ble_eq_true rfl) hb7 ?_
      refine vJ.goto (tgt := 222) dX7_set_212 (by decide) ?_
      refine vJ.aload_n dX7_set_222 rfl rfl ?_
      refine vJ.getR (ci := 7) (k := 21) (j := 179) dX7_set_223 sh_163 (Nat.le_of_ble_eq_true rfl) rfl inX7 (Nat.le_of_ble_eq_true rfl) rfl fl_RX7_56 ?_
      refine vJ.iload dX7_set_226 rfl ?_
      obtain ⟨hb8, h⟩ := h
      refine vJ.iald dX7_set_228 sh_179 (Nat.le_of_ble_eq_true rfl) hb8 ?_
      refine vJ.iadd dX7_set_229 ?_
      obtain ⟨hb9, h⟩ := h
      refine vJ.iast dX7_set_230 sh_181 (Nat.le_of_ble_eq_true rfl) hb9 ?_
      refine vJ.topm (fun m10 em10 => ?_)
      replace h := h m10 em10
      refine vJ.iinc (v := l5 + (1 : Int32)) (ls2 := [(0, .ref 163), (3, .int l3), (5, .int (l5 + (1 : Int32)))]) dX7_set_231 rfl (congrArg (l5 + ·) ci_1) (Nat.le_of_ble_eq_true rfl) rfl ?_
      refine vJ.goto (tgt := 186) dX7_set_234 (by decide) ?_
      exact h
def J_X7_next_0  (m : vM) (P : Int32 → vM → Prop) : Prop := vJ mX7_next 0 0 197 none 0 [(0, .ref 163)] [] 197 SH m (vPi P)
def J_X7_next_7 (l1 : Int32) (m : vM) (P : Int32 → vM → Prop) : Prop := vJ mX7_next 0 0 197 none 7 [(0, .ref 163), (1, .int l1)] [] 197 SH m (vPi P)
def wp_X7_next_0  (m : vM) (P : Int32 → vM → Prop) : Prop :=
  ∀ v1 : Int32, v1 = ((m.1 163 3) - (1 : Int32)) →
  J_X7_next_7 v1 m P
set_option maxRecDepth 20000 in
set_option maxHeartbeats 4000000 in
theorem b_X7_next_0  {m : vM} {P : Int32 → vM → Prop}  (h : wp_X7_next_0  m P) : J_X7_next_0  m P := by
  show vJ mX7_next 0 0 197 none 0 [(0, .ref 163)] [] 197 SH m (vPi P)
  unfold wp_X7_next_0 at h
  refine vJ.aload_n dX7_next_0 rfl rfl ?_
  refine vJ.getI (ci := 7) (k := 3) dX7_next_1 sh_163 (Nat.le_of_ble_eq_true rfl) rfl inX7 (Nat.le_of_ble_eq_true rfl) rfl fl_RX7_126 ?_
  refine vJ.iconst dX7_next_4 ci_1 ?_
  refine vJ.isub dX7_next_5 ?_
  refine vJ.topi (fun v1 ev1 => ?_)
  replace h := h v1 ev1
  refine vJ.istore_n (ls2 := [(0, .ref 163), (1, .int v1)]) dX7_next_6 rfl (Nat.le_of_ble_eq_true rfl) rfl ?_
  exact h
def EI_X7_next  (m : vM) (P : Int32 → vM → Prop) : Prop := Ev mX7_next 0 0 197 [.ref 163] 197 SH m (vPi P)
theorem f_X7_next  {m : vM} {P : Int32 → vM → Prop} (h : J_X7_next_0  m P) : EI_X7_next  m P := Ev.of pn_X7_next (Nat.le_of_ble_eq_true rfl) h
def J_X7_next_32 (l1 : Int32) (m : vM) (P : Int32 → vM → Prop) : Prop := vJ mX7_next 0 0 197 none 32 [(0, .ref 163), (1, .int l1)] [] 197 SH m (vPi P)
def wp_X7_next_7 (l1 : Int32) (m : vM) (P : Int32 → vM → Prop) : Prop :=
  ((l1 ≤ (0 : Int32) →
    J_X7_next_32 l1 m P) ∧
  (¬ l1 ≤ (0 : Int32) →
    vp_in l1 6 ∧
    vp_in l1 6 ∧
    (((m.1 187 (Int32.toNatClampNeg l1)) = (m.1 182 (Int32.toNatClampNeg l1)) →
      J_X7_next_7 (l1 + (-1 : Int32)) m P) ∧
    (¬ (m.1 187 (Int32.toNatClampNeg l1)) = (m.1 182 (Int32.toNatClampNeg l1)) →
      J_X7_next_32 l1 m P))))
set_option maxRecDepth 20000 in
set_option maxHeartbeats 4000000 in
theorem b_X7_next_7 {l1 : Int32} {m : vM} {P : Int32 → vM → Prop}  (h : wp_X7_next_7 l1 m P) : J_X7_next_7 l1 m P := by
  show vJ mX7_next 0 0 197 none 7 [(0, .ref 163), (1, .int l1)] [] 197 SH m (vPi P)
  unfold wp_X7_next_7 at h
  refine vJ.iload_n dX7_next_7 rfl rfl ?_
  refine vJ.if_le (tgt := 32) dX7_next_8 (by decide) (fun hc4 => ?_) (fun hc4 => ?_)
  · replace h := h.1 hc4
    exact h
  · replace h := h.2 hc4
    refine vJ.aload_n dX7_next_11 rfl rfl ?_
    refine vJ.getR (ci := 7) (k := 30) (j := 187) dX7_next_12 sh_163 (Nat.le_of_ble_eq_true rfl) rfl inX7 (Nat.le_of_ble_eq_true rfl) rfl fl_RX7_80 ?_
    refine vJ.iload_n dX7_next_15 rfl rfl ?_
    obtain ⟨hb1, h⟩ := h
    refine vJ.iald dX7_next_16 sh_187 (Nat.le_of_ble_eq_true rfl) hb1 ?_
    refine vJ.aload_n dX7_next_17 rfl rfl ?_
    refine vJ.getR (ci := 7) (k := 24) (j := 182) dX7_next_18 sh_163 (Nat.le_of_ble_eq_true rfl) rfl inX7 (Nat.le_of_ble_eq_true rfl) rfl fl_RX7_65 ?_
    refine vJ.iload_n dX7_next_21 rfl rfl ?_
    obtain ⟨hb2, h⟩ := h
    refine vJ.iald dX7_next_22 sh_182 (Nat.le_of_ble_eq_true rfl) hb2 ?_
    refine vJ.icmp_ne (tgt := 32) dX7_next_23 (by decide) (fun hc3 => ?_) (fun hc3 => ?_)
    · replace h := h.2 hc3
      exact h
    · replace h := h.1 hc3
      refine vJ.iinc (v := l1 + (-1 : Int32)) (ls2 := [(0, .ref 163), (1, .int (l1 + (-1 : Int32)))]) dX7_next_26 rfl (congrArg (l1 + ·) ci_m1) (Nat.le_of_ble_eq_true rfl) rfl ?_
      refine vJ.goto (tgt := 7) dX7_next_29 (by decide) ?_
      exact h
def wp_X7_next_32 (l1 : Int32) (m : vM) (P : Int32 → vM → Prop) : Prop :=
  ((l1 = (0 : Int32) →
    P (0 : Int32) m) ∧
  (¬ l1 = (0 : Int32) →
    vp_in l1 6 ∧
    vp_in l1 6 ∧
    ∀ v3 : Int32, v3 = (((m.1 187 (Int32.toNatClampNeg l1)) - (m.1 182 (Int32.toNatClampNeg l1))) - (1 : Int32)) →
    vp_in l1 6 ∧
    vp_in l1 6 ∧
    ∀ m6 : vM, m6 = upI m 187 (Int32.toNatClampNeg l1) (m.1 182 (Int32.toNatClampNeg l1)) →
    vp_in (l1 - (1 : Int32)) 6 ∧
    vp_in (l1 - (1 : Int32)) 6 ∧
    ∀ m9 : vM, m9 = upI m6 187 (Int32.toNatClampNeg (l1 - (1 : Int32))) ((m6.1 187 (Int32.toNatClampNeg (l1 - (1 : Int32)))) + (1 : Int32)) →
    vp_in ((m9.1 163 3) - (1 : Int32)) 6 ∧
    vp_in ((m9.1 163 3) - (1 : Int32)) 6 ∧
    ∀ m12 : vM, m12 = upI m9 187 (Int32.toNatClampNeg ((m9.1 163 3) - (1 : Int32))) ((m9.1 187 (Int32.toNatClampNeg ((m9.1 163 3) - (1 : Int32)))) + v3) →
    P (1 : Int32) m12))
set_option maxRecDepth 20000 in
set_option maxHeartbeats 4000000 in
theorem b_X7_next_32 {l1 : Int32} {m : vM} {P : Int32 → vM → Prop}  (h : wp_X7_next_32 l1 m P) : J_X7_next_32 l1 m P := by
  show vJ mX7_next 0 0 197 none 32 [(0, .ref 163), (1, .int l1)] [] 197 SH m (vPi P)
  unfold wp_X7_next_32 at h
  refine vJ.iload_n dX7_next_32 rfl rfl ?_
  refine vJ.if_ne (tgt := 38) dX7_next_33 (by decide) (fun hc13 => ?_) (fun hc13 => ?_)
  · replace h := h.2 hc13
    refine vJ.aload_n dX7_next_38 rfl rfl ?_
    refine vJ.getR (ci := 7) (k := 30) (j := 187) dX7_next_39 sh_163 (Nat.le_of_ble_eq_true rfl) rfl inX7 (Nat.le_of_ble_eq_true rfl) rfl fl_RX7_80 ?_
    refine vJ.iload_n dX7_next_42 rfl rfl ?_
    obtain ⟨hb1, h⟩ := h
    refine vJ.iald dX7_next_43 sh_187 (Nat.le_of_ble_eq_true rfl) hb1 ?_
    refine vJ.aload_n dX7_next_44 rfl rfl ?_
    refine vJ.getR (ci := 7) (k := 24) (j := 182) dX7_next_45 sh_163 (Nat.le_of_ble_eq_true rfl) rfl inX7 (Nat.le_of_ble_eq_true rfl) rfl fl_RX7_65 ?_
    refine vJ.iload_n dX7_next_48 rfl rfl ?_
    obtain ⟨hb2, h⟩ := h
    refine vJ.iald dX7_next_49 sh_182 (Nat.le_of_ble_eq_true rfl) hb2 ?_
    refine vJ.isub dX7_next_50 ?_
    refine vJ.iconst dX7_next_51 ci_1 ?_
    refine vJ.isub dX7_next_52 ?_
    refine vJ.topi (fun v3 ev3 => ?_)
    replace h := h v3 ev3
    refine vJ.istore_n (ls2 := [(0, .ref 163), (1, .int l1), (2, .int v3)]) dX7_next_53 rfl (Nat.le_of_ble_eq_true rfl) rfl ?_
    refine vJ.aload_n dX7_next_54 rfl rfl ?_
    refine vJ.getR (ci := 7) (k := 30) (j := 187) dX7_next_55 sh_163 (Nat.le_of_ble_eq_true rfl) rfl inX7 (Nat.le_of_ble_eq_true rfl) rfl fl_RX7_80 ?_
    refine vJ.iload_n dX7_next_58 rfl rfl ?_
    refine vJ.aload_n dX7_next_59 rfl rfl ?_
    refine vJ.getR (ci := 7) (k := 24) (j := 182) dX7_next_60 sh_163 (Nat.le_of_ble_eq_true rfl) rfl inX7 (Nat.le_of_ble_eq_true rfl) rfl fl_RX7_65 ?_
    refine vJ.iload_n dX7_next_63 rfl rfl ?_
    obtain ⟨hb4, h⟩ := h
    refine vJ.iald dX7_next_64 sh_182 (Nat.le_of_ble_eq_true rfl) hb4 ?_
    obtain ⟨hb5, h⟩ := h
    refine vJ.iast dX7_next_65 sh_187 (Nat.le_of_ble_eq_true rfl) hb5 ?_
    refine vJ.topm (fun m6 em6 => ?_)
    replace h := h m6 em6
    refine vJ.aload_n dX7_next_66 rfl rfl ?_
    refine vJ.getR (ci := 7) (k := 30) (j := 187) dX7_next_67 sh_163 (Nat.le_of_ble_eq_true rfl) rfl inX7 (Nat.le_of_ble_eq_true rfl) rfl fl_RX7_80 ?_
    refine vJ.iload_n dX7_next_70 rfl rfl ?_
    refine vJ.iconst dX7_next_71 ci_1 ?_
    refine vJ.isub dX7_next_72 ?_
    refine vJ.dup2 dX7_next_73 rfl rfl ?_
    obtain ⟨hb7, h⟩ := h
    refine vJ.iald dX7_next_74 sh_187 (Nat.le_of_ble_eq_true rfl) hb7 ?_
    refine vJ.iconst dX7_next_75 ci_1 ?_
    refine vJ.iadd dX7_next_76 ?_
    obtain ⟨hb8, h⟩ := h
    refine vJ.iast dX7_next_77 sh_187 (Nat.le_of_ble_eq_true rfl) hb8 ?_
    refine vJ.topm (fun m9 em9 => ?_)
    replace h := h m9 em9
    refine vJ.aload_n dX7_next_78 rfl rfl ?_
    refine vJ.getR (ci := 7) (k := 30) (j := 187) dX7_next_79 sh_163 (Nat.le_of_ble_eq_true rfl) rfl inX7 (Nat.le_of_ble_eq_true rfl) rfl fl_RX7_80 ?_
    refine vJ.aload_n dX7_next_82 rfl rfl ?_
    refine vJ.getI (ci := 7) (k := 3) dX7_next_83 sh_163 (Nat.le_of_ble_eq_true rfl) rfl inX7 (Nat.le_of_ble_eq_true rfl) rfl fl_RX7_126 ?_
    refine vJ.iconst dX7_next_86 ci_1 ?_
    refine vJ.isub dX7_next_87 ?_
    refine vJ.dup2 dX7_next_88 rfl rfl ?_
    obtain ⟨hb10, h⟩ := h
    refine vJ.iald dX7_next_89 sh_187 (Nat.le_of_ble_eq_true rfl) hb10 ?_
    refine vJ.iload_n dX7_next_90 rfl rfl ?_
    refine vJ.iadd dX7_next_91 ?_
    obtain ⟨hb11, h⟩ := h
    refine vJ.iast dX7_next_92 sh_187 (Nat.le_of_ble_eq_true rfl) hb11 ?_
    refine vJ.topm (fun m12 em12 => ?_)
    replace h := h m12 em12
    refine vJ.iconst dX7_next_93 ci_1 ?_
    exact vJ.ireturn dX7_next_94 rfl (by decide) rfl ⟨rfl, _, rfl, h⟩
  · replace h := h.1 hc13
    refine vJ.iconst dX7_next_36 ci_0 ?_
    exact vJ.ireturn dX7_next_37 rfl (by decide) rfl ⟨rfl, _, rfl, h⟩
def J_X7_tight_0 (l1 : Int32) (l2 : Int32) (m : vM) (P : Int32 → vM → Prop) : Prop := vJ mX7_tight 4 96 197 none 0 [(0, .ref 163), (1, .int l1), (2, .int l2)] [] 197 SH m (vPi P)
def J_X7_tight_61 (l2 : Int32) (l3 : Int32) (l4 : Int32) (m : vM) (P : Int32 → vM → Prop) : Prop := vJ mX7_tight 4 96 197 none 61 [(0, .ref 163), (2, .int l2), (3, .int l3), (4, .int l4)] [] 197 SH m (vPi P)
def wp_X7_tight_0 (l1 : Int32) (l2 : Int32) (m : vM) (P : Int32 → vM → Prop) : Prop :=
  wp_X7_in l1 (0 : Int32) (400 : Int32) m (fun r2 m1 =>
    ((r2 = (0 : Int32) →
      P (-1 : Int32) m1) ∧
    (¬ r2 = (0 : Int32) →
      wp_X7_in l2 (1 : Int32) (20000 : Int32) m1 (fun r4 m3 =>
        ((r4 = (0 : Int32) →
          P (-1 : Int32) m3) ∧
        (¬ r4 = (0 : Int32) →
          EI_X7_layBoth m3 (fun m5 =>
            EI_X7_sumOf 182 6 m5 (fun r7 m6 =>
              ∀ v8 : Int32, v8 = ((l1 - (((m5.1 163 3) - (1 : Int32)) * (m5.1 163 4))) - r7) →
              (((0 : Int32) ≤ v8 →
                J_X7_tight_61 l2 v8 (0 : Int32) m6 P) ∧
              (¬ (0 : Int32) ≤ v8 →
                P (-4 : Int32) m6))))))))))
set_option maxRecDepth 20000 in
set_option maxHeartbeats 4000000 in
theorem b_X7_tight_0 {l1 : Int32} {l2 : Int32} {m : vM} {P : Int32 → vM → Prop}  (h : wp_X7_tight_0 l1 l2 m P) : J_X7_tight_0 l1 l2 m P := by
  show vJ mX7_tight 4 96 197 none 0 [(0, .ref 163), (1, .int l1), (2, .int l2)] [] 197 SH m (vPi P)
  unfold wp_X7_tight_0 at h
  refine vJ.iload_n dX7_tight_0 rfl rfl ?_
  refine vJ.iconst dX7_tight_1 ci_0 ?_
  refine vJ.sipush dX7_tight_2 cs_400 ?_
  refine vJ.callS (Yc := mX7_in) (frc := 0) (loc := 0) (as := [.int l1, .int (0 : Int32), .int (400 : Int32)]) dX7_tight_5 rfl ml_RX7_119 st_yX7_in co_X7_in in_TableSetterModel pl_X7_in (Nat.le_of_ble_eq_true rfl) (Nat.le_of_ble_eq_true rfl) (Nat.le_of_ble_eq_true rfl) ?_
  refine Ev.gi (e_X7_in  h) (fun r2 m1 h => ?_)
  refine vJ.if_eq (tgt := 22) dX7_tight_8 (by decide) (fun hc11 => ?_) (fun hc11 => ?_)
  · replace h := h.1 hc11
    refine vJ.iconst dX7_tight_22 ci_m1 ?_
    exact vJ.ireturn dX7_tight_23 rfl rfl rfl ⟨rfl, _, rfl, h⟩
  · replace h := h.2 hc11
    refine vJ.iload_n dX7_tight_11 rfl rfl ?_
    refine vJ.iconst dX7_tight_12 ci_1 ?_
    refine vJ.sipush dX7_tight_13 cs_20000 ?_
    refine vJ.callS (Yc := mX7_in) (frc := 0) (loc := 0) (as := [.int l2, .int (1 : Int32), .int (20000 : Int32)]) dX7_tight_16 rfl ml_RX7_119 st_yX7_in co_X7_in in_TableSetterModel pl_X7_in (Nat.le_of_ble_eq_true rfl) (Nat.le_of_ble_eq_true rfl) (Nat.le_of_ble_eq_true rfl) ?_
    refine Ev.gi (e_X7_in  h) (fun r4 m3 h => ?_)
    refine vJ.if_ne (tgt := 24) dX7_tight_19 (by decide) (fun hc10 => ?_) (fun hc10 => ?_)
    · replace h := h.2 hc10
      refine vJ.aload_n dX7_tight_24 rfl rfl ?_
      refine vJ.callV (ci := 7) (Yc := mX7_layBoth) (frc := 3) (loc := 75) (as := []) dX7_tight_25 rfl sh_163 (Nat.le_of_ble_eq_true rfl) rfl ml_RX7_192 im_yX7_layBoth se_yX7_layBoth co_X7_layBoth in_TableSetterModel pl_X7_layBoth (Nat.le_of_ble_eq_true rfl) (Nat.le_of_ble_eq_true rfl) (Nat.le_of_ble_eq_true rfl) ?_
      refine Ev.gv h (fun m5 h => ?_)
      refine vJ.iload_n dX7_tight_28 rfl rfl ?_
      refine vJ.aload_n dX7_tight_29 rfl rfl ?_
      refine vJ.getI (ci := 7) (k := 3) dX7_tight_30 sh_163 (Nat.le_of_ble_eq_true rfl) rfl inX7 (Nat.le_of_ble_eq_true rfl) rfl fl_RX7_126 ?_
      refine vJ.iconst dX7_tight_33 ci_1 ?_
      refine vJ.isub dX7_tight_34 ?_
      refine vJ.aload_n dX7_tight_35 rfl rfl ?_
      refine vJ.getI (ci := 7) (k := 4) dX7_tight_36 sh_163 (Nat.le_of_ble_eq_true rfl) rfl inX7 (Nat.le_of_ble_eq_true rfl) rfl fl_RX7_129 ?_
      refine vJ.imul dX7_tight_39 ?_
      refine vJ.isub dX7_tight_40 ?_
      refine vJ.aload_n dX7_tight_41 rfl rfl ?_
      refine vJ.aload_n dX7_tight_42 rfl rfl ?_
      refine vJ.getR (ci := 7) (k := 24) (j := 182) dX7_tight_43 sh_163 (Nat.le_of_ble_eq_true rfl) rfl inX7 (Nat.le_of_ble_eq_true rfl) rfl fl_RX7_65 ?_
      refine vJ.callV (ci := 7) (Yc := mX7_sumOf) (frc := 0) (loc := 0) (as := [.ref 182]) dX7_tight_46 rfl sh_163 (Nat.le_of_ble_eq_true rfl) rfl ml_RX7_195 im_yX7_sumOf se_yX7_sumOf co_X7_sumOf in_TableSetterModel pl_X7_sumOf (Nat.le_of_ble_eq_true rfl) (Nat.le_of_ble_eq_true rfl) (Nat.le_of_ble_eq_true rfl) ?_
      refine Ev.gi h (fun r7 m6 h => ?_)
      refine vJ.isub dX7_tight_49 ?_
      refine vJ.topi (fun v8 ev8 => ?_)
      replace h := h v8 ev8
      refine vJ.istore_n (ls2 := [(0, .ref 163), (1, .int l1), (2, .int l2), (3, .int v8)]) dX7_tight_50 rfl (Nat.le_of_ble_eq_true rfl) rfl ?_
      refine vJ.iload_n dX7_tight_51 rfl rfl ?_
      refine vJ.if_ge (tgt := 58) dX7_tight_52 (by decide) (fun hc9 => ?_) (fun hc9 => ?_)
      · replace h := h.1 hc9
        refine vJ.iconst dX7_tight_58 ci_0 ?_
        refine vJ.istore (ls2 := [(0, .ref 163), (1, .int l1), (2, .int l2), (3, .int v8), (4, .int (0 : Int32))]) dX7_tight_59 (Nat.le_of_ble_eq_true rfl) rfl ?_
        refine vJ.sub [0, 2, 3, 4] rfl ?_
        exact h
      · replace h := h.2 hc9
        refine vJ.bipush dX7_tight_55 cb_m4 ?_
        exact vJ.ireturn dX7_tight_57 rfl rfl rfl ⟨rfl, _, rfl, h⟩
    · replace h := h.1 hc10
      refine vJ.iconst dX7_tight_22 ci_m1 ?_
      exact vJ.ireturn dX7_tight_23 rfl rfl rfl ⟨rfl, _, rfl, h⟩
def EI_X7_tight (l1 : Int32) (l2 : Int32) (m : vM) (P : Int32 → vM → Prop) : Prop := Ev mX7_tight 4 96 197 [.ref 163, .int l1, .int l2] 197 SH m (vPi P)
theorem f_X7_tight {l1 : Int32} {l2 : Int32} {m : vM} {P : Int32 → vM → Prop} (h : J_X7_tight_0 l1 l2 m P) : EI_X7_tight l1 l2 m P := Ev.of pn_X7_tight (Nat.le_of_ble_eq_true rfl) h
def J_X7_tight_116 (l2 : Int32) (l4 : Int32) (l5 : Int32) (m : vM) (P : Int32 → vM → Prop) : Prop := vJ mX7_tight 4 96 197 none 116 [(0, .ref 163), (2, .int l2), (4, .int l4), (5, .int l5)] [] 197 SH m (vPi P)
def wp_X7_tight_61 (l2 : Int32) (l3 : Int32) (l4 : Int32) (m : vM) (P : Int32 → vM → Prop) : Prop :=
  (((m.1 163 3) ≤ l4 →
    vp_in ((m.1 163 3) - (1 : Int32)) 6 ∧
    vp_in ((m.1 163 3) - (1 : Int32)) 6 ∧
    ∀ m3 : vM, m3 = upI m 187 (Int32.toNatClampNeg ((m.1 163 3) - (1 : Int32))) ((m.1 187 (Int32.toNatClampNeg ((m.1 163 3) - (1 : Int32)))) + l3) →
    ∀ m4 : vM, m4 = upI m3 163 29 (0 : Int32) →
    J_X7_tight_116 l2 (0 : Int32) (1 : Int32) m4 P) ∧
  (¬ (m.1 163 3) ≤ l4 →
    vp_in l4 6 ∧
    vp_in l4 6 ∧
    ∀ m7 : vM, m7 = upI m 187 (Int32.toNatClampNeg l4) (m.1 182 (Int32.toNatClampNeg l4)) →
    J_X7_tight_61 l2 l3 (l4 + (1 : Int32)) m7 P))
set_option maxRecDepth 20000 in
set_option maxHeartbeats 4000000 in
theorem b_X7_tight_61 {l2 : Int32} {l3 : Int32} {l4 : Int32} {m : vM} {P : Int32 → vM → Prop}  (h : wp_X7_tight_61 l2 l3 l4 m P) : J_X7_tight_61 l2 l3 l4 m P := by
  show vJ mX7_tight 4 96 197 none 61 [(0, .ref 163), (2, .int l2), (3, .int l3), (4, .int l4)] [] 197 SH m (vPi P)
  unfold wp_X7_tight_61 at h
  refine vJ.iload dX7_tight_61 rfl ?_
  refine vJ.aload_n dX7_tight_63 rfl rfl ?_
  refine vJ.getI (ci := 7) (k := 3) dX7_tight_64 sh_163 (Nat.le_of_ble_eq_true rfl) rfl inX7 (Nat.le_of_ble_eq_true rfl) rfl fl_RX7_126 ?_
  refine vJ.icmp_ge (tgt := 90) dX7_tight_67 (by decide) (fun hc8 => ?_) (fun hc8 => ?_)
  · replace h := h.1 hc8
    refine vJ.aload_n dX7_tight_90 rfl rfl ?_
    refine vJ.getR (ci := 7) (k := 30) (j := 187) dX7_tight_91 sh_163 (Nat.le_of_ble_eq_true rfl) rfl inX7 (Nat.le_of_ble_eq_true rfl) rfl fl_RX7_80 ?_
    refine vJ.aload_n dX7_tight_94 rfl rfl ?_
    refine vJ.getI (ci := 7) (k := 3) dX7_tight_95 sh_163 (Nat.le_of_ble_eq_true rfl) rfl inX7 (Nat.le_of_ble_eq_true rfl) rfl fl_RX7_126 ?_
    refine vJ.iconst dX7_tight_98 ci_1 ?_
    refine vJ.isub dX7_tight_99 ?_
    refine vJ.dup2 dX7_tight_100 rfl rfl ?_
    obtain ⟨hb1, h⟩ := h
    refine vJ.iald dX7_tight_101 sh_187 (Nat.le_of_ble_eq_true rfl) hb1 ?_
    refine vJ.iload_n dX7_tight_102 rfl rfl ?_
    refine vJ.iadd dX7_tight_103 ?_
    obtain ⟨hb2, h⟩ := h
    refine vJ.iast dX7_tight_104 sh_187 (Nat.le_of_ble_eq_true rfl) hb2 ?_
    refine vJ.topm (fun m3 em3 => ?_)
    replace h := h m3 em3
    refine vJ.iconst dX7_tight_105 ci_0 ?_
    refine vJ.istore (ls2 := [(0, .ref 163), (2, .int l2), (3, .int l3), (4, .int (0 : Int32))]) dX7_tight_106 (Nat.le_of_ble_eq_true rfl) rfl ?_
    refine vJ.aload_n dX7_tight_108 rfl rfl ?_
    refine vJ.iconst dX7_tight_109 ci_0 ?_
    refine vJ.putI (ci := 7) (k := 29) dX7_tight_110 sh_163 (Nat.le_of_ble_eq_true rfl) rfl inX7 tyX7 tyX7_ok nmX7 (Nat.le_of_ble_eq_true rfl) rfl rfl fl_RX7_206 rfl rfl ?_
    refine vJ.topm (fun m4 em4 => ?_)
    replace h := h m4 em4
    refine vJ.iconst dX7_tight_113 ci_1 ?_
    refine vJ.istore (ls2 := [(0, .ref 163), (2, .int l2), (3, .int l3), (4, .int (0 : Int32)), (5, .int (1 : Int32))]) dX7_tight_114 (Nat.le_of_ble_eq_true rfl) rfl ?_
    refine vJ.sub [0, 1, 3, 4] rfl ?_
    exact h
  · replace h := h.2 hc8
    refine vJ.aload_n dX7_tight_70 rfl rfl ?_
    refine vJ.getR (ci := 7) (k := 30) (j := 187) dX7_tight_71 sh_163 (Nat.le_of_ble_eq_true rfl) rfl inX7 (Nat.le_of_ble_eq_true rfl) rfl fl_RX7_80 ?_
    refine vJ.iload dX7_tight_74 rfl ?_
    refine vJ.aload_n dX7_tight_76 rfl rfl ?_
    refine vJ.getR (ci := 7) (k := 24) (j := 182) dX7_tight_77 sh_163 (Nat.le_of_ble_eq_true rfl) rfl inX7 (Nat.le_of_ble_eq_true rfl) rfl fl_RX7_65 ?_
    refine vJ.iload dX7_tight_80 rfl ?_
    obtain ⟨hb5, h⟩ := h
    refine vJ.iald dX7_tight_82 sh_182 (Nat.le_of_ble_eq_true rfl) hb5 ?_
    obtain ⟨hb6, h⟩ := h
    refine vJ.iast dX7_tight_83 sh_187 (Nat.le_of_ble_eq_true rfl) hb6 ?_
    refine vJ.topm (fun m7 em7 => ?_)
    replace h := h m7 em7
    refine vJ.iinc (v := l4 + (1 : Int32)) (ls2 := [(0, .ref 163), (2, .int l2), (3, .int l3), (4, .int (l4 + (1 : Int32)))]) dX7_tight_84 rfl (congrArg (l4 + ·) ci_1) (Nat.le_of_ble_eq_true rfl) rfl ?_
    refine vJ.goto (tgt := 61) dX7_tight_87 (by decide) ?_
    exact h
def J_X7_tight_215 (l4 : Int32) (l6 : Int32) (m : vM) (P : Int32 → vM → Prop) : Prop := vJ mX7_tight 4 96 197 none 215 [(0, .ref 163), (4, .int l4), (6, .int l6)] [] 197 SH m (vPi P)
def J_X7_tight_174 (l2 : Int32) (l4 : Int32) (l7 : Int32) (m : vM) (P : Int32 → vM → Prop) : Prop := vJ mX7_tight 4 96 197 none 174 [(0, .ref 163), (2, .int l2), (4, .int l4), (7, .int l7)] [] 197 SH m (vPi P)
def wp_X7_tight_116 (l2 : Int32) (l4 : Int32) (l5 : Int32) (m : vM) (P : Int32 → vM → Prop) : Prop :=
  ((l5 = (0 : Int32) →
    J_X7_tight_215 l4 (0 : Int32) m P) ∧
  (¬ l5 = (0 : Int32) →
    (((m.1 163 29) = l2 →
      P (-6 : Int32) m) ∧
    (¬ (m.1 163 29) = l2 →
      ∀ m1 : vM, m1 = upI m 163 29 ((m.1 163 29) + (1 : Int32)) →
      EI_X7_heightBy 187 6 m1 (fun r3 m2 =>
        (((m2.1 163 29) = (1 : Int32) →
          J_X7_tight_174 l2 r3 (0 : Int32) m2 P) ∧
        (¬ (m2.1 163 29) = (1 : Int32) →
          ((l4 ≤ r3 →
            EI_X7_next m2 (fun r5 m4 =>
              J_X7_tight_116 l2 l4 r5 m4 P)) ∧
          (¬ l4 ≤ r3 →
            J_X7_tight_174 l2 r3 (0 : Int32) m2 P)))))))))
set_option maxRecDepth 20000 in
set_option maxHeartbeats 4000000 in
theorem b_X7_tight_116 {l2 : Int32} {l4 : Int32} {l5 : Int32} {m : vM} {P : Int32 → vM → Prop}  (h : wp_X7_tight_116 l2 l4 l5 m P) : J_X7_tight_116 l2 l4 l5 m P := by
  show vJ mX7_tight 4 96 197 none 116 [(0, .ref 163), (2, .int l2), (4, .int l4), (5, .int l5)] [] 197 SH m (vPi P)
  unfold wp_X7_tight_116 at h
  refine vJ.iload dX7_tight_116 rfl ?_
  refine vJ.if_eq (tgt := 212) dX7_tight_118 (by decide) (fun hc9 => ?_) (fun hc9 => ?_)
  · replace h := h.1 hc9
    refine vJ.iconst dX7_tight_212 ci_0 ?_
    refine vJ.istore (ls2 := [(0, .ref 163), (2, .int l2), (4, .int l4), (5, .int l5), (6, .int (0 : Int32))]) dX7_tight_213 (Nat.le_of_ble_eq_true rfl) rfl ?_
    refine vJ.sub [0, 2, 4] rfl ?_
    exact h
  · replace h := h.2 hc9
    refine vJ.aload_n dX7_tight_121 rfl rfl ?_
    refine vJ.getI (ci := 7) (k := 29) dX7_tight_122 sh_163 (Nat.le_of_ble_eq_true rfl) rfl inX7 (Nat.le_of_ble_eq_true rfl) rfl fl_RX7_206 ?_
    refine vJ.iload_n dX7_tight_125 rfl rfl ?_
    refine vJ.icmp_ne (tgt := 132) dX7_tight_126 (by decide) (fun hc8 => ?_) (fun hc8 => ?_)
    · replace h := h.2 hc8
      refine vJ.aload_n dX7_tight_132 rfl rfl ?_
      refine vJ.dup dX7_tight_133 rfl ?_
      refine vJ.getI (ci := 7) (k := 29) dX7_tight_134 sh_163 (Nat.le_of_ble_eq_true rfl) rfl inX7 (Nat.le_of_ble_eq_true rfl) rfl fl_RX7_206 ?_
      refine vJ.iconst dX7_tight_137 ci_1 ?_
      refine vJ.iadd dX7_tight_138 ?_
      refine vJ.putI (ci := 7) (k := 29) dX7_tight_139 sh_163 (Nat.le_of_ble_eq_true rfl) rfl inX7 tyX7 tyX7_ok nmX7 (Nat.le_of_ble_eq_true rfl) rfl rfl fl_RX7_206 rfl rfl ?_
      refine vJ.topm (fun m1 em1 => ?_)
      replace h := h m1 em1
      refine vJ.aload_n dX7_tight_142 rfl rfl ?_
      refine vJ.aload_n dX7_tight_143 rfl rfl ?_
      refine vJ.getR (ci := 7) (k := 30) (j := 187) dX7_tight_144 sh_163 (Nat.le_of_ble_eq_true rfl) rfl inX7 (Nat.le_of_ble_eq_true rfl) rfl fl_RX7_80 ?_
      refine vJ.callV (ci := 7) (Yc := mX7_heightBy) (frc := 2) (loc := 53) (as := [.ref 187]) dX7_tight_147 rfl sh_163 (Nat.le_of_ble_eq_true rfl) rfl ml_RX7_199 im_yX7_heightBy se_yX7_heightBy co_X7_heightBy in_TableSetterModel pl_X7_heightBy (Nat.le_of_ble_eq_true rfl) (Nat.le_of_ble_eq_true rfl) (Nat.le_of_ble_eq_true rfl) ?_
      refine Ev.gi h (fun r3 m2 h => ?_)
      refine vJ.istore (ls2 := [(0, .ref 163), (2, .int l2), (4, .int l4), (5, .int l5), (6, .int r3)]) dX7_tight_150 (Nat.le_of_ble_eq_true rfl) rfl ?_
      refine vJ.aload_n dX7_tight_152 rfl rfl ?_
      refine vJ.getI (ci := 7) (k := 29) dX7_tight_153 sh_163 (Nat.le_of_ble_eq_true rfl) rfl inX7 (Nat.le_of_ble_eq_true rfl) rfl fl_RX7_206 ?_
      refine vJ.iconst dX7_tight_156 ci_1 ?_
      refine vJ.icmp_eq (tgt := 167) dX7_tight_157 (by decide) (fun hc7 => ?_) (fun hc7 => ?_)
      · replace h := h.1 hc7
        refine vJ.iload dX7_tight_167 rfl ?_
        refine vJ.istore (ls2 := [(0, .ref 163), (2, .int l2), (4, .int r3), (5, .int l5), (6, .int r3)]) dX7_tight_169 (Nat.le_of_ble_eq_true rfl) rfl ?_
        refine vJ.iconst dX7_tight_171 ci_0 ?_
        refine vJ.istore (ls2 := [(0, .ref 163), (2, .int l2), (4, .int r3), (5, .int l5), (6, .int r3), (7, .int (0 : Int32))]) dX7_tight_172 (Nat.le_of_ble_eq_true rfl) rfl ?_
        refine vJ.sub [0, 1, 2, 5] rfl ?_
        exact h
      · replace h := h.2 hc7
        refine vJ.iload dX7_tight_160 rfl ?_
        refine vJ.iload dX7_tight_162 rfl ?_
        refine vJ.icmp_ge (tgt := 203) dX7_tight_164 (by decide) (fun hc6 => ?_) (fun hc6 => ?_)
        · replace h := h.1 hc6
          refine vJ.aload_n dX7_tight_203 rfl rfl ?_
          refine vJ.callV (ci := 7) (Yc := mX7_next) (frc := 0) (loc := 0) (as := []) dX7_tight_204 rfl sh_163 (Nat.le_of_ble_eq_true rfl) rfl ml_RX7_209 im_yX7_next se_yX7_next co_X7_next in_TableSetterModel pl_X7_next (Nat.le_of_ble_eq_true rfl) (Nat.le_of_ble_eq_true rfl) (Nat.le_of_ble_eq_true rfl) ?_
          refine Ev.gi h (fun r5 m4 h => ?_)
          refine vJ.istore (ls2 := [(0, .ref 163), (2, .int l2), (4, .int l4), (5, .int r5), (6, .int r3)]) dX7_tight_207 (Nat.le_of_ble_eq_true rfl) rfl ?_
          refine vJ.goto (tgt := 116) dX7_tight_209 (by decide) ?_
          refine vJ.sub [0, 1, 2, 3] rfl ?_
          exact h
        · replace h := h.2 hc6
          refine vJ.iload dX7_tight_167 rfl ?_
          refine vJ.istore (ls2 := [(0, .ref 163), (2, .int l2), (4, .int r3), (5, .int l5), (6, .int r3)]) dX7_tight_169 (Nat.le_of_ble_eq_true rfl) rfl ?_
          refine vJ.iconst dX7_tight_171 ci_0 ?_
          refine vJ.istore (ls2 := [(0, .ref 163), (2, .int l2), (4, .int r3), (5, .int l5), (6, .int r3), (7, .int (0 : Int32))]) dX7_tight_172 (Nat.le_of_ble_eq_true rfl) rfl ?_
          refine vJ.sub [0, 1, 2, 5] rfl ?_
          exact h
    · replace h := h.1 hc8
      refine vJ.bipush dX7_tight_129 cb_m6 ?_
      exact vJ.ireturn dX7_tight_131 rfl rfl rfl ⟨rfl, _, rfl, h⟩
def wp_X7_tight_215 (l4 : Int32) (l6 : Int32) (m : vM) (P : Int32 → vM → Prop) : Prop :=
  (((m.1 163 3) ≤ l6 →
    P l4 m) ∧
  (¬ (m.1 163 3) ≤ l6 →
    vp_in l6 6 ∧
    vp_in l6 6 ∧
    ∀ m3 : vM, m3 = upI m 181 (Int32.toNatClampNeg l6) (m.1 188 (Int32.toNatClampNeg l6)) →
    J_X7_tight_215 l4 (l6 + (1 : Int32)) m3 P))
set_option maxRecDepth 20000 in
set_option maxHeartbeats 4000000 in
theorem b_X7_tight_215 {l4 : Int32} {l6 : Int32} {m : vM} {P : Int32 → vM → Prop}  (h : wp_X7_tight_215 l4 l6 m P) : J_X7_tight_215 l4 l6 m P := by
  show vJ mX7_tight 4 96 197 none 215 [(0, .ref 163), (4, .int l4), (6, .int l6)] [] 197 SH m (vPi P)
  unfold wp_X7_tight_215 at h
  refine vJ.iload dX7_tight_215 rfl ?_
  refine vJ.aload_n dX7_tight_217 rfl rfl ?_
  refine vJ.getI (ci := 7) (k := 3) dX7_tight_218 sh_163 (Nat.le_of_ble_eq_true rfl) rfl inX7 (Nat.le_of_ble_eq_true rfl) rfl fl_RX7_126 ?_
  refine vJ.icmp_ge (tgt := 244) dX7_tight_221 (by decide) (fun hc4 => ?_) (fun hc4 => ?_)
  · replace h := h.1 hc4
    refine vJ.iload dX7_tight_244 rfl ?_
    exact vJ.ireturn dX7_tight_246 rfl rfl rfl ⟨rfl, _, rfl, h⟩
  · replace h := h.2 hc4
    refine vJ.aload_n dX7_tight_224 rfl rfl ?_
    refine vJ.getR (ci := 7) (k := 23) (j := 181) dX7_tight_225 sh_163 (Nat.le_of_ble_eq_true rfl) rfl inX7 (Nat.le_of_ble_eq_true rfl) rfl fl_RX7_62 ?_
    refine vJ.iload dX7_tight_228 rfl ?_
    refine vJ.aload_n dX7_tight_230 rfl rfl ?_
    refine vJ.getR (ci := 7) (k := 31) (j := 188) dX7_tight_231 sh_163 (Nat.le_of_ble_eq_true rfl) rfl inX7 (Nat.le_of_ble_eq_true rfl) rfl fl_RX7_83 ?_
    refine vJ.iload dX7_tight_234 rfl ?_
    obtain ⟨hb1, h⟩ := h
    refine vJ.iald dX7_tight_236 sh_188 (Nat.le_of_ble_eq_true rfl) hb1 ?_
    obtain ⟨hb2, h⟩ := h
    refine vJ.iast dX7_tight_237 sh_181 (Nat.le_of_ble_eq_true rfl) hb2 ?_
    refine vJ.topm (fun m3 em3 => ?_)
    replace h := h m3 em3
    refine vJ.iinc (v := l6 + (1 : Int32)) (ls2 := [(0, .ref 163), (4, .int l4), (6, .int (l6 + (1 : Int32)))]) dX7_tight_238 rfl (congrArg (l6 + ·) ci_1) (Nat.le_of_ble_eq_true rfl) rfl ?_
    refine vJ.goto (tgt := 215) dX7_tight_241 (by decide) ?_
    exact h
def wp_X7_tight_174 (l2 : Int32) (l4 : Int32) (l7 : Int32) (m : vM) (P : Int32 → vM → Prop) : Prop :=
  (((m.1 163 3) ≤ l7 →
    EI_X7_next m (fun r2 m1 =>
      J_X7_tight_116 l2 l4 r2 m1 P)) ∧
  (¬ (m.1 163 3) ≤ l7 →
    vp_in l7 6 ∧
    vp_in l7 6 ∧
    ∀ m5 : vM, m5 = upI m 188 (Int32.toNatClampNeg l7) (m.1 187 (Int32.toNatClampNeg l7)) →
    J_X7_tight_174 l2 l4 (l7 + (1 : Int32)) m5 P))
set_option maxRecDepth 20000 in
set_option maxHeartbeats 4000000 in
theorem b_X7_tight_174 {l2 : Int32} {l4 : Int32} {l7 : Int32} {m : vM} {P : Int32 → vM → Prop}  (h : wp_X7_tight_174 l2 l4 l7 m P) : J_X7_tight_174 l2 l4 l7 m P := by
  show vJ mX7_tight 4 96 197 none 174 [(0, .ref 163), (2, .int l2), (4, .int l4), (7, .int l7)] [] 197 SH m (vPi P)
  unfold wp_X7_tight_174 at h
  refine vJ.iload dX7_tight_174 rfl ?_
  refine vJ.aload_n dX7_tight_176 rfl rfl ?_
  refine vJ.getI (ci := 7) (k := 3) dX7_tight_177 sh_163 (Nat.le_of_ble_eq_true rfl) rfl inX7 (Nat.le_of_ble_eq_true rfl) rfl fl_RX7_126 ?_
  refine vJ.icmp_ge (tgt := 203) dX7_tight_180 (by decide) (fun hc6 => ?_) (fun hc6 => ?_)
  · replace h := h.1 hc6
    refine vJ.aload_n dX7_tight_203 rfl rfl ?_
    refine vJ.callV (ci := 7) (Yc := mX7_next) (frc := 0) (loc := 0) (as := []) dX7_tight_204 rfl sh_163 (Nat.le_of_ble_eq_true rfl) rfl ml_RX7_209 im_yX7_next se_yX7_next co_X7_next in_TableSetterModel pl_X7_next (Nat.le_of_ble_eq_true rfl) (Nat.le_of_ble_eq_true rfl) (Nat.le_of_ble_eq_true rfl) ?_
    refine Ev.gi h (fun r2 m1 h => ?_)
    refine vJ.istore (ls2 := [(0, .ref 163), (2, .int l2), (4, .int l4), (5, .int r2), (7, .int l7)]) dX7_tight_207 (Nat.le_of_ble_eq_true rfl) rfl ?_
    refine vJ.goto (tgt := 116) dX7_tight_209 (by decide) ?_
    refine vJ.sub [0, 1, 2, 3] rfl ?_
    exact h
  · replace h := h.2 hc6
    refine vJ.aload_n dX7_tight_183 rfl rfl ?_
    refine vJ.getR (ci := 7) (k := 31) (j := 188) dX7_tight_184 sh_163 (Nat.le_of_ble_eq_true rfl) rfl inX7 (Nat.le_of_ble_eq_true rfl) rfl fl_RX7_83 ?_
    refine vJ.iload dX7_tight_187 rfl ?_
    refine vJ.aload_n dX7_tight_189 rfl rfl ?_
    refine vJ.getR (ci := 7) (k := 30) (j := 187) dX7_tight_190 sh_163 (Nat.le_of_ble_eq_true rfl) rfl inX7 (Nat.le_of_ble_eq_true rfl) rfl fl_RX7_80 ?_
    refine vJ.iload dX7_tight_193 rfl ?_
    obtain ⟨hb3, h⟩ := h
    refine vJ.iald dX7_tight_195 sh_187 (Nat.le_of_ble_eq_true rfl) hb3 ?_
    obtain ⟨hb4, h⟩ := h
    refine vJ.iast dX7_tight_196 sh_188 (Nat.le_of_ble_eq_true rfl) hb4 ?_
    refine vJ.topm (fun m5 em5 => ?_)
    replace h := h m5 em5
    refine vJ.iinc (v := l7 + (1 : Int32)) (ls2 := [(0, .ref 163), (2, .int l2), (4, .int l4), (7, .int (l7 + (1 : Int32)))]) dX7_tight_197 rfl (congrArg (l7 + ·) ci_1) (Nat.le_of_ble_eq_true rfl) rfl ?_
    refine vJ.goto (tgt := 174) dX7_tight_200 (by decide) ?_
    exact h
def J_X7_tries_0  (m : vM) (P : Int32 → vM → Prop) : Prop := vJ mX7_tries 0 0 197 none 0 [(0, .ref 163)] [] 197 SH m (vPi P)
def wp_X7_tries  (m : vM) (P : Int32 → vM → Prop) : Prop :=
  P (m.1 163 29) m
set_option maxRecDepth 20000 in
set_option maxHeartbeats 4000000 in
theorem b_X7_tries  {m : vM} {P : Int32 → vM → Prop}  (h : wp_X7_tries  m P) : J_X7_tries_0  m P := by
  show vJ mX7_tries 0 0 197 none 0 [(0, .ref 163)] [] 197 SH m (vPi P)
  unfold wp_X7_tries at h
  refine vJ.aload_n dX7_tries_0 rfl rfl ?_
  refine vJ.getI (ci := 7) (k := 29) dX7_tries_1 sh_163 (Nat.le_of_ble_eq_true rfl) rfl inX7 (Nat.le_of_ble_eq_true rfl) rfl fl_RX7_206 ?_
  exact vJ.ireturn dX7_tries_4 rfl rfl rfl ⟨rfl, _, rfl, h⟩
def EI_X7_tries  (m : vM) (P : Int32 → vM → Prop) : Prop := Ev mX7_tries 0 0 197 [.ref 163] 197 SH m (vPi P)
theorem f_X7_tries  {m : vM} {P : Int32 → vM → Prop} (h : J_X7_tries_0  m P) : EI_X7_tries  m P := Ev.of pn_X7_tries (Nat.le_of_ble_eq_true rfl) h
theorem e_X7_tries  {m : vM} {P : Int32 → vM → Prop}  (h : wp_X7_tries  m P) : EI_X7_tries  m P := f_X7_tries (b_X7_tries  h)
def J_X7_width_0 (l1 : Int32) (m : vM) (P : Int32 → vM → Prop) : Prop := vJ mX7_width 2 43 197 none 0 [(0, .ref 163), (1, .int l1)] [] 197 SH m (vPi P)
def wp_X7_width (l1 : Int32) (m : vM) (P : Int32 → vM → Prop) : Prop :=
  wp_X7_isColumn l1 m (fun r2 m1 =>
    ((r2 = (0 : Int32) →
      P (-1 : Int32) m1) ∧
    (¬ r2 = (0 : Int32) →
      vp_in l1 6 ∧
      P (m1.1 181 (Int32.toNatClampNeg l1)) m1)))
set_option maxRecDepth 20000 in
set_option maxHeartbeats 4000000 in
theorem b_X7_width {l1 : Int32} {m : vM} {P : Int32 → vM → Prop}  (h : wp_X7_width l1 m P) : J_X7_width_0 l1 m P := by
  show vJ mX7_width 2 43 197 none 0 [(0, .ref 163), (1, .int l1)] [] 197 SH m (vPi P)
  unfold wp_X7_width at h
  refine vJ.aload_n dX7_width_0 rfl rfl ?_
  refine vJ.iload_n dX7_width_1 rfl rfl ?_
  refine vJ.callV (ci := 7) (Yc := mX7_isColumn) (frc := 1) (loc := 22) (as := [.int l1]) dX7_width_2 rfl sh_163 (Nat.le_of_ble_eq_true rfl) rfl ml_RX7_141 im_yX7_isColumn se_yX7_isColumn co_X7_isColumn in_TableSetterModel pl_X7_isColumn (Nat.le_of_ble_eq_true rfl) (Nat.le_of_ble_eq_true rfl) (Nat.le_of_ble_eq_true rfl) ?_
  refine Ev.gi (e_X7_isColumn  h) (fun r2 m1 h => ?_)
  refine vJ.if_eq (tgt := 17) dX7_width_5 (by decide) (fun hc4 => ?_) (fun hc4 => ?_)
  · replace h := h.1 hc4
    refine vJ.iconst dX7_width_17 ci_m1 ?_
    exact vJ.ireturn dX7_width_18 rfl rfl rfl ⟨rfl, _, rfl, h⟩
  · replace h := h.2 hc4
    refine vJ.aload_n dX7_width_8 rfl rfl ?_
    refine vJ.getR (ci := 7) (k := 23) (j := 181) dX7_width_9 sh_163 (Nat.le_of_ble_eq_true rfl) rfl inX7 (Nat.le_of_ble_eq_true rfl) rfl fl_RX7_62 ?_
    refine vJ.iload_n dX7_width_12 rfl rfl ?_
    obtain ⟨hb3, h⟩ := h
    refine vJ.iald dX7_width_13 sh_181 (Nat.le_of_ble_eq_true rfl) hb3 ?_
    refine vJ.goto (tgt := 18) dX7_width_14 (by decide) ?_
    exact vJ.ireturn dX7_width_18 rfl rfl rfl ⟨rfl, _, rfl, h⟩
def EI_X7_width (l1 : Int32) (m : vM) (P : Int32 → vM → Prop) : Prop := Ev mX7_width 2 43 197 [.ref 163, .int l1] 197 SH m (vPi P)
theorem f_X7_width {l1 : Int32} {m : vM} {P : Int32 → vM → Prop} (h : J_X7_width_0 l1 m P) : EI_X7_width l1 m P := Ev.of pn_X7_width (Nat.le_of_ble_eq_true rfl) h
theorem e_X7_width {l1 : Int32} {m : vM} {P : Int32 → vM → Prop}  (h : wp_X7_width l1 m P) : EI_X7_width l1 m P := f_X7_width (b_X7_width  h)
def J_X7_height_0 (l1 : Int32) (m : vM) (P : Int32 → vM → Prop) : Prop := vJ mX7_height 2 53 197 none 0 [(0, .ref 163), (1, .int l1)] [] 197 SH m (vPi P)
def wp_X7_height (l1 : Int32) (m : vM) (P : Int32 → vM → Prop) : Prop :=
  wp_X7_isRow l1 m (fun r2 m1 =>
    ((r2 = (0 : Int32) →
      P (-1 : Int32) m1) ∧
    (¬ r2 = (0 : Int32) →
      EI_X7_layHeights 181 6 m1 (fun m3 =>
        vp_in l1 16 ∧
        P (m3.1 185 (Int32.toNatClampNeg l1)) m3))))
set_option maxRecDepth 20000 in
set_option maxHeartbeats 4000000 in
theorem b_X7_height {l1 : Int32} {m : vM} {P : Int32 → vM → Prop}  (h : wp_X7_height l1 m P) : J_X7_height_0 l1 m P := by
  show vJ mX7_height 2 53 197 none 0 [(0, .ref 163), (1, .int l1)] [] 197 SH m (vPi P)
  unfold wp_X7_height at h
  refine vJ.aload_n dX7_height_0 rfl rfl ?_
  refine vJ.iload_n dX7_height_1 rfl rfl ?_
  refine vJ.callV (ci := 7) (Yc := mX7_isRow) (frc := 1) (loc := 22) (as := [.int l1]) dX7_height_2 rfl sh_163 (Nat.le_of_ble_eq_true rfl) rfl ml_RX7_148 im_yX7_isRow se_yX7_isRow co_X7_isRow in_TableSetterModel pl_X7_isRow (Nat.le_of_ble_eq_true rfl) (Nat.le_of_ble_eq_true rfl) (Nat.le_of_ble_eq_true rfl) ?_
  refine Ev.gi (e_X7_isRow  h) (fun r2 m1 h => ?_)
  refine vJ.if_ne (tgt := 10) dX7_height_5 (by decide) (fun hc5 => ?_) (fun hc5 => ?_)
  · replace h := h.2 hc5
    refine vJ.aload_n dX7_height_10 rfl rfl ?_
    refine vJ.aload_n dX7_height_11 rfl rfl ?_
    refine vJ.getR (ci := 7) (k := 23) (j := 181) dX7_height_12 sh_163 (Nat.le_of_ble_eq_true rfl) rfl inX7 (Nat.le_of_ble_eq_true rfl) rfl fl_RX7_62 ?_
    refine vJ.callV (ci := 7) (Yc := mX7_layHeights) (frc := 1) (loc := 28) (as := [.ref 181]) dX7_height_15 rfl sh_163 (Nat.le_of_ble_eq_true rfl) rfl ml_RX7_202 im_yX7_layHeights se_yX7_layHeights co_X7_layHeights in_TableSetterModel pl_X7_layHeights (Nat.le_of_ble_eq_true rfl) (Nat.le_of_ble_eq_true rfl) (Nat.le_of_ble_eq_true rfl) ?_
    refine Ev.gv h (fun m3 h => ?_)
    refine vJ.aload_n dX7_height_18 rfl rfl ?_
    refine vJ.getR (ci := 7) (k := 27) (j := 185) dX7_height_19 sh_163 (Nat.le_of_ble_eq_true rfl) rfl inX7 (Nat.le_of_ble_eq_true rfl) rfl fl_RX7_74 ?_
    refine vJ.iload_n dX7_height_22 rfl rfl ?_
    obtain ⟨hb4, h⟩ := h
    refine vJ.iald dX7_height_23 sh_185 (Nat.le_of_ble_eq_true rfl) hb4 ?_
    exact vJ.ireturn dX7_height_24 rfl rfl rfl ⟨rfl, _, rfl, h⟩
  · replace h := h.1 hc5
    refine vJ.iconst dX7_height_8 ci_m1 ?_
    exact vJ.ireturn dX7_height_9 rfl rfl rfl ⟨rfl, _, rfl, h⟩
def EI_X7_height (l1 : Int32) (m : vM) (P : Int32 → vM → Prop) : Prop := Ev mX7_height 2 53 197 [.ref 163, .int l1] 197 SH m (vPi P)
theorem f_X7_height {l1 : Int32} {m : vM} {P : Int32 → vM → Prop} (h : J_X7_height_0 l1 m P) : EI_X7_height l1 m P := Ev.of pn_X7_height (Nat.le_of_ble_eq_true rfl) h
theorem e_X7_height {l1 : Int32} {m : vM} {P : Int32 → vM → Prop}  (h : wp_X7_height l1 m P) : EI_X7_height l1 m P := f_X7_height (b_X7_height  h)
def J_X7_headRows_0  (m : vM) (P : Int32 → vM → Prop) : Prop := vJ mX7_headRows 2 46 197 none 0 [(0, .ref 163)] [] 197 SH m (vPi P)
def J_X7_headRows_6 (l1 : Int32) (l2 : Int32) (l3 : Int32) (m : vM) (P : Int32 → vM → Prop) : Prop := vJ mX7_headRows 2 46 197 none 6 [(0, .ref 163), (1, .int l1), (2, .int l2), (3, .int l3)] [] 197 SH m (vPi P)
def wp_X7_headRows_0  (m : vM) (P : Int32 → vM → Prop) : Prop :=
  J_X7_headRows_6 (0 : Int32) (1 : Int32) (0 : Int32) m P
set_option maxRecDepth 20000 in
set_option maxHeartbeats 4000000 in
theorem b_X7_headRows_0  {m : vM} {P : Int32 → vM → Prop}  (h : wp_X7_headRows_0  m P) : J_X7_headRows_0  m P := by
  show vJ mX7_headRows 2 46 197 none 0 [(0, .ref 163)] [] 197 SH m (vPi P)
  unfold wp_X7_headRows_0 at h
  refine vJ.iconst dX7_headRows_0 ci_0 ?_
  refine vJ.istore_n (ls2 := [(0, .ref 163), (1, .int (0 : Int32))]) dX7_headRows_1 rfl (Nat.le_of_ble_eq_true rfl) rfl ?_
  refine vJ.iconst dX7_headRows_2 ci_1 ?_
  refine vJ.istore_n (ls2 := [(0, .ref 163), (1, .int (0 : Int32)), (2, .int (1 : Int32))]) dX7_headRows_3 rfl (Nat.le_of_ble_eq_true rfl) rfl ?_
  refine vJ.iconst dX7_headRows_4 ci_0 ?_
  refine vJ.istore_n (ls2 := [(0, .ref 163), (1, .int (0 : Int32)), (2, .int (1 : Int32)), (3, .int (0 : Int32))]) dX7_headRows_5 rfl (Nat.le_of_ble_eq_true rfl) rfl ?_
  exact h
def EI_X7_headRows  (m : vM) (P : Int32 → vM → Prop) : Prop := Ev mX7_headRows 2 46 197 [.ref 163] 197 SH m (vPi P)
theorem f_X7_headRows  {m : vM} {P : Int32 → vM → Prop} (h : J_X7_headRows_0  m P) : EI_X7_headRows  m P := Ev.of pn_X7_headRows (Nat.le_of_ble_eq_true rfl) h
def J_X7_headRows_23 (l1 : Int32) (l2 : Int32) (l3 : Int32) (l4 : Int32) (m : vM) (P : Int32 → vM → Prop) : Prop := vJ mX7_headRows 2 46 197 none 23 [(0, .ref 163), (1, .int l1), (2, .int l2), (3, .int l3), (4, .int l4)] [] 197 SH m (vPi P)
def wp_X7_headRows_6 (l1 : Int32) (l2 : Int32) (l3 : Int32) (m : vM) (P : Int32 → vM → Prop) : Prop :=
  (((m.1 163 2) ≤ l3 →
    P l1 m) ∧
  (¬ (m.1 163 2) ≤ l3 →
    ((l2 = (0 : Int32) →
      P l1 m) ∧
    (¬ l2 = (0 : Int32) →
      J_X7_headRows_23 l1 (0 : Int32) l3 (0 : Int32) m P))))
set_option maxRecDepth 20000 in
set_option maxHeartbeats 4000000 in
theorem b_X7_headRows_6 {l1 : Int32} {l2 : Int32} {l3 : Int32} {m : vM} {P : Int32 → vM → Prop}  (h : wp_X7_headRows_6 l1 l2 l3 m P) : J_X7_headRows_6 l1 l2 l3 m P := by
  show vJ mX7_headRows 2 46 197 none 6 [(0, .ref 163), (1, .int l1), (2, .int l2), (3, .int l3)] [] 197 SH m (vPi P)
  unfold wp_X7_headRows_6 at h
  refine vJ.iload_n dX7_headRows_6 rfl rfl ?_
  refine vJ.aload_n dX7_headRows_7 rfl rfl ?_
  refine vJ.getI (ci := 7) (k := 2) dX7_headRows_8 sh_163 (Nat.le_of_ble_eq_true rfl) rfl inX7 (Nat.le_of_ble_eq_true rfl) rfl fl_RX7_123 ?_
  refine vJ.icmp_ge (tgt := 93) dX7_headRows_11 (by decide) (fun hc2 => ?_) (fun hc2 => ?_)
  · replace h := h.1 hc2
    refine vJ.iload_n dX7_headRows_93 rfl rfl ?_
    exact vJ.ireturn dX7_headRows_94 rfl rfl rfl ⟨rfl, _, rfl, h⟩
  · replace h := h.2 hc2
    refine vJ.iload_n dX7_headRows_14 rfl rfl ?_
    refine vJ.if_eq (tgt := 93) dX7_headRows_15 (by decide) (fun hc1 => ?_) (fun hc1 => ?_)
    · replace h := h.1 hc1
      refine vJ.iload_n dX7_headRows_93 rfl rfl ?_
      exact vJ.ireturn dX7_headRows_94 rfl rfl rfl ⟨rfl, _, rfl, h⟩
    · replace h := h.2 hc1
      refine vJ.iconst dX7_headRows_18 ci_0 ?_
      refine vJ.istore_n (ls2 := [(0, .ref 163), (1, .int l1), (2, .int (0 : Int32)), (3, .int l3)]) dX7_headRows_19 rfl (Nat.le_of_ble_eq_true rfl) rfl ?_
      refine vJ.iconst dX7_headRows_20 ci_0 ?_
      refine vJ.istore (ls2 := [(0, .ref 163), (1, .int l1), (2, .int (0 : Int32)), (3, .int l3), (4, .int (0 : Int32))]) dX7_headRows_21 (Nat.le_of_ble_eq_true rfl) rfl ?_
      exact h
def wp_X7_headRows_23 (l1 : Int32) (l2 : Int32) (l3 : Int32) (l4 : Int32) (m : vM) (P : Int32 → vM → Prop) : Prop :=
  (((m.1 163 3) ≤ l4 →
    ((l2 = (0 : Int32) →
      ∀ v1 : Int32, v1 = (l1 + (0 : Int32)) →
      J_X7_headRows_6 v1 l2 (l3 + (1 : Int32)) m P) ∧
    (¬ l2 = (0 : Int32) →
      ∀ v2 : Int32, v2 = (l1 + (1 : Int32)) →
      J_X7_headRows_6 v2 l2 (l3 + (1 : Int32)) m P))) ∧
  (¬ (m.1 163 3) ≤ l4 →
    EI_X7_cellOn l3 l4 m (fun r5 m4 =>
      ((l2 = (0 : Int32) →
        ((r5 = (-9 : Int32) →
          J_X7_headRows_23 l1 (0 : Int32) l3 (l4 + (1 : Int32)) m4 P) ∧
        (¬ r5 = (-9 : Int32) →
          vp_in r5 40 ∧
          (((m4.1 167 (Int32.toNatClampNeg r5)) = (1 : Int32) →
            J_X7_headRows_23 l1 (1 : Int32) l3 (l4 + (1 : Int32)) m4 P) ∧
          (¬ (m4.1 167 (Int32.toNatClampNeg r5)) = (1 : Int32) →
            J_X7_headRows_23 l1 (0 : Int32) l3 (l4 + (1 : Int32)) m4 P))))) ∧
      (¬ l2 = (0 : Int32) →
        J_X7_headRows_23 l1 (1 : Int32) l3 (l4 + (1 : Int32)) m4 P)))))
set_option maxRecDepth 20000 in
set_option maxHeartbeats 4000000 in
theorem b_X7_headRows_23 {l1 : Int32} {l2 : Int32} {l3 : Int32} {l4 : Int32} {m : vM} {P : Int32 → vM → Prop}  (h : wp_X7_headRows_23 l1 l2 l3 l4 m P) : J_X7_headRows_23 l1 l2 l3 l4 m P := by
  show vJ mX7_headRows 2 46 197 none 23 [(0, .ref 163), (1, .int l1), (2, .int l2), (3, .int l3), (4, .int l4)] [] 197 SH m (vPi P)
  unfold wp_X7_headRows_23 at h
  refine vJ.iload dX7_headRows_23 rfl ?_
  refine vJ.aload_n dX7_headRows_25 rfl rfl ?_
  refine vJ.getI (ci := 7) (k := 3) dX7_headRows_26 sh_163 (Nat.le_of_ble_eq_true rfl) rfl inX7 (Nat.le_of_ble_eq_true rfl) rfl fl_RX7_126 ?_
  refine vJ.icmp_ge (tgt := 75) dX7_headRows_29 (by decide) (fun hc10 => ?_) (fun hc10 => ?_)
  · replace h := h.1 hc10
    refine vJ.iload_n dX7_headRows_75 rfl rfl ?_
    refine vJ.iload_n dX7_headRows_76 rfl rfl ?_
    refine vJ.if_eq (tgt := 84) dX7_headRows_77 (by decide) (fun hc3 => ?_) (fun hc3 => ?_)
    · replace h := h.1 hc3
      refine vJ.iconst dX7_headRows_84 ci_0 ?_
      refine vJ.iadd dX7_headRows_85 ?_
      refine vJ.topi (fun v1 ev1 => ?_)
      replace h := h v1 ev1
      refine vJ.istore_n (ls2 := [(0, .ref 163), (1, .int v1), (2, .int l2), (3, .int l3), (4, .int l4)]) dX7_headRows_86 rfl (Nat.le_of_ble_eq_true rfl) rfl ?_
      refine vJ.iinc (v := l3 + (1 : Int32)) (ls2 := [(0, .ref 163), (1, .int v1), (2, .int l2), (3, .int (l3 + (1 : Int32))), (4, .int l4)]) dX7_headRows_87 rfl (congrArg (l3 + ·) ci_1) (Nat.le_of_ble_eq_true rfl) rfl ?_
      refine vJ.goto (tgt := 6) dX7_headRows_90 (by decide) ?_
      refine vJ.sub [0, 1, 2, 3] rfl ?_
      exact h
    · replace h := h.2 hc3
      refine vJ.iconst dX7_headRows_80 ci_1 ?_
      refine vJ.goto (tgt := 85) dX7_headRows_81 (by decide) ?_
      refine vJ.iadd dX7_headRows_85 ?_
      refine vJ.topi (fun v2 ev2 => ?_)
      replace h := h v2 ev2
      refine vJ.istore_n (ls2 := [(0, .ref 163), (1, .int v2), (2, .int l2), (3, .int l3), (4, .int l4)]) dX7_headRows_86 rfl (Nat.le_of_ble_eq_true rfl) rfl ?_
      refine vJ.iinc (v := l3 + (1 : Int32)) (ls2 := [(0, .ref 163), (1, .int v2), (2, .int l2), (3, .int (l3 + (1 : Int32))), (4, .int l4)]) dX7_headRows_87 rfl (congrArg (l3 + ·) ci_1) (Nat.le_of_ble_eq_true rfl) rfl ?_
      refine vJ.goto (tgt := 6) dX7_headRows_90 (by decide) ?_
      refine vJ.sub [0, 1, 2, 3] rfl ?_
      exact h
  · replace h := h.2 hc10
    refine vJ.aload_n dX7_headRows_32 rfl rfl ?_
    refine vJ.iload_n dX7_headRows_33 rfl rfl ?_
    refine vJ.iload dX7_headRows_34 rfl ?_
    refine vJ.callV (ci := 7) (Yc := mX7_cellOn) (frc := 1) (loc := 23) (as := [.int l3, .int l4]) dX7_headRows_36 rfl sh_163 (Nat.le_of_ble_eq_true rfl) rfl ml_RX7_155 im_yX7_cellOn se_yX7_cellOn co_X7_cellOn in_TableSetterModel pl_X7_cellOn (Nat.le_of_ble_eq_true rfl) (Nat.le_of_ble_eq_true rfl) (Nat.le_of_ble_eq_true rfl) ?_
    refine Ev.gi h (fun r5 m4 h => ?_)
    refine vJ.istore (ls2 := [(0, .ref 163), (1, .int l1), (2, .int l2), (3, .int l3), (4, .int l4), (5, .int r5)]) dX7_headRows_39 (Nat.le_of_ble_eq_true rfl) rfl ?_
    refine vJ.iload_n dX7_headRows_41 rfl rfl ?_
    refine vJ.if_ne (tgt := 63) dX7_headRows_42 (by decide) (fun hc9 => ?_) (fun hc9 => ?_)
    · replace h := h.2 hc9
      refine vJ.iconst dX7_headRows_63 ci_1 ?_
      refine vJ.goto (tgt := 68) dX7_headRows_64 (by decide) ?_
      refine vJ.istore_n (ls2 := [(0, .ref 163), (1, .int l1), (2, .int (1 : Int32)), (3, .int l3), (4, .int l4), (5, .int r5)]) dX7_headRows_68 rfl (Nat.le_of_ble_eq_true rfl) rfl ?_
      refine vJ.iinc (v := l4 + (1 : Int32)) (ls2 := [(0, .ref 163), (1, .int l1), (2, .int (1 : Int32)), (3, .int l3), (4, .int (l4 + (1 : Int32))), (5, .int r5)]) dX7_headRows_69 rfl (congrArg (l4 + ·) ci_1) (Nat.le_of_ble_eq_true rfl) rfl ?_
      refine vJ.goto (tgt := 23) dX7_headRows_72 (by decide) ?_
      refine vJ.sub [0, 1, 2, 3, 4] rfl ?_
      exact h
    · replace h := h.1 hc9
      refine vJ.iload dX7_headRows_45 rfl ?_
      refine vJ.bipush dX7_headRows_47 cb_m9 ?_
      refine vJ.icmp_eq (tgt := 67) dX7_headRows_49 (by decide) (fun hc8 => ?_) (fun hc8 => ?_)
      · replace h := h.1 hc8
        refine vJ.iconst dX7_headRows_67 ci_0 ?_
        refine vJ.istore_n (ls2 := [(0, .ref 163), (1, .int l1), (2, .int (0 : Int32)), (3, .int l3), (4, .int l4), (5, .int r5)]) dX7_headRows_68 rfl (Nat.le_of_ble_eq_true rfl) rfl ?_
        refine vJ.iinc (v := l4 + (1 : Int32)) (ls2 := [(0, .ref 163), (1, .int l1), (2, .int (0 : Int32)), (3, .int l3), (4, .int (l4 + (1 : Int32))), (5, .int r5)]) dX7_headRows_69 rfl (congrArg (l4 + ·) ci_1) (Nat.le_of_ble_eq_true rfl) rfl ?_
        refine vJ.goto (tgt := 23) dX7_headRows_72 (by decide) ?_
        refine vJ.sub [0, 1, 2, 3, 4] rfl ?_
        exact h
      · replace h := h.2 hc8
        refine vJ.aload_n dX7_headRows_52 rfl rfl ?_
        refine vJ.getR (ci := 7) (k := 8) (j := 167) dX7_headRows_53 sh_163 (Nat.le_of_ble_eq_true rfl) rfl inX7 (Nat.le_of_ble_eq_true rfl) rfl fl_RX7_19 ?_
        refine vJ.iload dX7_headRows_56 rfl ?_
        obtain ⟨hb6, h⟩ := h
        refine vJ.iald dX7_headRows_58 sh_167 (Nat.le_of_ble_eq_true rfl) hb6 ?_
        refine vJ.iconst dX7_headRows_59 ci_1 ?_
        refine vJ.icmp_ne (tgt := 67) dX7_headRows_60 (by decide) (fun hc7 => ?_) (fun hc7 => ?_)
        · replace h := h.2 hc7
          refine vJ.iconst dX7_headRows_67 ci_0 ?_
          refine vJ.istore_n (ls2 := [(0, .ref 163), (1, .int l1), (2, .int (0 : Int32)), (3, .int l3), (4, .int l4), (5, .int r5)]) dX7_headRows_68 rfl (Nat.le_of_ble_eq_true rfl) rfl ?_
          refine vJ.iinc (v := l4 + (1 : Int32)) (ls2 := [(0, .ref 163), (1, .int l1), (2, .int (0 : Int32)), (3, .int l3), (4, .int (l4 + (1 : Int32))), (5, .int r5)]) dX7_headRows_69 rfl (congrArg (l4 + ·) ci_1) (Nat.le_of_ble_eq_true rfl) rfl ?_
          refine vJ.goto (tgt := 23) dX7_headRows_72 (by decide) ?_
          refine vJ.sub [0, 1, 2, 3, 4] rfl ?_
          exact h
        · replace h := h.1 hc7
          refine vJ.iconst dX7_headRows_63 ci_1 ?_
          refine vJ.goto (tgt := 68) dX7_headRows_64 (by decide) ?_
          refine vJ.istore_n (ls2 := [(0, .ref 163), (1, .int l1), (2, .int (1 : Int32)), (3, .int l3), (4, .int l4), (5, .int r5)]) dX7_headRows_68 rfl (Nat.le_of_ble_eq_true rfl) rfl ?_
          refine vJ.iinc (v := l4 + (1 : Int32)) (ls2 := [(0, .ref 163), (1, .int l1), (2, .int (1 : Int32)), (3, .int l3), (4, .int (l4 + (1 : Int32))), (5, .int r5)]) dX7_headRows_69 rfl (congrArg (l4 + ·) ci_1) (Nat.le_of_ble_eq_true rfl) rfl ?_
          refine vJ.goto (tgt := 23) dX7_headRows_72 (by decide) ?_
          refine vJ.sub [0, 1, 2, 3, 4] rfl ?_
          exact h
def J_X7_mayBreakAt_0 (l1 : Int32) (m : vM) (P : Int32 → vM → Prop) : Prop := vJ mX7_mayBreakAt 3 71 197 none 0 [(0, .ref 163), (1, .int l1)] [] 197 SH m (vPi P)
def J_X7_mayBreakAt_14 (l1 : Int32) (l2 : Int32) (l3 : Int32) (m : vM) (P : Int32 → vM → Prop) : Prop := vJ mX7_mayBreakAt 3 71 197 none 14 [(0, .ref 163), (1, .int l1), (2, .int l2), (3, .int l3)] [] 197 SH m (vPi P)
def wp_X7_mayBreakAt_0 (l1 : Int32) (m : vM) (P : Int32 → vM → Prop) : Prop :=
  EI_X7_headRows m (fun r2 m1 =>
    ((r2 < l1 →
      J_X7_mayBreakAt_14 l1 (1 : Int32) (0 : Int32) m1 P) ∧
    (¬ r2 < l1 →
      P (0 : Int32) m1)))
set_option maxRecDepth 20000 in
set_option maxHeartbeats 4000000 in
theorem b_X7_mayBreakAt_0 {l1 : Int32} {m : vM} {P : Int32 → vM → Prop}  (h : wp_X7_mayBreakAt_0 l1 m P) : J_X7_mayBreakAt_0 l1 m P := by
  show vJ mX7_mayBreakAt 3 71 197 none 0 [(0, .ref 163), (1, .int l1)] [] 197 SH m (vPi P)
  unfold wp_X7_mayBreakAt_0 at h
  refine vJ.iload_n dX7_mayBreakAt_0 rfl rfl ?_
  refine vJ.aload_n dX7_mayBreakAt_1 rfl rfl ?_
  refine vJ.callV (ci := 7) (Yc := mX7_headRows) (frc := 2) (loc := 46) (as := []) dX7_mayBreakAt_2 rfl sh_163 (Nat.le_of_ble_eq_true rfl) rfl ml_RX7_213 im_yX7_headRows se_yX7_headRows co_X7_headRows in_TableSetterModel pl_X7_headRows (Nat.le_of_ble_eq_true rfl) (Nat.le_of_ble_eq_true rfl) (Nat.le_of_ble_eq_true rfl) ?_
  refine Ev.gi h (fun r2 m1 h => ?_)
  refine vJ.icmp_gt (tgt := 10) dX7_mayBreakAt_5 (by decide) (fun hc3 => ?_) (fun hc3 => ?_)
  · replace h := h.1 hc3
    refine vJ.iconst dX7_mayBreakAt_10 ci_1 ?_
    refine vJ.istore_n (ls2 := [(0, .ref 163), (1, .int l1), (2, .int (1 : Int32))]) dX7_mayBreakAt_11 rfl (Nat.le_of_ble_eq_true rfl) rfl ?_
    refine vJ.iconst dX7_mayBreakAt_12 ci_0 ?_
    refine vJ.istore_n (ls2 := [(0, .ref 163), (1, .int l1), (2, .int (1 : Int32)), (3, .int (0 : Int32))]) dX7_mayBreakAt_13 rfl (Nat.le_of_ble_eq_true rfl) rfl ?_
    exact h
  · replace h := h.2 hc3
    refine vJ.iconst dX7_mayBreakAt_8 ci_0 ?_
    exact vJ.ireturn dX7_mayBreakAt_9 rfl (by decide) rfl ⟨rfl, _, rfl, h⟩
def EI_X7_mayBreakAt (l1 : Int32) (m : vM) (P : Int32 → vM → Prop) : Prop := Ev mX7_mayBreakAt 3 71 197 [.ref 163, .int l1] 197 SH m (vPi P)
theorem f_X7_mayBreakAt {l1 : Int32} {m : vM} {P : Int32 → vM → Prop} (h : J_X7_mayBreakAt_0 l1 m P) : EI_X7_mayBreakAt l1 m P := Ev.of pn_X7_mayBreakAt (Nat.le_of_ble_eq_true rfl) h
def wp_X7_mayBreakAt_14 (l1 : Int32) (l2 : Int32) (l3 : Int32) (m : vM) (P : Int32 → vM → Prop) : Prop :=
  (((m.1 163 3) ≤ l3 →
    (l2 &&& 1 = l2) ∧
    P l2 m) ∧
  (¬ (m.1 163 3) ≤ l3 →
    ((l2 = (0 : Int32) →
      (l2 &&& 1 = l2) ∧
      P l2 m) ∧
    (¬ l2 = (0 : Int32) →
      EI_X7_cellOn l1 l3 m (fun r4 m3 =>
        ((r4 = (-9 : Int32) →
          J_X7_mayBreakAt_14 l1 (1 : Int32) (l3 + (1 : Int32)) m3 P) ∧
        (¬ r4 = (-9 : Int32) →
          vp_in r4 40 ∧
          (((m3.1 167 (Int32.toNatClampNeg r4)) = (3 : Int32) →
            J_X7_mayBreakAt_14 l1 (1 : Int32) (l3 + (1 : Int32)) m3 P) ∧
          (¬ (m3.1 167 (Int32.toNatClampNeg r4)) = (3 : Int32) →
            EI_X7_cellOn (l1 - (1 : Int32)) l3 m3 (fun r7 m6 =>
              ((r7 = r4 →
                J_X7_mayBreakAt_14 l1 (0 : Int32) (l3 + (1 : Int32)) m6 P) ∧
              (¬ r7 = r4 →
                J_X7_mayBreakAt_14 l1 (1 : Int32) (l3 + (1 : Int32)) m6 P))))))))))))
set_option maxRecDepth 20000 in
set_option maxHeartbeats 4000000 in
theorem b_X7_mayBreakAt_14 {l1 : Int32} {l2 : Int32} {l3 : Int32} {m : vM} {P : Int32 → vM → Prop}  (h : wp_X7_mayBreakAt_14 l1 l2 l3 m P) : J_X7_mayBreakAt_14 l1 l2 l3 m P := by
  show vJ mX7_mayBreakAt 3 71 197 none 14 [(0, .ref 163), (1, .int l1), (2, .int l2), (3, .int l3)] [] 197 SH m (vPi P)
  unfold wp_X7_mayBreakAt_14 at h
  refine vJ.iload_n dX7_mayBreakAt_14 rfl rfl ?_
  refine vJ.aload_n dX7_mayBreakAt_15 rfl rfl ?_
  refine vJ.getI (ci := 7) (k := 3) dX7_mayBreakAt_16 sh_163 (Nat.le_of_ble_eq_true rfl) rfl inX7 (Nat.le_of_ble_eq_true rfl) rfl fl_RX7_126 ?_
  refine vJ.icmp_ge (tgt := 77) dX7_mayBreakAt_19 (by decide) (fun hc12 => ?_) (fun hc12 => ?_)
  · replace h := h.1 hc12
    refine vJ.iload_n dX7_mayBreakAt_77 rfl rfl ?_
    obtain ⟨hn1, h⟩ := h
    exact vJ.ireturn dX7_mayBreakAt_78 rfl (congrArg Value.int hn1) rfl ⟨rfl, _, rfl, h⟩
  · replace h := h.2 hc12
    refine vJ.iload_n dX7_mayBreakAt_22 rfl rfl ?_
    refine vJ.if_eq (tgt := 77) dX7_mayBreakAt_23 (by decide) (fun hc11 => ?_) (fun hc11 => ?_)
    · replace h := h.1 hc11
      refine vJ.iload_n dX7_mayBreakAt_77 rfl rfl ?_
      obtain ⟨hn2, h⟩ := h
      exact vJ.ireturn dX7_mayBreakAt_78 rfl (congrArg Value.int hn2) rfl ⟨rfl, _, rfl, h⟩
    · replace h := h.2 hc11
      refine vJ.aload_n dX7_mayBreakAt_26 rfl rfl ?_
      refine vJ.iload_n dX7_mayBreakAt_27 rfl rfl ?_
      refine vJ.iload_n dX7_mayBreakAt_28 rfl rfl ?_
      refine vJ.callV (ci := 7) (Yc := mX7_cellOn) (frc := 1) (loc := 23) (as := [.int l1, .int l3]) dX7_mayBreakAt_29 rfl sh_163 (Nat.le_of_ble_eq_true rfl) rfl ml_RX7_155 im_yX7_cellOn se_yX7_cellOn co_X7_cellOn in_TableSetterModel pl_X7_cellOn (Nat.le_of_ble_eq_true rfl) (Nat.le_of_ble_eq_true rfl) (Nat.le_of_ble_eq_true rfl) ?_
      refine Ev.gi h (fun r4 m3 h => ?_)
      refine vJ.istore (ls2 := [(0, .ref 163), (1, .int l1), (2, .int l2), (3, .int l3), (4, .int r4)]) dX7_mayBreakAt_32 (Nat.le_of_ble_eq_true rfl) rfl ?_
      refine vJ.iload dX7_mayBreakAt_34 rfl ?_
      refine vJ.bipush dX7_mayBreakAt_36 cb_m9 ?_
      refine vJ.icmp_eq (tgt := 65) dX7_mayBreakAt_38 (by decide) (fun hc10 => ?_) (fun hc10 => ?_)
      · replace h := h.1 hc10
        refine vJ.iconst dX7_mayBreakAt_65 ci_1 ?_
        refine vJ.goto (tgt := 70) dX7_mayBreakAt_66 (by decide) ?_
        refine vJ.istore_n (ls2 := [(0, .ref 163), (1, .int l1), (2, .int (1 : Int32)), (3, .int l3), (4, .int r4)]) dX7_mayBreakAt_70 rfl (Nat.le_of_ble_eq_true rfl) rfl ?_
        refine vJ.iinc (v := l3 + (1 : Int32)) (ls2 := [(0, .ref 163), (1, .int l1), (2, .int (1 : Int32)), (3, .int (l3 + (1 : Int32))), (4, .int r4)]) dX7_mayBreakAt_71 rfl (congrArg (l3 + ·) ci_1) (Nat.le_of_ble_eq_true rfl) rfl ?_
        refine vJ.goto (tgt := 14) dX7_mayBreakAt_74 (by decide) ?_
        refine vJ.sub [0, 1, 2, 3] rfl ?_
        exact h
      · replace h := h.2 hc10
        refine vJ.aload_n dX7_mayBreakAt_41 rfl rfl ?_
        refine vJ.getR (ci := 7) (k := 8) (j := 167) dX7_mayBreakAt_42 sh_163 (Nat.le_of_ble_eq_true rfl) rfl inX7 (Nat.le_of_ble_eq_true rfl) rfl fl_RX7_19 ?_
        refine vJ.iload dX7_mayBreakAt_45 rfl ?_
        obtain ⟨hb5, h⟩ := h
        refine vJ.iald dX7_mayBreakAt_47 sh_167 (Nat.le_of_ble_eq_true rfl) hb5 ?_
        refine vJ.iconst dX7_mayBreakAt_48 ci_3 ?_
        refine vJ.icmp_eq (tgt := 65) dX7_mayBreakAt_49 (by decide) (fun hc9 => ?_) (fun hc9 => ?_)
        · replace h := h.1 hc9
          refine vJ.iconst dX7_mayBreakAt_65 ci_1 ?_
          refine vJ.goto (tgt := 70) dX7_mayBreakAt_66 (by decide) ?_
          refine vJ.istore_n (ls2 := [(0, .ref 163), (1, .int l1), (2, .int (1 : Int32)), (3, .int l3), (4, .int r4)]) dX7_mayBreakAt_70 rfl (Nat.le_of_ble_eq_true rfl) rfl ?_
          refine vJ.iinc (v := l3 + (1 : Int32)) (ls2 := [(0, .ref 163), (1, .int l1), (2, .int (1 : Int32)), (3, .int (l3 + (1 : Int32))), (4, .int r4)]) dX7_mayBreakAt_71 rfl (congrArg (l3 + ·) ci_1) (Nat.le_of_ble_eq_true rfl) rfl ?_
          refine vJ.goto (tgt := 14) dX7_mayBreakAt_74 (by decide) ?_
          refine vJ.sub [0, 1, 2, 3] rfl ?_
          exact h
        · replace h := h.2 hc9
          refine vJ.aload_n dX7_mayBreakAt_52 rfl rfl ?_
          refine vJ.iload_n dX7_mayBreakAt_53 rfl rfl ?_
          refine vJ.iconst dX7_mayBreakAt_54 ci_1 ?_
          refine vJ.isub dX7_mayBreakAt_55 ?_
          refine vJ.iload_n dX7_mayBreakAt_56 rfl rfl ?_
          refine vJ.callV (ci := 7) (Yc := mX7_cellOn) (frc := 1) (loc := 23) (as := [.int (l1 - (1 : Int32)), .int l3]) dX7_mayBreakAt_57 rfl sh_163 (Nat.le_of_ble_eq_true rfl) rfl ml_RX7_155 im_yX7_cellOn se_yX7_cellOn co_X7_cellOn in_TableSetterModel pl_X7_cellOn (Nat.le_of_ble_eq_true rfl) (Nat.le_of_ble_eq_true rfl) (Nat.le_of_ble_eq_true rfl) ?_
          refine Ev.gi h (fun r7 m6 h => ?_)
          refine vJ.iload dX7_mayBreakAt_60 rfl ?_
          refine vJ.icmp_eq (tgt := 69) dX7_mayBreakAt_62 (by decide) (fun hc8 => ?_) (fun hc8 => ?_)
          · replace h := h.1 hc8
            refine vJ.iconst dX7_mayBreakAt_69 ci_0 ?_
            refine vJ.istore_n (ls2 := [(0, .ref 163), (1, .int l1), (2, .int (0 : Int32)), (3, .int l3), (4, .int r4)]) dX7_mayBreakAt_70 rfl (Nat.le_of_ble_eq_true rfl) rfl ?_
            refine vJ.iinc (v := l3 + (1 : Int32)) (ls2 := [(0, .ref 163), (1, .int l1), (2, .int (0 : Int32)), (3, .int (l3 + (1 : Int32))), (4, .int r4)]) dX7_mayBreakAt_71 rfl (congrArg (l3 + ·) ci_1) (Nat.le_of_ble_eq_true rfl) rfl ?_
            refine vJ.goto (tgt := 14) dX7_mayBreakAt_74 (by decide) ?_
            refine vJ.sub [0, 1, 2, 3] rfl ?_
            exact h
          · replace h := h.2 hc8
            refine vJ.iconst dX7_mayBreakAt_65 ci_1 ?_
            refine vJ.goto (tgt := 70) dX7_mayBreakAt_66 (by decide) ?_
            refine vJ.istore_n (ls2 := [(0, .ref 163), (1, .int l1), (2, .int (1 : Int32)), (3, .int l3), (4, .int r4)]) dX7_mayBreakAt_70 rfl (Nat.le_of_ble_eq_true rfl) rfl ?_
            refine vJ.iinc (v := l3 + (1 : Int32)) (ls2 := [(0, .ref 163), (1, .int l1), (2, .int (1 : Int32)), (3, .int (l3 + (1 : Int32))), (4, .int r4)]) dX7_mayBreakAt_71 rfl (congrArg (l3 + ·) ci_1) (Nat.le_of_ble_eq_true rfl) rfl ?_
            refine vJ.goto (tgt := 14) dX7_mayBreakAt_74 (by decide) ?_
            refine vJ.sub [0, 1, 2, 3] rfl ?_
            exact h
def J_X7_mayBreak_0 (l1 : Int32) (m : vM) (P : Int32 → vM → Prop) : Prop := vJ mX7_mayBreak 4 95 197 none 0 [(0, .ref 163), (1, .int l1)] [] 197 SH m (vPi P)
def wp_X7_mayBreak (l1 : Int32) (m : vM) (P : Int32 → vM → Prop) : Prop :=
  wp_X7_isRow l1 m (fun r2 m1 =>
    ((r2 = (0 : Int32) →
      P (-1 : Int32) m1) ∧
    (¬ r2 = (0 : Int32) →
      EI_X7_mayBreakAt l1 m1 (fun r4 m3 =>
        ((r4 = (0 : Int32) →
          P (0 : Int32) m3) ∧
        (¬ r4 = (0 : Int32) →
          P (1 : Int32) m3))))))
set_option maxRecDepth 20000 in
set_option maxHeartbeats 4000000 in
theorem b_X7_mayBreak {l1 : Int32} {m : vM} {P : Int32 → vM → Prop}  (h : wp_X7_mayBreak l1 m P) : J_X7_mayBreak_0 l1 m P := by
  show vJ mX7_mayBreak 4 95 197 none 0 [(0, .ref 163), (1, .int l1)] [] 197 SH m (vPi P)
  unfold wp_X7_mayBreak at h
  refine vJ.aload_n dX7_mayBreak_0 rfl rfl ?_
  refine vJ.iload_n dX7_mayBreak_1 rfl rfl ?_
  refine vJ.callV (ci := 7) (Yc := mX7_isRow) (frc := 1) (loc := 22) (as := [.int l1]) dX7_mayBreak_2 rfl sh_163 (Nat.le_of_ble_eq_true rfl) rfl ml_RX7_148 im_yX7_isRow se_yX7_isRow co_X7_isRow in_TableSetterModel pl_X7_isRow (Nat.le_of_ble_eq_true rfl) (Nat.le_of_ble_eq_true rfl) (Nat.le_of_ble_eq_true rfl) ?_
  refine Ev.gi (e_X7_isRow  h) (fun r2 m1 h => ?_)
  refine vJ.if_eq (tgt := 24) dX7_mayBreak_5 (by decide) (fun hc6 => ?_) (fun hc6 => ?_)
  · replace h := h.1 hc6
    refine vJ.iconst dX7_mayBreak_24 ci_m1 ?_
    exact vJ.ireturn dX7_mayBreak_25 rfl rfl rfl ⟨rfl, _, rfl, h⟩
  · replace h := h.2 hc6
    refine vJ.aload_n dX7_mayBreak_8 rfl rfl ?_
    refine vJ.iload_n dX7_mayBreak_9 rfl rfl ?_
    refine vJ.callV (ci := 7) (Yc := mX7_mayBreakAt) (frc := 3) (loc := 71) (as := [.int l1]) dX7_mayBreak_10 rfl sh_163 (Nat.le_of_ble_eq_true rfl) rfl ml_RX7_217 im_yX7_mayBreakAt se_yX7_mayBreakAt co_X7_mayBreakAt in_TableSetterModel pl_X7_mayBreakAt (Nat.le_of_ble_eq_true rfl) (Nat.le_of_ble_eq_true rfl) (Nat.le_of_ble_eq_true rfl) ?_
    refine Ev.gi h (fun r4 m3 h => ?_)
    refine vJ.if_eq (tgt := 20) dX7_mayBreak_13 (by decide) (fun hc5 => ?_) (fun hc5 => ?_)
    · replace h := h.1 hc5
      refine vJ.iconst dX7_mayBreak_20 ci_0 ?_
      refine vJ.goto (tgt := 25) dX7_mayBreak_21 (by decide) ?_
      exact vJ.ireturn dX7_mayBreak_25 rfl rfl rfl ⟨rfl, _, rfl, h⟩
    · replace h := h.2 hc5
      refine vJ.iconst dX7_mayBreak_16 ci_1 ?_
      refine vJ.goto (tgt := 25) dX7_mayBreak_17 (by decide) ?_
      exact vJ.ireturn dX7_mayBreak_25 rfl rfl rfl ⟨rfl, _, rfl, h⟩
def EI_X7_mayBreak (l1 : Int32) (m : vM) (P : Int32 → vM → Prop) : Prop := Ev mX7_mayBreak 4 95 197 [.ref 163, .int l1] 197 SH m (vPi P)
theorem f_X7_mayBreak {l1 : Int32} {m : vM} {P : Int32 → vM → Prop} (h : J_X7_mayBreak_0 l1 m P) : EI_X7_mayBreak l1 m P := Ev.of pn_X7_mayBreak (Nat.le_of_ble_eq_true rfl) h
theorem e_X7_mayBreak {l1 : Int32} {m : vM} {P : Int32 → vM → Prop}  (h : wp_X7_mayBreak l1 m P) : EI_X7_mayBreak l1 m P := f_X7_mayBreak (b_X7_mayBreak  h)
def J_X7_homeOf_0 (l1 : Int32) (l2 : Int32) (m : vM) (P : Int32 → vM → Prop) : Prop := vJ mX7_homeOf 0 0 197 none 0 [(0, .ref 163), (1, .int l1), (2, .int l2)] [] 197 SH m (vPi P)
def J_X7_homeOf_6 (l1 : Int32) (l2 : Int32) (l3 : Int32) (l4 : Int32) (m : vM) (P : Int32 → vM → Prop) : Prop := vJ mX7_homeOf 0 0 197 none 6 [(0, .ref 163), (1, .int l1), (2, .int l2), (3, .int l3), (4, .int l4)] [] 197 SH m (vPi P)
def wp_X7_homeOf_0 (l1 : Int32) (l2 : Int32) (m : vM) (P : Int32 → vM → Prop) : Prop :=
  J_X7_homeOf_6 l1 l2 (-9 : Int32) (0 : Int32) m P
set_option maxRecDepth 20000 in
set_option maxHeartbeats 4000000 in
theorem b_X7_homeOf_0 {l1 : Int32} {l2 : Int32} {m : vM} {P : Int32 → vM → Prop}  (h : wp_X7_homeOf_0 l1 l2 m P) : J_X7_homeOf_0 l1 l2 m P := by
  show vJ mX7_homeOf 0 0 197 none 0 [(0, .ref 163), (1, .int l1), (2, .int l2)] [] 197 SH m (vPi P)
  unfold wp_X7_homeOf_0 at h
  refine vJ.bipush dX7_homeOf_0 cb_m9 ?_
  refine vJ.istore_n (ls2 := [(0, .ref 163), (1, .int l1), (2, .int l2), (3, .int (-9 : Int32))]) dX7_homeOf_2 rfl (Nat.le_of_ble_eq_true rfl) rfl ?_
  refine vJ.iconst dX7_homeOf_3 ci_0 ?_
  refine vJ.istore (ls2 := [(0, .ref 163), (1, .int l1), (2, .int l2), (3, .int (-9 : Int32)), (4, .int (0 : Int32))]) dX7_homeOf_4 (Nat.le_of_ble_eq_true rfl) rfl ?_
  exact h
def EI_X7_homeOf (l1 : Int32) (l2 : Int32) (m : vM) (P : Int32 → vM → Prop) : Prop := Ev mX7_homeOf 0 0 197 [.ref 163, .int l1, .int l2] 197 SH m (vPi P)
theorem f_X7_homeOf {l1 : Int32} {l2 : Int32} {m : vM} {P : Int32 → vM → Prop} (h : J_X7_homeOf_0 l1 l2 m P) : EI_X7_homeOf l1 l2 m P := Ev.of pn_X7_homeOf (Nat.le_of_ble_eq_true rfl) h
def wp_X7_homeOf_6 (l1 : Int32) (l2 : Int32) (l3 : Int32) (l4 : Int32) (m : vM) (P : Int32 → vM → Prop) : Prop :=
  (((m.1 163 7) ≤ l4 →
    P l3 m) ∧
  (¬ (m.1 163 7) ≤ l4 →
    vp_in l4 40 ∧
    (((m.1 172 (Int32.toNatClampNeg l4)) = (0 : Int32) →
      vp_in l4 40 ∧
      (((((m.1 175 (Int32.toNatClampNeg l4)) >>> (l1 &&& 31)) &&& (1 : Int32)) = (1 : Int32) →
        vp_in l4 40 ∧
        ((l2 ≤ (m.1 168 (Int32.toNatClampNeg l4)) →
          vp_in l4 40 ∧
          ∀ v5 : Int32, v5 = (m.1 168 (Int32.toNatClampNeg l4)) →
          ((l3 = (-9 : Int32) →
            J_X7_homeOf_6 l1 l2 v5 (l4 + (1 : Int32)) m P) ∧
          (¬ l3 = (-9 : Int32) →
            ((l3 ≤ v5 →
              J_X7_homeOf_6 l1 l2 l3 (l4 + (1 : Int32)) m P) ∧
            (¬ l3 ≤ v5 →
              J_X7_homeOf_6 l1 l2 v5 (l4 + (1 : Int32)) m P))))) ∧
        (¬ l2 ≤ (m.1 168 (Int32.toNatClampNeg l4)) →
          ((l3 = (-9 : Int32) →
            J_X7_homeOf_6 l1 l2 l2 (l4 + (1 : Int32)) m P) ∧
          (¬ l3 = (-9 : Int32) →
            ((l3 ≤ l2 →
              J_X7_homeOf_6 l1 l2 l3 (l4 + (1 : Int32)) m P) ∧
            (¬ l3 ≤ l2 →
              J_X7_homeOf_6 l1 l2 l2 (l4 + (1 : Int32)) m P))))))) ∧
      (¬ (((m.1 175 (Int32.toNatClampNeg l4)) >>> (l1 &&& 31)) &&& (1 : Int32)) = (1 : Int32) →
        J_X7_homeOf_6 l1 l2 l3 (l4 + (1 : Int32)) m P))) ∧
    (¬ (m.1 172 (Int32.toNatClampNeg l4)) = (0 : Int32) →
      J_X7_homeOf_6 l1 l2 l3 (l4 + (1 : Int32)) m P))))
set_option maxRecDepth 20000 in
set_option maxHeartbeats 4000000 in
theorem b_X7_homeOf_6 {l1 : Int32} {l2 : Int32} {l3 : Int32} {l4 : Int32} {m : vM} {P : Int32 → vM → Prop}  (h : wp_X7_homeOf_6 l1 l2 l3 l4 m P) : J_X7_homeOf_6 l1 l2 l3 l4 m P := by
  show vJ mX7_homeOf 0 0 197 none 6 [(0, .ref 163), (1, .int l1), (2, .int l2), (3, .int l3), (4, .int l4)] [] 197 SH m (vPi P)
  unfold wp_X7_homeOf_6 at h
  refine vJ.iload dX7_homeOf_6 rfl ?_
  refine vJ.aload_n dX7_homeOf_8 rfl rfl ?_
  refine vJ.getI (ci := 7) (k := 7) dX7_homeOf_9 sh_163 (Nat.le_of_ble_eq_true rfl) rfl inX7 (Nat.le_of_ble_eq_true rfl) rfl fl_RX7_132 ?_
  refine vJ.icmp_ge (tgt := 89) dX7_homeOf_12 (by decide) (fun hc13 => ?_) (fun hc13 => ?_)
  · replace h := h.1 hc13
    refine vJ.iload_n dX7_homeOf_89 rfl rfl ?_
    exact vJ.ireturn dX7_homeOf_90 rfl rfl rfl ⟨rfl, _, rfl, h⟩
  · replace h := h.2 hc13
    refine vJ.aload_n dX7_homeOf_15 rfl rfl ?_
    refine vJ.getR (ci := 7) (k := 13) (j := 172) dX7_homeOf_16 sh_163 (Nat.le_of_ble_eq_true rfl) rfl inX7 (Nat.le_of_ble_eq_true rfl) rfl fl_RX7_34 ?_
    refine vJ.iload dX7_homeOf_19 rfl ?_
    obtain ⟨hb1, h⟩ := h
    refine vJ.zald dX7_homeOf_21 sh_172 (Nat.le_of_ble_eq_true rfl) hb1 ?_
    refine vJ.if_ne (tgt := 83) dX7_homeOf_22 (by decide) (fun hc12 => ?_) (fun hc12 => ?_)
    · replace h := h.2 hc12
      refine vJ.iinc (v := l4 + (1 : Int32)) (ls2 := [(0, .ref 163), (1, .int l1), (2, .int l2), (3, .int l3), (4, .int (l4 + (1 : Int32)))]) dX7_homeOf_83 rfl (congrArg (l4 + ·) ci_1) (Nat.le_of_ble_eq_true rfl) rfl ?_
      refine vJ.goto (tgt := 6) dX7_homeOf_86 (by decide) ?_
      exact h
    · replace h := h.1 hc12
      refine vJ.aload_n dX7_homeOf_25 rfl rfl ?_
      refine vJ.getR (ci := 7) (k := 16) (j := 175) dX7_homeOf_26 sh_163 (Nat.le_of_ble_eq_true rfl) rfl inX7 (Nat.le_of_ble_eq_true rfl) rfl fl_RX7_44 ?_
      refine vJ.iload dX7_homeOf_29 rfl ?_
      obtain ⟨hb2, h⟩ := h
      refine vJ.iald dX7_homeOf_31 sh_175 (Nat.le_of_ble_eq_true rfl) hb2 ?_
      refine vJ.iload_n dX7_homeOf_32 rfl rfl ?_
      refine vJ.ishr dX7_homeOf_33 ?_
      refine vJ.iconst dX7_homeOf_34 ci_1 ?_
      refine vJ.iand dX7_homeOf_35 ?_
      refine vJ.iconst dX7_homeOf_36 ci_1 ?_
      refine vJ.icmp_ne (tgt := 83) dX7_homeOf_37 (by decide) (fun hc11 => ?_) (fun hc11 => ?_)
      · replace h := h.2 hc11
        refine vJ.iinc (v := l4 + (1 : Int32)) (ls2 := [(0, .ref 163), (1, .int l1), (2, .int l2), (3, .int l3), (4, .int (l4 + (1 : Int32)))]) dX7_homeOf_83 rfl (congrArg (l4 + ·) ci_1) (Nat.le_of_ble_eq_true rfl) rfl ?_
        refine vJ.goto (tgt := 6) dX7_homeOf_86 (by decide) ?_
        exact h
      · replace h := h.1 hc11
        refine vJ.aload_n dX7_homeOf_40 rfl rfl ?_
        refine vJ.getR (ci := 7) (k := 9) (j := 168) dX7_homeOf_41 sh_163 (Nat.le_of_ble_eq_true rfl) rfl inX7 (Nat.le_of_ble_eq_true rfl) rfl fl_RX7_22 ?_
        refine vJ.iload dX7_homeOf_44 rfl ?_
        obtain ⟨hb3, h⟩ := h
        refine vJ.iald dX7_homeOf_46 sh_168 (Nat.le_of_ble_eq_true rfl) hb3 ?_
        refine vJ.iload_n dX7_homeOf_47 rfl rfl ?_
        refine vJ.icmp_ge (tgt := 55) dX7_homeOf_48 (by decide) (fun hc10 => ?_) (fun hc10 => ?_)
        · replace h := h.1 hc10
          refine vJ.aload_n dX7_homeOf_55 rfl rfl ?_
          refine vJ.getR (ci := 7) (k := 9) (j := 168) dX7_homeOf_56 sh_163 (Nat.le_of_ble_eq_true rfl) rfl inX7 (Nat.le_of_ble_eq_true rfl) rfl fl_RX7_22 ?_
          refine vJ.iload dX7_homeOf_59 rfl ?_
          obtain ⟨hb4, h⟩ := h
          refine vJ.iald dX7_homeOf_61 sh_168 (Nat.le_of_ble_eq_true rfl) hb4 ?_
          refine vJ.topi (fun v5 ev5 => ?_)
          replace h := h v5 ev5
          refine vJ.istore (ls2 := [(0, .ref 163), (1, .int l1), (2, .int l2), (3, .int l3), (4, .int l4), (5, .int v5)]) dX7_homeOf_62 (Nat.le_of_ble_eq_true rfl) rfl ?_
          refine vJ.iload_n dX7_homeOf_64 rfl rfl ?_
          refine vJ.bipush dX7_homeOf_65 cb_m9 ?_
          refine vJ.icmp_eq (tgt := 76) dX7_homeOf_67 (by decide) (fun hc7 => ?_) (fun hc7 => ?_)
          · replace h := h.1 hc7
            refine vJ.iload dX7_homeOf_76 rfl ?_
            refine vJ.goto (tgt := 82) dX7_homeOf_78 (by decide) ?_
            refine vJ.istore_n (ls2 := [(0, .ref 163), (1, .int l1), (2, .int l2), (3, .int v5), (4, .int l4), (5, .int v5)]) dX7_homeOf_82 rfl (Nat.le_of_ble_eq_true rfl) rfl ?_
            refine vJ.iinc (v := l4 + (1 : Int32)) (ls2 := [(0, .ref 163), (1, .int l1), (2, .int l2), (3, .int v5), (4, .int (l4 + (1 : Int32))), (5, .int v5)]) dX7_homeOf_83 rfl (congrArg (l4 + ·) ci_1) (Nat.le_of_ble_eq_true rfl) rfl ?_
            refine vJ.goto (tgt := 6) dX7_homeOf_86 (by decide) ?_
            refine vJ.sub [0, 1, 2, 3, 4] rfl ?_
            exact h
          · replace h := h.2 hc7
            refine vJ.iload dX7_homeOf_70 rfl ?_
            refine vJ.iload_n dX7_homeOf_72 rfl rfl ?_
            refine vJ.icmp_ge (tgt := 81) dX7_homeOf_73 (by decide) (fun hc6 => ?_) (fun hc6 => ?_)
            · replace h := h.1 hc6
              refine vJ.iload_n dX7_homeOf_81 rfl rfl ?_
              refine vJ.istore_n (ls2 := [(0, .ref 163), (1, .int l1), (2, .int l2), (3, .int l3), (4, .int l4), (5, .int v5)]) dX7_homeOf_82 rfl (Nat.le_of_ble_eq_true rfl) rfl ?_
              refine vJ.iinc (v := l4 + (1 : Int32)) (ls2 := [(0, .ref 163), (1, .int l1), (2, .int l2), (3, .int l3), (4, .int (l4 + (1 : Int32))), (5, .int v5)]) dX7_homeOf_83 rfl (congrArg (l4 + ·) ci_1) (Nat.le_of_ble_eq_true rfl) rfl ?_
              refine vJ.goto (tgt := 6) dX7_homeOf_86 (by decide) ?_
              refine vJ.sub [0, 1, 2, 3, 4] rfl ?_
              exact h
            · replace h := h.2 hc6
              refine vJ.iload dX7_homeOf_76 rfl ?_
              refine vJ.goto (tgt := 82) dX7_homeOf_78 (by decide) ?_
              refine vJ.istore_n (ls2 := [(0, .ref 163), (1, .int l1), (2, .int l2), (3, .int v5), (4, .int l4), (5, .int v5)]) dX7_homeOf_82 rfl (Nat.le_of_ble_eq_true rfl) rfl ?_
              refine vJ.iinc (v := l4 + (1 : Int32)) (ls2 := [(0, .ref 163), (1, .int l1), (2, .int l2), (3, .int v5), (4, .int (l4 + (1 : Int32))), (5, .int v5)]) dX7_homeOf_83 rfl (congrArg (l4 + ·) ci_1) (Nat.le_of_ble_eq_true rfl) rfl ?_
              refine vJ.goto (tgt := 6) dX7_homeOf_86 (by decide) ?_
              refine vJ.sub [0, 1, 2, 3, 4] rfl ?_
              exact h
        · replace h := h.2 hc10
          refine vJ.iload_n dX7_homeOf_51 rfl rfl ?_
          refine vJ.goto (tgt := 62) dX7_homeOf_52 (by decide) ?_
          refine vJ.istore (ls2 := [(0, .ref 163), (1, .int l1), (2, .int l2), (3, .int l3), (4, .int l4), (5, .int l2)]) dX7_homeOf_62 (Nat.le_of_ble_eq_true rfl) rfl ?_
          refine vJ.iload_n dX7_homeOf_64 rfl rfl ?_
          refine vJ.bipush dX7_homeOf_65 cb_m9 ?_
          refine vJ.icmp_eq (tgt := 76) dX7_homeOf_67 (by decide) (fun hc9 => ?_) (fun hc9 => ?_)
          · replace h := h.1 hc9
            refine vJ.iload dX7_homeOf_76 rfl ?_
            refine vJ.goto (tgt := 82) dX7_homeOf_78 (by decide) ?_
            refine vJ.istore_n (ls2 := [(0, .ref 163), (1, .int l1), (2, .int l2), (3, .int l2), (4, .int l4), (5, .int l2)]) dX7_homeOf_82 rfl (Nat.le_of_ble_eq_true rfl) rfl ?_
            refine vJ.iinc (v := l4 + (1 : Int32)) (ls2 := [(0, .ref 163), (1, .int l1), (2, .int l2), (3, .int l2), (4, .int (l4 + (1 : Int32))), (5, .int l2)]) dX7_homeOf_83 rfl (congrArg (l4 + ·) ci_1) (Nat.le_of_ble_eq_true rfl) rfl ?_
            refine vJ.goto (tgt := 6) dX7_homeOf_86 (by decide) ?_
            refine vJ.sub [0, 1, 2, 3, 4] rfl ?_
            exact h
          · replace h := h.2 hc9
            refine vJ.iload dX7_homeOf_70 rfl ?_
            refine vJ.iload_n dX7_homeOf_72 rfl rfl ?_
            refine vJ.icmp_ge (tgt := 81) dX7_homeOf_73 (by decide) (fun hc8 => ?_) (fun hc8 => ?_)
            · replace h := h.1 hc8
              refine vJ.iload_n dX7_homeOf_81 rfl rfl ?_
              refine vJ.istore_n (ls2 := [(0, .ref 163), (1, .int l1), (2, .int l2), (3, .int l3), (4, .int l4), (5, .int l2)]) dX7_homeOf_82 rfl (Nat.le_of_ble_eq_true rfl) rfl ?_
              refine vJ.iinc (v := l4 + (1 : Int32)) (ls2 := [(0, .ref 163), (1, .int l1), (2, .int l2), (3, .int l3), (4, .int (l4 + (1 : Int32))), (5, .int l2)]) dX7_homeOf_83 rfl (congrArg (l4 + ·) ci_1) (Nat.le_of_ble_eq_true rfl) rfl ?_
              refine vJ.goto (tgt := 6) dX7_homeOf_86 (by decide) ?_
              refine vJ.sub [0, 1, 2, 3, 4] rfl ?_
              exact h
            · replace h := h.2 hc8
              refine vJ.iload dX7_homeOf_76 rfl ?_
              refine vJ.goto (tgt := 82) dX7_homeOf_78 (by decide) ?_
              refine vJ.istore_n (ls2 := [(0, .ref 163), (1, .int l1), (2, .int l2), (3, .int l2), (4, .int l4), (5, .int l2)]) dX7_homeOf_82 rfl (Nat.le_of_ble_eq_true rfl) rfl ?_
              refine vJ.iinc (v := l4 + (1 : Int32)) (ls2 := [(0, .ref 163), (1, .int l1), (2, .int l2), (3, .int l2), (4, .int (l4 + (1 : Int32))), (5, .int l2)]) dX7_homeOf_83 rfl (congrArg (l4 + ·) ci_1) (Nat.le_of_ble_eq_true rfl) rfl ?_
              refine vJ.goto (tgt := 6) dX7_homeOf_86 (by decide) ?_
              refine vJ.sub [0, 1, 2, 3, 4] rfl ?_
              exact h
def J_X7_notesOn_0 (l1 : Int32) (l2 : Int32) (l3 : Int32) (m : vM) (P : Int32 → vM → Prop) : Prop := vJ mX7_notesOn 1 25 197 none 0 [(0, .ref 163), (1, .int l1), (2, .int l2), (3, .int l3)] [] 197 SH m (vPi P)
def J_X7_notesOn_6 (l1 : Int32) (l2 : Int32) (l3 : Int32) (l4 : Int32) (l5 : Int32) (m : vM) (P : Int32 → vM → Prop) : Prop := vJ mX7_notesOn 1 25 197 none 6 [(0, .ref 163), (1, .int l1), (2, .int l2), (3, .int l3), (4, .int l4), (5, .int l5)] [] 197 SH m (vPi P)
def wp_X7_notesOn_0 (l1 : Int32) (l2 : Int32) (l3 : Int32) (m : vM) (P : Int32 → vM → Prop) : Prop :=
  J_X7_notesOn_6 l1 l2 l3 (0 : Int32) (0 : Int32) m P
set_option maxRecDepth 20000 in
set_option maxHeartbeats 4000000 in
theorem b_X7_notesOn_0 {l1 : Int32} {l2 : Int32} {l3 : Int32} {m : vM} {P : Int32 → vM → Prop}  (h : wp_X7_notesOn_0 l1 l2 l3 m P) : J_X7_notesOn_0 l1 l2 l3 m P := by
  show vJ mX7_notesOn 1 25 197 none 0 [(0, .ref 163), (1, .int l1), (2, .int l2), (3, .int l3)] [] 197 SH m (vPi P)
  unfold wp_X7_notesOn_0 at h
  refine vJ.iconst dX7_notesOn_0 ci_0 ?_
  refine vJ.istore (ls2 := [(0, .ref 163), (1, .int l1), (2, .int l2), (3, .int l3), (4, .int (0 : Int32))]) dX7_notesOn_1 (Nat.le_of_ble_eq_true rfl) rfl ?_
  refine vJ.iconst dX7_notesOn_3 ci_0 ?_
  refine vJ.istore (ls2 := [(0, .ref 163), (1, .int l1), (2, .int l2), (3, .int l3), (4, .int (0 : Int32)), (5, .int (0 : Int32))]) dX7_notesOn_4 (Nat.le_of_ble_eq_true rfl) rfl ?_
  exact h
def EI_X7_notesOn (l1 : Int32) (l2 : Int32) (l3 : Int32) (m : vM) (P : Int32 → vM → Prop) : Prop := Ev mX7_notesOn 1 25 197 [.ref 163, .int l1, .int l2, .int l3] 197 SH m (vPi P)
theorem f_X7_notesOn {l1 : Int32} {l2 : Int32} {l3 : Int32} {m : vM} {P : Int32 → vM → Prop} (h : J_X7_notesOn_0 l1 l2 l3 m P) : EI_X7_notesOn l1 l2 l3 m P := Ev.of pn_X7_notesOn (Nat.le_of_ble_eq_true rfl) h
def wp_X7_notesOn_6 (l1 : Int32) (l2 : Int32) (l3 : Int32) (l4 : Int32) (l5 : Int32) (m : vM) (P : Int32 → vM → Prop) : Prop :=
  (((10 : Int32) ≤ l5 →
    P l4 m) ∧
  (¬ (10 : Int32) ≤ l5 →
    EI_X7_homeOf l5 l3 m (fun r2 m1 =>
      ((r2 = (-9 : Int32) →
        ∀ v3 : Int32, v3 = (l4 ||| (0 : Int32)) →
        J_X7_notesOn_6 l1 l2 l3 v3 (l5 + (1 : Int32)) m1 P) ∧
      (¬ r2 = (-9 : Int32) →
        ((r2 < l1 →
          ∀ v4 : Int32, v4 = (l4 ||| (0 : Int32)) →
          J_X7_notesOn_6 l1 l2 l3 v4 (l5 + (1 : Int32)) m1 P) ∧
        (¬ r2 < l1 →
          ((l2 ≤ r2 →
            ∀ v5 : Int32, v5 = (l4 ||| (0 : Int32)) →
            J_X7_notesOn_6 l1 l2 l3 v5 (l5 + (1 : Int32)) m1 P) ∧
          (¬ l2 ≤ r2 →
            ∀ v6 : Int32, v6 = (l4 ||| ((1 : Int32) <<< (l5 &&& 31))) →
            J_X7_notesOn_6 l1 l2 l3 v6 (l5 + (1 : Int32)) m1 P)))))))))
set_option maxRecDepth 20000 in
set_option maxHeartbeats 4000000 in
theorem b_X7_notesOn_6 {l1 : Int32} {l2 : Int32} {l3 : Int32} {l4 : Int32} {l5 : Int32} {m : vM} {P : Int32 → vM → Prop}  (h : wp_X7_notesOn_6 l1 l2 l3 l4 l5 m P) : J_X7_notesOn_6 l1 l2 l3 l4 l5 m P := by
  show vJ mX7_notesOn 1 25 197 none 6 [(0, .ref 163), (1, .int l1), (2, .int l2), (3, .int l3), (4, .int l4), (5, .int l5)] [] 197 SH m (vPi P)
  unfold wp_X7_notesOn_6 at h
  refine vJ.iload dX7_notesOn_6 rfl ?_
  refine vJ.bipush dX7_notesOn_8 cb_10 ?_
  refine vJ.icmp_ge (tgt := 60) dX7_notesOn_10 (by decide) (fun hc10 => ?_) (fun hc10 => ?_)
  · replace h := h.1 hc10
    refine vJ.iload dX7_notesOn_60 rfl ?_
    exact vJ.ireturn dX7_notesOn_62 rfl rfl rfl ⟨rfl, _, rfl, h⟩
  · replace h := h.2 hc10
    refine vJ.aload_n dX7_notesOn_13 rfl rfl ?_
    refine vJ.iload dX7_notesOn_14 rfl ?_
    refine vJ.iload_n dX7_notesOn_16 rfl rfl ?_
    refine vJ.callV (ci := 7) (Yc := mX7_homeOf) (frc := 0) (loc := 0) (as := [.int l5, .int l3]) dX7_notesOn_17 rfl sh_163 (Nat.le_of_ble_eq_true rfl) rfl ml_RX7_220 im_yX7_homeOf se_yX7_homeOf co_X7_homeOf in_TableSetterModel pl_X7_homeOf (Nat.le_of_ble_eq_true rfl) (Nat.le_of_ble_eq_true rfl) (Nat.le_of_ble_eq_true rfl) ?_
    refine Ev.gi h (fun r2 m1 h => ?_)
    refine vJ.istore (ls2 := [(0, .ref 163), (1, .int l1), (2, .int l2), (3, .int l3), (4, .int l4), (5, .int l5), (6, .int r2)]) dX7_notesOn_20 (Nat.le_of_ble_eq_true rfl) rfl ?_
    refine vJ.iload dX7_notesOn_22 rfl ?_
    refine vJ.iload dX7_notesOn_24 rfl ?_
    refine vJ.bipush dX7_notesOn_26 cb_m9 ?_
    refine vJ.icmp_eq (tgt := 50) dX7_notesOn_28 (by decide) (fun hc9 => ?_) (fun hc9 => ?_)
    · replace h := h.1 hc9
      refine vJ.iconst dX7_notesOn_50 ci_0 ?_
      refine vJ.ior dX7_notesOn_51 ?_
      refine vJ.topi (fun v3 ev3 => ?_)
      replace h := h v3 ev3
      refine vJ.istore (ls2 := [(0, .ref 163), (1, .int l1), (2, .int l2), (3, .int l3), (4, .int v3), (5, .int l5), (6, .int r2)]) dX7_notesOn_52 (Nat.le_of_ble_eq_true rfl) rfl ?_
      refine vJ.iinc (v := l5 + (1 : Int32)) (ls2 := [(0, .ref 163), (1, .int l1), (2, .int l2), (3, .int l3), (4, .int v3), (5, .int (l5 + (1 : Int32))), (6, .int r2)]) dX7_notesOn_54 rfl (congrArg (l5 + ·) ci_1) (Nat.le_of_ble_eq_true rfl) rfl ?_
      refine vJ.goto (tgt := 6) dX7_notesOn_57 (by decide) ?_
      refine vJ.sub [0, 1, 2, 3, 4, 5] rfl ?_
      exact h
    · replace h := h.2 hc9
      refine vJ.iload dX7_notesOn_31 rfl ?_
      refine vJ.iload_n dX7_notesOn_33 rfl rfl ?_
      refine vJ.icmp_lt (tgt := 50) dX7_notesOn_34 (by decide) (fun hc8 => ?_) (fun hc8 => ?_)
      · replace h := h.1 hc8
        refine vJ.iconst dX7_notesOn_50 ci_0 ?_
        refine vJ.ior dX7_notesOn_51 ?_
        refine vJ.topi (fun v4 ev4 => ?_)
        replace h := h v4 ev4
        refine vJ.istore (ls2 := [(0, .ref 163), (1, .int l1), (2, .int l2), (3, .int l3), (4, .int v4), (5, .int l5), (6, .int r2)]) dX7_notesOn_52 (Nat.le_of_ble_eq_true rfl) rfl ?_
        refine vJ.iinc (v := l5 + (1 : Int32)) (ls2 := [(0, .ref 163), (1, .int l1), (2, .int l2), (3, .int l3), (4, .int v4), (5, .int (l5 + (1 : Int32))), (6, .int r2)]) dX7_notesOn_54 rfl (congrArg (l5 + ·) ci_1) (Nat.le_of_ble_eq_true rfl) rfl ?_
        refine vJ.goto (tgt := 6) dX7_notesOn_57 (by decide) ?_
        refine vJ.sub [0, 1, 2, 3, 4, 5] rfl ?_
        exact h
      · replace h := h.2 hc8
        refine vJ.iload dX7_notesOn_37 rfl ?_
        refine vJ.iload_n dX7_notesOn_39 rfl rfl ?_
        refine vJ.icmp_ge (tgt := 50) dX7_notesOn_40 (by decide) (fun hc7 => ?_) (fun hc7 => ?_)
        · replace h := h.1 hc7
          refine vJ.iconst dX7_notesOn_50 ci_0 ?_
          refine vJ.ior dX7_notesOn_51 ?_
          refine vJ.topi (fun v5 ev5 => ?_)
          replace h := h v5 ev5
          refine vJ.istore (ls2 := [(0, .ref 163), (1, .int l1), (2, .int l2), (3, .int l3), (4, .int v5), (5, .int l5), (6, .int r2)]) dX7_notesOn_52 (Nat.le_of_ble_eq_true rfl) rfl ?_
          refine vJ.iinc (v := l5 + (1 : Int32)) (ls2 := [(0, .ref 163), (1, .int l1), (2, .int l2), (3, .int l3), (4, .int v5), (5, .int (l5 + (1 : Int32))), (6, .int r2)]) dX7_notesOn_54 rfl (congrArg (l5 + ·) ci_1) (Nat.le_of_ble_eq_true rfl) rfl ?_
          refine vJ.goto (tgt := 6) dX7_notesOn_57 (by decide) ?_
          refine vJ.sub [0, 1, 2, 3, 4, 5] rfl ?_
          exact h
        · replace h := h.2 hc7
          refine vJ.iconst dX7_notesOn_43 ci_1 ?_
          refine vJ.iload dX7_notesOn_44 rfl ?_
          refine vJ.ishl dX7_notesOn_46 ?_
          refine vJ.goto (tgt := 51) dX7_notesOn_47 (by decide) ?_
          refine vJ.ior dX7_notesOn_51 ?_
          refine vJ.topi (fun v6 ev6 => ?_)
          replace h := h v6 ev6
          refine vJ.istore (ls2 := [(0, .ref 163), (1, .int l1), (2, .int l2), (3, .int l3), (4, .int v6), (5, .int l5), (6, .int r2)]) dX7_notesOn_52 (Nat.le_of_ble_eq_true rfl) rfl ?_
          refine vJ.iinc (v := l5 + (1 : Int32)) (ls2 := [(0, .ref 163), (1, .int l1), (2, .int l2), (3, .int l3), (4, .int v6), (5, .int (l5 + (1 : Int32))), (6, .int r2)]) dX7_notesOn_54 rfl (congrArg (l5 + ·) ci_1) (Nat.le_of_ble_eq_true rfl) rfl ?_
          refine vJ.goto (tgt := 6) dX7_notesOn_57 (by decide) ?_
          refine vJ.sub [0, 1, 2, 3, 4, 5] rfl ?_
          exact h
def J_X7_emptyOf_0 (l1 : Int32) (l2 : Int32) (l3 : Int32) (l4 : Int32) (m : vM) (P : Int32 → vM → Prop) : Prop := vJ mX7_emptyOf 2 51 197 none 0 [(0, .ref 163), (1, .int l1), (2, .int l2), (3, .int l3), (4, .int l4)] [] 197 SH m (vPi P)
def J_X7_emptyOf_6 (l2 : Int32) (l3 : Int32) (l4 : Int32) (l5 : Int32) (l6 : Int32) (m : vM) (P : Int32 → vM → Prop) : Prop := vJ mX7_emptyOf 2 51 197 none 6 [(0, .ref 163), (2, .int l2), (3, .int l3), (4, .int l4), (5, .int l5), (6, .int l6)] [] 197 SH m (vPi P)
def wp_X7_emptyOf_0 (l1 : Int32) (l2 : Int32) (l3 : Int32) (l4 : Int32) (m : vM) (P : Int32 → vM → Prop) : Prop :=
  J_X7_emptyOf_6 l2 l3 l4 l1 (0 : Int32) m P
set_option maxRecDepth 20000 in
set_option maxHeartbeats 4000000 in
theorem b_X7_emptyOf_0 {l1 : Int32} {l2 : Int32} {l3 : Int32} {l4 : Int32} {m : vM} {P : Int32 → vM → Prop}  (h : wp_X7_emptyOf_0 l1 l2 l3 l4 m P) : J_X7_emptyOf_0 l1 l2 l3 l4 m P := by
  show vJ mX7_emptyOf 2 51 197 none 0 [(0, .ref 163), (1, .int l1), (2, .int l2), (3, .int l3), (4, .int l4)] [] 197 SH m (vPi P)
  unfold wp_X7_emptyOf_0 at h
  refine vJ.iload_n dX7_emptyOf_0 rfl rfl ?_
  refine vJ.istore (ls2 := [(0, .ref 163), (1, .int l1), (2, .int l2), (3, .int l3), (4, .int l4), (5, .int l1)]) dX7_emptyOf_1 (Nat.le_of_ble_eq_true rfl) rfl ?_
  refine vJ.iconst dX7_emptyOf_3 ci_0 ?_
  refine vJ.istore (ls2 := [(0, .ref 163), (1, .int l1), (2, .int l2), (3, .int l3), (4, .int l4), (5, .int l1), (6, .int (0 : Int32))]) dX7_emptyOf_4 (Nat.le_of_ble_eq_true rfl) rfl ?_
  refine vJ.sub [0, 2, 3, 4, 5, 6] rfl ?_
  exact h
def EI_X7_emptyOf (l1 : Int32) (l2 : Int32) (l3 : Int32) (l4 : Int32) (m : vM) (P : Int32 → vM → Prop) : Prop := Ev mX7_emptyOf 2 51 197 [.ref 163, .int l1, .int l2, .int l3, .int l4] 197 SH m (vPi P)
theorem f_X7_emptyOf {l1 : Int32} {l2 : Int32} {l3 : Int32} {l4 : Int32} {m : vM} {P : Int32 → vM → Prop} (h : J_X7_emptyOf_0 l1 l2 l3 l4 m P) : EI_X7_emptyOf l1 l2 l3 l4 m P := Ev.of pn_X7_emptyOf (Nat.le_of_ble_eq_true rfl) h
def J_X7_emptyOf_34 (l2 : Int32) (l3 : Int32) (l4 : Int32) (l5 : Int32) (l6 : Int32) (m : vM) (P : Int32 → vM → Prop) : Prop := vJ mX7_emptyOf 2 51 197 none 34 [(0, .ref 163), (2, .int l2), (3, .int l3), (4, .int l4), (5, .int l5), (6, .int l6)] [] 197 SH m (vPi P)
def wp_X7_emptyOf_6 (l2 : Int32) (l3 : Int32) (l4 : Int32) (l5 : Int32) (l6 : Int32) (m : vM) (P : Int32 → vM → Prop) : Prop :=
  ((l4 ≤ l6 →
    J_X7_emptyOf_34 l2 l3 l4 l5 l2 m P) ∧
  (¬ l4 ≤ l6 →
    vp_in l6 16 ∧
    ∀ v2 : Int32, v2 = (l5 - (m.1 185 (Int32.toNatClampNeg l6))) →
    J_X7_emptyOf_6 l2 l3 l4 v2 (l6 + (1 : Int32)) m P))
set_option maxRecDepth 20000 in
set_option maxHeartbeats 4000000 in
theorem b_X7_emptyOf_6 {l2 : Int32} {l3 : Int32} {l4 : Int32} {l5 : Int32} {l6 : Int32} {m : vM} {P : Int32 → vM → Prop}  (h : wp_X7_emptyOf_6 l2 l3 l4 l5 l6 m P) : J_X7_emptyOf_6 l2 l3 l4 l5 l6 m P := by
  show vJ mX7_emptyOf 2 51 197 none 6 [(0, .ref 163), (2, .int l2), (3, .int l3), (4, .int l4), (5, .int l5), (6, .int l6)] [] 197 SH m (vPi P)
  unfold wp_X7_emptyOf_6 at h
  refine vJ.iload dX7_emptyOf_6 rfl ?_
  refine vJ.iload dX7_emptyOf_8 rfl ?_
  refine vJ.icmp_ge (tgt := 31) dX7_emptyOf_10 (by decide) (fun hc3 => ?_) (fun hc3 => ?_)
  · replace h := h.1 hc3
    refine vJ.iload_n dX7_emptyOf_31 rfl rfl ?_
    refine vJ.istore (ls2 := [(0, .ref 163), (2, .int l2), (3, .int l3), (4, .int l4), (5, .int l5), (6, .int l2)]) dX7_emptyOf_32 (Nat.le_of_ble_eq_true rfl) rfl ?_
    exact h
  · replace h := h.2 hc3
    refine vJ.iload dX7_emptyOf_13 rfl ?_
    refine vJ.aload_n dX7_emptyOf_15 rfl rfl ?_
    refine vJ.getR (ci := 7) (k := 27) (j := 185) dX7_emptyOf_16 sh_163 (Nat.le_of_ble_eq_true rfl) rfl inX7 (Nat.le_of_ble_eq_true rfl) rfl fl_RX7_74 ?_
    refine vJ.iload dX7_emptyOf_19 rfl ?_
    obtain ⟨hb1, h⟩ := h
    refine vJ.iald dX7_emptyOf_21 sh_185 (Nat.le_of_ble_eq_true rfl) hb1 ?_
    refine vJ.isub dX7_emptyOf_22 ?_
    refine vJ.topi (fun v2 ev2 => ?_)
    replace h := h v2 ev2
    refine vJ.istore (ls2 := [(0, .ref 163), (2, .int l2), (3, .int l3), (4, .int l4), (5, .int v2), (6, .int l6)]) dX7_emptyOf_23 (Nat.le_of_ble_eq_true rfl) rfl ?_
    refine vJ.iinc (v := l6 + (1 : Int32)) (ls2 := [(0, .ref 163), (2, .int l2), (3, .int l3), (4, .int l4), (5, .int v2), (6, .int (l6 + (1 : Int32)))]) dX7_emptyOf_25 rfl (congrArg (l6 + ·) ci_1) (Nat.le_of_ble_eq_true rfl) rfl ?_
    refine vJ.goto (tgt := 6) dX7_emptyOf_28 (by decide) ?_
    exact h
def J_X7_emptyOf_71 (l2 : Int32) (l3 : Int32) (l4 : Int32) (l5 : Int32) (l6 : Int32) (l7 : Int32) (m : vM) (P : Int32 → vM → Prop) : Prop := vJ mX7_emptyOf 2 51 197 none 71 [(0, .ref 163), (2, .int l2), (3, .int l3), (4, .int l4), (5, .int l5), (6, .int l6), (7, .int l7)] [] 197 SH m (vPi P)
def wp_X7_emptyOf_34 (l2 : Int32) (l3 : Int32) (l4 : Int32) (l5 : Int32) (l6 : Int32) (m : vM) (P : Int32 → vM → Prop) : Prop :=
  ((l3 ≤ l6 →
    EI_X7_notesOn l2 l3 l4 m (fun r2 m1 =>
      J_X7_emptyOf_71 l2 l3 l4 l5 r2 (0 : Int32) m1 P)) ∧
  (¬ l3 ≤ l6 →
    vp_in l6 16 ∧
    ∀ v4 : Int32, v4 = (l5 - (m.1 185 (Int32.toNatClampNeg l6))) →
    J_X7_emptyOf_34 l2 l3 l4 v4 (l6 + (1 : Int32)) m P))
set_option maxRecDepth 20000 in
set_option maxHeartbeats 4000000 in
theorem b_X7_emptyOf_34 {l2 : Int32} {l3 : Int32} {l4 : Int32} {l5 : Int32} {l6 : Int32} {m : vM} {P : Int32 → vM → Prop}  (h : wp_X7_emptyOf_34 l2 l3 l4 l5 l6 m P) : J_X7_emptyOf_34 l2 l3 l4 l5 l6 m P := by
  show vJ mX7_emptyOf 2 51 197 none 34 [(0, .ref 163), (2, .int l2), (3, .int l3), (4, .int l4), (5, .int l5), (6, .int l6)] [] 197 SH m (vPi P)
  unfold wp_X7_emptyOf_34 at h
  refine vJ.iload dX7_emptyOf_34 rfl ?_
  refine vJ.iload_n dX7_emptyOf_36 rfl rfl ?_
  refine vJ.icmp_ge (tgt := 58) dX7_emptyOf_37 (by decide) (fun hc5 => ?_) (fun hc5 => ?_)
  · replace h := h.1 hc5
    refine vJ.aload_n dX7_emptyOf_58 rfl rfl ?_
    refine vJ.iload_n dX7_emptyOf_59 rfl rfl ?_
    refine vJ.iload_n dX7_emptyOf_60 rfl rfl ?_
    refine vJ.iload dX7_emptyOf_61 rfl ?_
    refine vJ.callV (ci := 7) (Yc := mX7_notesOn) (frc := 1) (loc := 25) (as := [.int l2, .int l3, .int l4]) dX7_emptyOf_63 rfl sh_163 (Nat.le_of_ble_eq_true rfl) rfl ml_RX7_223 im_yX7_notesOn se_yX7_notesOn co_X7_notesOn in_TableSetterModel pl_X7_notesOn (Nat.le_of_ble_eq_true rfl) (Nat.le_of_ble_eq_true rfl) (Nat.le_of_ble_eq_true rfl) ?_
    refine Ev.gi h (fun r2 m1 h => ?_)
    refine vJ.istore (ls2 := [(0, .ref 163), (2, .int l2), (3, .int l3), (4, .int l4), (5, .int l5), (6, .int r2)]) dX7_emptyOf_66 (Nat.le_of_ble_eq_true rfl) rfl ?_
    refine vJ.iconst dX7_emptyOf_68 ci_0 ?_
    refine vJ.istore (ls2 := [(0, .ref 163), (2, .int l2), (3, .int l3), (4, .int l4), (5, .int l5), (6, .int r2), (7, .int (0 : Int32))]) dX7_emptyOf_69 (Nat.le_of_ble_eq_true rfl) rfl ?_
    exact h
  · replace h := h.2 hc5
    refine vJ.iload dX7_emptyOf_40 rfl ?_
    refine vJ.aload_n dX7_emptyOf_42 rfl rfl ?_
    refine vJ.getR (ci := 7) (k := 27) (j := 185) dX7_emptyOf_43 sh_163 (Nat.le_of_ble_eq_true rfl) rfl inX7 (Nat.le_of_ble_eq_true rfl) rfl fl_RX7_74 ?_
    refine vJ.iload dX7_emptyOf_46 rfl ?_
    obtain ⟨hb3, h⟩ := h
    refine vJ.iald dX7_emptyOf_48 sh_185 (Nat.le_of_ble_eq_true rfl) hb3 ?_
    refine vJ.isub dX7_emptyOf_49 ?_
    refine vJ.topi (fun v4 ev4 => ?_)
    replace h := h v4 ev4
    refine vJ.istore (ls2 := [(0, .ref 163), (2, .int l2), (3, .int l3), (4, .int l4), (5, .int v4), (6, .int l6)]) dX7_emptyOf_50 (Nat.le_of_ble_eq_true rfl) rfl ?_
    refine vJ.iinc (v := l6 + (1 : Int32)) (ls2 := [(0, .ref 163), (2, .int l2), (3, .int l3), (4, .int l4), (5, .int v4), (6, .int (l6 + (1 : Int32)))]) dX7_emptyOf_52 rfl (congrArg (l6 + ·) ci_1) (Nat.le_of_ble_eq_true rfl) rfl ?_
    refine vJ.goto (tgt := 34) dX7_emptyOf_55 (by decide) ?_
    exact h
def wp_X7_emptyOf_71 (l2 : Int32) (l3 : Int32) (l4 : Int32) (l5 : Int32) (l6 : Int32) (l7 : Int32) (m : vM) (P : Int32 → vM → Prop) : Prop :=
  (((10 : Int32) ≤ l7 →
    (((l3 - l2) = (1 : Int32) →
      vp_in l2 16 ∧
      (((m.1 185 (Int32.toNatClampNeg l2)) = (1 : Int32) →
        ((((m.1 163 2) - l4) ≤ (1 : Int32) →
          (((0 : Int32) = (0 : Int32) →
            P l5 m) ∧
          (¬ (0 : Int32) = (0 : Int32) →
            P (-1 : Int32) m))) ∧
        (¬ ((m.1 163 2) - l4) ≤ (1 : Int32) →
          (((1 : Int32) = (0 : Int32) →
            P l5 m) ∧
          (¬ (1 : Int32) = (0 : Int32) →
            P (-1 : Int32) m))))) ∧
      (¬ (m.1 185 (Int32.toNatClampNeg l2)) = (1 : Int32) →
        (((0 : Int32) = (0 : Int32) →
          P l5 m) ∧
        (¬ (0 : Int32) = (0 : Int32) →
          P (-1 : Int32) m))))) ∧
    (¬ (l3 - l2) = (1 : Int32) →
      (((0 : Int32) = (0 : Int32) →
        P l5 m) ∧
      (¬ (0 : Int32) = (0 : Int32) →
        P (-1 : Int32) m))))) ∧
  (¬ (10 : Int32) ≤ l7 →
    ((((l6 >>> (l7 &&& 31)) &&& (1 : Int32)) = (1 : Int32) →
      vp_in l7 10 ∧
      ∀ v11 : Int32, v11 = (l5 - (m.1 166 (Int32.toNatClampNeg l7))) →
      J_X7_emptyOf_71 l2 l3 l4 v11 l6 (l7 + (1 : Int32)) m P) ∧
    (¬ ((l6 >>> (l7 &&& 31)) &&& (1 : Int32)) = (1 : Int32) →
      ∀ v9 : Int32, v9 = (l5 - (0 : Int32)) →
      J_X7_emptyOf_71 l2 l3 l4 v9 l6 (l7 + (1 : Int32)) m P))))
set_option maxRecDepth 20000 in
set_option maxHeartbeats 4000000 in
theorem b_X7_emptyOf_71 {l2 : Int32} {l3 : Int32} {l4 : Int32} {l5 : Int32} {l6 : Int32} {l7 : Int32} {m : vM} {P : Int32 → vM → Prop}  (h : wp_X7_emptyOf_71 l2 l3 l4 l5 l6 l7 m P) : J_X7_emptyOf_71 l2 l3 l4 l5 l6 l7 m P := by
  show vJ mX7_emptyOf 2 51 197 none 71 [(0, .ref 163), (2, .int l2), (3, .int l3), (4, .int l4), (5, .int l5), (6, .int l6), (7, .int l7)] [] 197 SH m (vPi P)
  unfold wp_X7_emptyOf_71 at h
  refine vJ.iload dX7_emptyOf_71 rfl ?_
  refine vJ.bipush dX7_emptyOf_73 cb_10 ?_
  refine vJ.icmp_ge (tgt := 111) dX7_emptyOf_75 (by decide) (fun hc13 => ?_) (fun hc13 => ?_)
  · replace h := h.1 hc13
    refine vJ.iload_n dX7_emptyOf_111 rfl rfl ?_
    refine vJ.iload_n dX7_emptyOf_112 rfl rfl ?_
    refine vJ.isub dX7_emptyOf_113 ?_
    refine vJ.iconst dX7_emptyOf_114 ci_1 ?_
    refine vJ.icmp_ne (tgt := 143) dX7_emptyOf_115 (by decide) (fun hc8 => ?_) (fun hc8 => ?_)
    · replace h := h.2 hc8
      refine vJ.iconst dX7_emptyOf_143 ci_0 ?_
      refine vJ.istore (ls2 := [(0, .ref 163), (2, .int l2), (3, .int l3), (4, .int l4), (5, .int l5), (6, .int l6), (7, .int (0 : Int32))]) dX7_emptyOf_144 (Nat.le_of_ble_eq_true rfl) rfl ?_
      refine vJ.iload dX7_emptyOf_146 rfl ?_
      refine vJ.if_eq (tgt := 155) dX7_emptyOf_148 (by decide) (fun hc1 => ?_) (fun hc1 => ?_)
      · replace h := h.1 hc1
        refine vJ.iload dX7_emptyOf_155 rfl ?_
        exact vJ.ireturn dX7_emptyOf_157 rfl rfl rfl ⟨rfl, _, rfl, h⟩
      · replace h := h.2 hc1
        refine vJ.iconst dX7_emptyOf_151 ci_m1 ?_
        refine vJ.goto (tgt := 157) dX7_emptyOf_152 (by decide) ?_
        exact vJ.ireturn dX7_emptyOf_157 rfl rfl rfl ⟨rfl, _, rfl, h⟩
    · replace h := h.1 hc8
      refine vJ.aload_n dX7_emptyOf_118 rfl rfl ?_
      refine vJ.getR (ci := 7) (k := 27) (j := 185) dX7_emptyOf_119 sh_163 (Nat.le_of_ble_eq_true rfl) rfl inX7 (Nat.le_of_ble_eq_true rfl) rfl fl_RX7_74 ?_
      refine vJ.iload_n dX7_emptyOf_122 rfl rfl ?_
      obtain ⟨hb2, h⟩ := h
      refine vJ.iald dX7_emptyOf_123 sh_185 (Nat.le_of_ble_eq_true rfl) hb2 ?_
      refine vJ.iconst dX7_emptyOf_124 ci_1 ?_
      refine vJ.icmp_ne (tgt := 143) dX7_emptyOf_125 (by decide) (fun hc7 => ?_) (fun hc7 => ?_)
      · replace h := h.2 hc7
        refine vJ.iconst dX7_emptyOf_143 ci_0 ?_
        refine vJ.istore (ls2 := [(0, .ref 163), (2, .int l2), (3, .int l3), (4, .int l4), (5, .int l5), (6, .int l6), (7, .int (0 : Int32))]) dX7_emptyOf_144 (Nat.le_of_ble_eq_true rfl) rfl ?_
        refine vJ.iload dX7_emptyOf_146 rfl ?_
        refine vJ.if_eq (tgt := 155) dX7_emptyOf_148 (by decide) (fun hc3 => ?_) (fun hc3 => ?_)
        · replace h := h.1 hc3
          refine vJ.iload dX7_emptyOf_155 rfl ?_
          exact vJ.ireturn dX7_emptyOf_157 rfl rfl rfl ⟨rfl, _, rfl, h⟩
        · replace h := h.2 hc3
          refine vJ.iconst dX7_emptyOf_151 ci_m1 ?_
          refine vJ.goto (tgt := 157) dX7_emptyOf_152 (by decide) ?_
          exact vJ.ireturn dX7_emptyOf_157 rfl rfl rfl ⟨rfl, _, rfl, h⟩
      · replace h := h.1 hc7
        refine vJ.aload_n dX7_emptyOf_128 rfl rfl ?_
        refine vJ.getI (ci := 7) (k := 2) dX7_emptyOf_129 sh_163 (Nat.le_of_ble_eq_true rfl) rfl inX7 (Nat.le_of_ble_eq_true rfl) rfl fl_RX7_123 ?_
        refine vJ.iload dX7_emptyOf_132 rfl ?_
        refine vJ.isub dX7_emptyOf_134 ?_
        refine vJ.iconst dX7_emptyOf_135 ci_1 ?_
        refine vJ.icmp_le (tgt := 143) dX7_emptyOf_136 (by decide) (fun hc6 => ?_) (fun hc6 => ?_)
        · replace h := h.1 hc6
          refine vJ.iconst dX7_emptyOf_143 ci_0 ?_
          refine vJ.istore (ls2 := [(0, .ref 163), (2, .int l2), (3, .int l3), (4, .int l4), (5, .int l5), (6, .int l6), (7, .int (0 : Int32))]) dX7_emptyOf_144 (Nat.le_of_ble_eq_true rfl) rfl ?_
          refine vJ.iload dX7_emptyOf_146 rfl ?_
          refine vJ.if_eq (tgt := 155) dX7_emptyOf_148 (by decide) (fun hc4 => ?_) (fun hc4 => ?_)
          · replace h := h.1 hc4
            refine vJ.iload dX7_emptyOf_155 rfl ?_
            exact vJ.ireturn dX7_emptyOf_157 rfl rfl rfl ⟨rfl, _, rfl, h⟩
          · replace h := h.2 hc4
            refine vJ.iconst dX7_emptyOf_151 ci_m1 ?_
            refine vJ.goto (tgt := 157) dX7_emptyOf_152 (by decide) ?_
            exact vJ.ireturn dX7_emptyOf_157 rfl rfl rfl ⟨rfl, _, rfl, h⟩
        · replace h := h.2 hc6
          refine vJ.iconst dX7_emptyOf_139 ci_1 ?_
          refine vJ.goto (tgt := 144) dX7_emptyOf_140 (by decide) ?_
          refine vJ.istore (ls2 := [(0, .ref 163), (2, .int l2), (3, .int l3), (4, .int l4), (5, .int l5), (6, .int l6), (7, .int (1 : Int32))]) dX7_emptyOf_144 (Nat.le_of_ble_eq_true rfl) rfl ?_
          refine vJ.iload dX7_emptyOf_146 rfl ?_
          refine vJ.if_eq (tgt := 155) dX7_emptyOf_148 (by decide) (fun hc5 => ?_) (fun hc5 => ?_)
          · replace h := h.1 hc5
            refine vJ.iload dX7_emptyOf_155 rfl ?_
            exact vJ.ireturn dX7_emptyOf_157 rfl rfl rfl ⟨rfl, _, rfl, h⟩
          · replace h := h.2 hc5
            refine vJ.iconst dX7_emptyOf_151 ci_m1 ?_
            refine vJ.goto (tgt := 157) dX7_emptyOf_152 (by decide) ?_
            exact vJ.ireturn dX7_emptyOf_157 rfl rfl rfl ⟨rfl, _, rfl, h⟩
  · replace h := h.2 hc13
    refine vJ.iload dX7_emptyOf_78 rfl ?_
    refine vJ.iload dX7_emptyOf_80 rfl ?_
    refine vJ.iload dX7_emptyOf_82 rfl ?_
    refine vJ.ishr dX7_emptyOf_84 ?_
    refine vJ.iconst dX7_emptyOf_85 ci_1 ?_
    refine vJ.iand dX7_emptyOf_86 ?_
    refine vJ.iconst dX7_emptyOf_87 ci_1 ?_
    refine vJ.icmp_ne (tgt := 101) dX7_emptyOf_88 (by decide) (fun hc12 => ?_) (fun hc12 => ?_)
    · replace h := h.2 hc12
      refine vJ.iconst dX7_emptyOf_101 ci_0 ?_
      refine vJ.isub dX7_emptyOf_102 ?_
      refine vJ.topi (fun v9 ev9 => ?_)
      replace h := h v9 ev9
      refine vJ.istore (ls2 := [(0, .ref 163), (2, .int l2), (3, .int l3), (4, .int l4), (5, .int v9), (6, .int l6), (7, .int l7)]) dX7_emptyOf_103 (Nat.le_of_ble_eq_true rfl) rfl ?_
      refine vJ.iinc (v := l7 + (1 : Int32)) (ls2 := [(0, .ref 163), (2, .int l2), (3, .int l3), (4, .int l4), (5, .int v9), (6, .int l6), (7, .int (l7 + (1 : Int32)))]) dX7_emptyOf_105 rfl (congrArg (l7 + ·) ci_1) (Nat.le_of_ble_eq_true rfl) rfl ?_
      refine vJ.goto (tgt := 71) dX7_emptyOf_108 (by decide) ?_
      exact h
    · replace h := h.1 hc12
      refine vJ.aload_n dX7_emptyOf_91 rfl rfl ?_
      refine vJ.getR (ci := 7) (k := 6) (j := 166) dX7_emptyOf_92 sh_163 (Nat.le_of_ble_eq_true rfl) rfl inX7 (Nat.le_of_ble_eq_true rfl) rfl fl_RX7_16 ?_
      refine vJ.iload dX7_emptyOf_95 rfl ?_
      obtain ⟨hb10, h⟩ := h
      refine vJ.iald dX7_emptyOf_97 sh_166 (Nat.le_of_ble_eq_true rfl) hb10 ?_
      refine vJ.goto (tgt := 102) dX7_emptyOf_98 (by decide) ?_
      refine vJ.isub dX7_emptyOf_102 ?_
      refine vJ.topi (fun v11 ev11 => ?_)
      replace h := h v11 ev11
      refine vJ.istore (ls2 := [(0, .ref 163), (2, .int l2), (3, .int l3), (4, .int l4), (5, .int v11), (6, .int l6), (7, .int l7)]) dX7_emptyOf_103 (Nat.le_of_ble_eq_true rfl) rfl ?_
      refine vJ.iinc (v := l7 + (1 : Int32)) (ls2 := [(0, .ref 163), (2, .int l2), (3, .int l3), (4, .int l4), (5, .int v11), (6, .int l6), (7, .int (l7 + (1 : Int32)))]) dX7_emptyOf_105 rfl (congrArg (l7 + ·) ci_1) (Nat.le_of_ble_eq_true rfl) rfl ?_
      refine vJ.goto (tgt := 71) dX7_emptyOf_108 (by decide) ?_
      exact h
def J_X7_pages_0 (l1 : Int32) (m : vM) (P : Int32 → vM → Prop) : Prop := vJ mX7_pages 4 95 197 none 0 [(0, .ref 163), (1, .int l1)] [] 197 SH m (vPi P)
def J_X7_pages_53 (l1 : Int32) (l2 : Int32) (l3 : Int32) (m : vM) (P : Int32 → vM → Prop) : Prop := vJ mX7_pages 4 95 197 none 53 [(0, .ref 163), (1, .int l1), (2, .int l2), (3, .int l3)] [] 197 SH m (vPi P)
def wp_X7_pages_0 (l1 : Int32) (m : vM) (P : Int32 → vM → Prop) : Prop :=
  wp_X7_in l1 (1 : Int32) (200 : Int32) m (fun r2 m1 =>
    ((r2 = (0 : Int32) →
      P (-1 : Int32) m1) ∧
    (¬ r2 = (0 : Int32) →
      EI_X7_layHeights 181 6 m1 (fun m3 =>
        EI_X7_headRows m3 (fun r5 m4 =>
          vp_in (m4.1 163 2) 17 ∧
          ∀ m7 : vM, m7 = upI m4 194 (Int32.toNatClampNeg (m4.1 163 2)) (0 : Int32) →
          vp_in (m7.1 163 2) 17 ∧
          ∀ m9 : vM, m9 = upL m7 195 (Int32.toNatClampNeg (m7.1 163 2)) (0 : Int64) →
          ∀ v10 : Int32, v10 = ((m9.1 163 2) - (1 : Int32)) →
          J_X7_pages_53 l1 r5 v10 m9 P)))))
set_option maxRecDepth 20000 in
set_option maxHeartbeats 4000000 in
theorem b_X7_pages_0 {l1 : Int32} {m : vM} {P : Int32 → vM → Prop}  (h : wp_X7_pages_0 l1 m P) : J_X7_pages_0 l1 m P := by
  show vJ mX7_pages 4 95 197 none 0 [(0, .ref 163), (1, .int l1)] [] 197 SH m (vPi P)
  unfold wp_X7_pages_0 at h
  refine vJ.iload_n dX7_pages_0 rfl rfl ?_
  refine vJ.iconst dX7_pages_1 ci_1 ?_
  refine vJ.sipush dX7_pages_2 cs_200 ?_
  refine vJ.callS (Yc := mX7_in) (frc := 0) (loc := 0) (as := [.int l1, .int (1 : Int32), .int (200 : Int32)]) dX7_pages_5 rfl ml_RX7_119 st_yX7_in co_X7_in in_TableSetterModel pl_X7_in (Nat.le_of_ble_eq_true rfl) (Nat.le_of_ble_eq_true rfl) (Nat.le_of_ble_eq_true rfl) ?_
  refine Ev.gi (e_X7_in  h) (fun r2 m1 h => ?_)
  refine vJ.if_ne (tgt := 13) dX7_pages_8 (by decide) (fun hc11 => ?_) (fun hc11 => ?_)
  · replace h := h.2 hc11
    refine vJ.aload_n dX7_pages_13 rfl rfl ?_
    refine vJ.aload_n dX7_pages_14 rfl rfl ?_
    refine vJ.getR (ci := 7) (k := 23) (j := 181) dX7_pages_15 sh_163 (Nat.le_of_ble_eq_true rfl) rfl inX7 (Nat.le_of_ble_eq_true rfl) rfl fl_RX7_62 ?_
    refine vJ.callV (ci := 7) (Yc := mX7_layHeights) (frc := 1) (loc := 28) (as := [.ref 181]) dX7_pages_18 rfl sh_163 (Nat.le_of_ble_eq_true rfl) rfl ml_RX7_202 im_yX7_layHeights se_yX7_layHeights co_X7_layHeights in_TableSetterModel pl_X7_layHeights (Nat.le_of_ble_eq_true rfl) (Nat.le_of_ble_eq_true rfl) (Nat.le_of_ble_eq_true rfl) ?_
    refine Ev.gv h (fun m3 h => ?_)
    refine vJ.aload_n dX7_pages_21 rfl rfl ?_
    refine vJ.callV (ci := 7) (Yc := mX7_headRows) (frc := 2) (loc := 46) (as := []) dX7_pages_22 rfl sh_163 (Nat.le_of_ble_eq_true rfl) rfl ml_RX7_213 im_yX7_headRows se_yX7_headRows co_X7_headRows in_TableSetterModel pl_X7_headRows (Nat.le_of_ble_eq_true rfl) (Nat.le_of_ble_eq_true rfl) (Nat.le_of_ble_eq_true rfl) ?_
    refine Ev.gi h (fun r5 m4 h => ?_)
    refine vJ.istore_n (ls2 := [(0, .ref 163), (1, .int l1), (2, .int r5)]) dX7_pages_25 rfl (Nat.le_of_ble_eq_true rfl) rfl ?_
    refine vJ.aload_n dX7_pages_26 rfl rfl ?_
    refine vJ.getR (ci := 7) (k := 38) (j := 194) dX7_pages_27 sh_163 (Nat.le_of_ble_eq_true rfl) rfl inX7 (Nat.le_of_ble_eq_true rfl) rfl fl_RX7_101 ?_
    refine vJ.aload_n dX7_pages_30 rfl rfl ?_
    refine vJ.getI (ci := 7) (k := 2) dX7_pages_31 sh_163 (Nat.le_of_ble_eq_true rfl) rfl inX7 (Nat.le_of_ble_eq_true rfl) rfl fl_RX7_123 ?_
    refine vJ.iconst dX7_pages_34 ci_0 ?_
    obtain ⟨hb6, h⟩ := h
    refine vJ.iast dX7_pages_35 sh_194 (Nat.le_of_ble_eq_true rfl) hb6 ?_
    refine vJ.topm (fun m7 em7 => ?_)
    replace h := h m7 em7
    refine vJ.aload_n dX7_pages_36 rfl rfl ?_
    refine vJ.getR (ci := 7) (k := 39) (j := 195) dX7_pages_37 sh_163 (Nat.le_of_ble_eq_true rfl) rfl inX7 (Nat.le_of_ble_eq_true rfl) rfl fl_RX7_104 ?_
    refine vJ.aload_n dX7_pages_40 rfl rfl ?_
    refine vJ.getI (ci := 7) (k := 2) dX7_pages_41 sh_163 (Nat.le_of_ble_eq_true rfl) rfl inX7 (Nat.le_of_ble_eq_true rfl) rfl fl_RX7_123 ?_
    refine vJ.lconst dX7_pages_44 cl_0 ?_
    obtain ⟨hb8, h⟩ := h
    refine vJ.last dX7_pages_45 sh_195 (Nat.le_of_ble_eq_true rfl) hb8 ?_
    refine vJ.topm (fun m9 em9 => ?_)
    replace h := h m9 em9
    refine vJ.aload_n dX7_pages_46 rfl rfl ?_
    refine vJ.getI (ci := 7) (k := 2) dX7_pages_47 sh_163 (Nat.le_of_ble_eq_true rfl) rfl inX7 (Nat.le_of_ble_eq_true rfl) rfl fl_RX7_123 ?_
    refine vJ.iconst dX7_pages_50 ci_1 ?_
    refine vJ.isub dX7_pages_51 ?_
    refine vJ.topi (fun v10 ev10 => ?_)
    replace h := h v10 ev10
    refine vJ.istore_n (ls2 := [(0, .ref 163), (1, .int l1), (2, .int r5), (3, .int v10)]) dX7_pages_52 rfl (Nat.le_of_ble_eq_true rfl) rfl ?_
    exact h
  · replace h := h.1 hc11
    refine vJ.iconst dX7_pages_11 ci_m1 ?_
    exact vJ.ireturn dX7_pages_12 rfl rfl rfl ⟨rfl, _, rfl, h⟩
def EI_X7_pages (l1 : Int32) (m : vM) (P : Int32 → vM → Prop) : Prop := Ev mX7_pages 4 95 197 [.ref 163, .int l1] 197 SH m (vPi P)
theorem f_X7_pages {l1 : Int32} {m : vM} {P : Int32 → vM → Prop} (h : J_X7_pages_0 l1 m P) : EI_X7_pages l1 m P := Ev.of pn_X7_pages (Nat.le_of_ble_eq_true rfl) h
def J_X7_pages_280 (l1 : Int32) (l2 : Int32) (l3 : Int32) (m : vM) (P : Int32 → vM → Prop) : Prop := vJ mX7_pages 4 95 197 none 280 [(0, .ref 163), (1, .int l1), (2, .int l2), (3, .int l3)] [] 197 SH m (vPi P)
def J_X7_pages_70 (l1 : Int32) (l2 : Int32) (l3 : Int32) (l4 : Int32) (m : vM) (P : Int32 → vM → Prop) : Prop := vJ mX7_pages 4 95 197 none 70 [(0, .ref 163), (1, .int l1), (2, .int l2), (3, .int l3), (4, .int l4)] [] 197 SH m (vPi P)
def wp_X7_pages_53 (l1 : Int32) (l2 : Int32) (l3 : Int32) (m : vM) (P : Int32 → vM → Prop) : Prop :=
  ((l3 < l2 →
    ∀ m1 : vM, m1 = upI m 163 32 (0 : Int32) →
    J_X7_pages_280 l1 l2 (0 : Int32) m1 P) ∧
  (¬ l3 < l2 →
    vp_in l3 17 ∧
    ∀ m3 : vM, m3 = upI m 196 (Int32.toNatClampNeg l3) (0 : Int32) →
    ∀ v4 : Int32, v4 = (l3 + (1 : Int32)) →
    J_X7_pages_70 l1 l2 l3 v4 m3 P))
set_option maxRecDepth 20000 in
set_option maxHeartbeats 4000000 in
theorem b_X7_pages_53 {l1 : Int32} {l2 : Int32} {l3 : Int32} {m : vM} {P : Int32 → vM → Prop}  (h : wp_X7_pages_53 l1 l2 l3 m P) : J_X7_pages_53 l1 l2 l3 m P := by
  show vJ mX7_pages 4 95 197 none 53 [(0, .ref 163), (1, .int l1), (2, .int l2), (3, .int l3)] [] 197 SH m (vPi P)
  unfold wp_X7_pages_53 at h
  refine vJ.iload_n dX7_pages_53 rfl rfl ?_
  refine vJ.iload_n dX7_pages_54 rfl rfl ?_
  refine vJ.icmp_lt (tgt := 273) dX7_pages_55 (by decide) (fun hc5 => ?_) (fun hc5 => ?_)
  · replace h := h.1 hc5
    refine vJ.aload_n dX7_pages_273 rfl rfl ?_
    refine vJ.iconst dX7_pages_274 ci_0 ?_
    refine vJ.putI (ci := 7) (k := 32) dX7_pages_275 sh_163 (Nat.le_of_ble_eq_true rfl) rfl inX7 tyX7 tyX7_ok nmX7 (Nat.le_of_ble_eq_true rfl) rfl rfl fl_RX7_138 rfl rfl ?_
    refine vJ.topm (fun m1 em1 => ?_)
    replace h := h m1 em1
    refine vJ.iconst dX7_pages_278 ci_0 ?_
    refine vJ.istore_n (ls2 := [(0, .ref 163), (1, .int l1), (2, .int l2), (3, .int (0 : Int32))]) dX7_pages_279 rfl (Nat.le_of_ble_eq_true rfl) rfl ?_
    exact h
  · replace h := h.2 hc5
    refine vJ.aload_n dX7_pages_58 rfl rfl ?_
    refine vJ.getR (ci := 7) (k := 40) (j := 196) dX7_pages_59 sh_163 (Nat.le_of_ble_eq_true rfl) rfl inX7 (Nat.le_of_ble_eq_true rfl) rfl fl_RX7_108 ?_
    refine vJ.iload_n dX7_pages_62 rfl rfl ?_
    refine vJ.iconst dX7_pages_63 ci_0 ?_
    obtain ⟨hb2, h⟩ := h
    refine vJ.iast dX7_pages_64 sh_196 (Nat.le_of_ble_eq_true rfl) hb2 ?_
    refine vJ.topm (fun m3 em3 => ?_)
    replace h := h m3 em3
    refine vJ.iload_n dX7_pages_65 rfl rfl ?_
    refine vJ.iconst dX7_pages_66 ci_1 ?_
    refine vJ.iadd dX7_pages_67 ?_
    refine vJ.topi (fun v4 ev4 => ?_)
    replace h := h v4 ev4
    refine vJ.istore (ls2 := [(0, .ref 163), (1, .int l1), (2, .int l2), (3, .int l3), (4, .int v4)]) dX7_pages_68 (Nat.le_of_ble_eq_true rfl) rfl ?_
    exact h
def J_X7_pages_322 (l1 : Int32) (l2 : Int32) (l3 : Int32) (m : vM) (P : Int32 → vM → Prop) : Prop := vJ mX7_pages 4 95 197 none 322 [(0, .ref 163), (1, .int l1), (2, .int l2), (3, .int l3)] [] 197 SH m (vPi P)
def wp_X7_pages_280 (l1 : Int32) (l2 : Int32) (l3 : Int32) (m : vM) (P : Int32 → vM → Prop) : Prop :=
  (((16 : Int32) ≤ l3 →
    (((m.1 163 2) ≤ l2 →
      J_X7_pages_322 l1 l2 l2 m P) ∧
    (¬ (m.1 163 2) ≤ l2 →
      vp_in l2 17 ∧
      (((m.1 196 (Int32.toNatClampNeg l2)) = (0 : Int32) →
        P (-9 : Int32) m) ∧
      (¬ (m.1 196 (Int32.toNatClampNeg l2)) = (0 : Int32) →
        J_X7_pages_322 l1 l2 l2 m P))))) ∧
  (¬ (16 : Int32) ≤ l3 →
    vp_in l3 16 ∧
    ∀ m5 : vM, m5 = upI m 193 (Int32.toNatClampNeg l3) (-9 : Int32) →
    J_X7_pages_280 l1 l2 (l3 + (1 : Int32)) m5 P))
set_option maxRecDepth 20000 in
set_option maxHeartbeats 4000000 in
theorem b_X7_pages_280 {l1 : Int32} {l2 : Int32} {l3 : Int32} {m : vM} {P : Int32 → vM → Prop}  (h : wp_X7_pages_280 l1 l2 l3 m P) : J_X7_pages_280 l1 l2 l3 m P := by
  show vJ mX7_pages 4 95 197 none 280 [(0, .ref 163), (1, .int l1), (2, .int l2), (3, .int l3)] [] 197 SH m (vPi P)
  unfold wp_X7_pages_280 at h
  refine vJ.iload_n dX7_pages_280 rfl rfl ?_
  refine vJ.bipush dX7_pages_281 cb_16 ?_
  refine vJ.icmp_ge (tgt := 300) dX7_pages_283 (by decide) (fun hc6 => ?_) (fun hc6 => ?_)
  · replace h := h.1 hc6
    refine vJ.iload_n dX7_pages_300 rfl rfl ?_
    refine vJ.aload_n dX7_pages_301 rfl rfl ?_
    refine vJ.getI (ci := 7) (k := 2) dX7_pages_302 sh_163 (Nat.le_of_ble_eq_true rfl) rfl inX7 (Nat.le_of_ble_eq_true rfl) rfl fl_RX7_123 ?_
    refine vJ.icmp_ge (tgt := 320) dX7_pages_305 (by decide) (fun hc3 => ?_) (fun hc3 => ?_)
    · replace h := h.1 hc3
      refine vJ.iload_n dX7_pages_320 rfl rfl ?_
      refine vJ.istore_n (ls2 := [(0, .ref 163), (1, .int l1), (2, .int l2), (3, .int l2)]) dX7_pages_321 rfl (Nat.le_of_ble_eq_true rfl) rfl ?_
      exact h
    · replace h := h.2 hc3
      refine vJ.aload_n dX7_pages_308 rfl rfl ?_
      refine vJ.getR (ci := 7) (k := 40) (j := 196) dX7_pages_309 sh_163 (Nat.le_of_ble_eq_true rfl) rfl inX7 (Nat.le_of_ble_eq_true rfl) rfl fl_RX7_108 ?_
      refine vJ.iload_n dX7_pages_312 rfl rfl ?_
      obtain ⟨hb1, h⟩ := h
      refine vJ.iald dX7_pages_313 sh_196 (Nat.le_of_ble_eq_true rfl) hb1 ?_
      refine vJ.if_ne (tgt := 320) dX7_pages_314 (by decide) (fun hc2 => ?_) (fun hc2 => ?_)
      · replace h := h.2 hc2
        refine vJ.iload_n dX7_pages_320 rfl rfl ?_
        refine vJ.istore_n (ls2 := [(0, .ref 163), (1, .int l1), (2, .int l2), (3, .int l2)]) dX7_pages_321 rfl (Nat.le_of_ble_eq_true rfl) rfl ?_
        exact h
      · replace h := h.1 hc2
        refine vJ.bipush dX7_pages_317 cb_m9 ?_
        exact vJ.ireturn dX7_pages_319 rfl rfl rfl ⟨rfl, _, rfl, h⟩
  · replace h := h.2 hc6
    refine vJ.aload_n dX7_pages_286 rfl rfl ?_
    refine vJ.getR (ci := 7) (k := 37) (j := 193) dX7_pages_287 sh_163 (Nat.le_of_ble_eq_true rfl) rfl inX7 (Nat.le_of_ble_eq_true rfl) rfl fl_RX7_98 ?_
    refine vJ.iload_n dX7_pages_290 rfl rfl ?_
    refine vJ.bipush dX7_pages_291 cb_m9 ?_
    obtain ⟨hb4, h⟩ := h
    refine vJ.iast dX7_pages_293 sh_193 (Nat.le_of_ble_eq_true rfl) hb4 ?_
    refine vJ.topm (fun m5 em5 => ?_)
    replace h := h m5 em5
    refine vJ.iinc (v := l3 + (1 : Int32)) (ls2 := [(0, .ref 163), (1, .int l1), (2, .int l2), (3, .int (l3 + (1 : Int32)))]) dX7_pages_294 rfl (congrArg (l3 + ·) ci_1) (Nat.le_of_ble_eq_true rfl) rfl ?_
    refine vJ.goto (tgt := 280) dX7_pages_297 (by decide) ?_
    exact h
def J_X7_pages_107 (l1 : Int32) (l2 : Int32) (l3 : Int32) (l4 : Int32) (m : vM) (P : Int32 → vM → Prop) : Prop := vJ mX7_pages 4 95 197 none 107 [(0, .ref 163), (1, .int l1), (2, .int l2), (3, .int l3), (4, .int l4)] [] 197 SH m (vPi P)
def J_X7_pages_111 (l1 : Int32) (l2 : Int32) (l3 : Int32) (l4 : Int32) (m : vM) (P : Int32 → vM → Prop) : Prop := vJ mX7_pages 4 95 197 none 111 [(0, .ref 163), (1, .int l1), (2, .int l2), (3, .int l3), (4, .int l4)] [] 197 SH m (vPi P)
def wp_X7_pages_70 (l1 : Int32) (l2 : Int32) (l3 : Int32) (l4 : Int32) (m : vM) (P : Int32 → vM → Prop) : Prop :=
  (((m.1 163 2) < l4 →
    J_X7_pages_53 l1 l2 (l3 + (-1 : Int32)) m P) ∧
  (¬ (m.1 163 2) < l4 →
    ((l4 = (m.1 163 2) →
      J_X7_pages_107 l1 l2 l3 l4 m P) ∧
    (¬ l4 = (m.1 163 2) →
      EI_X7_mayBreakAt l4 m (fun r2 m1 =>
        ((r2 = (0 : Int32) →
          J_X7_pages_111 l1 l2 l3 l4 m1 P) ∧
        (¬ r2 = (0 : Int32) →
          vp_in l4 17 ∧
          (((m1.1 196 (Int32.toNatClampNeg l4)) ≤ (0 : Int32) →
            J_X7_pages_111 l1 l2 l3 l4 m1 P) ∧
          (¬ (m1.1 196 (Int32.toNatClampNeg l4)) ≤ (0 : Int32) →
            J_X7_pages_107 l1 l2 l3 l4 m1 P)))))))))
set_option maxRecDepth 20000 in
set_option maxHeartbeats 4000000 in
theorem b_X7_pages_70 {l1 : Int32} {l2 : Int32} {l3 : Int32} {l4 : Int32} {m : vM} {P : Int32 → vM → Prop}  (h : wp_X7_pages_70 l1 l2 l3 l4 m P) : J_X7_pages_70 l1 l2 l3 l4 m P := by
  show vJ mX7_pages 4 95 197 none 70 [(0, .ref 163), (1, .int l1), (2, .int l2), (3, .int l3), (4, .int l4)] [] 197 SH m (vPi P)
  unfold wp_X7_pages_70 at h
  refine vJ.iload dX7_pages_70 rfl ?_
  refine vJ.aload_n dX7_pages_72 rfl rfl ?_
  refine vJ.getI (ci := 7) (k := 2) dX7_pages_73 sh_163 (Nat.le_of_ble_eq_true rfl) rfl inX7 (Nat.le_of_ble_eq_true rfl) rfl fl_RX7_123 ?_
  refine vJ.icmp_gt (tgt := 267) dX7_pages_76 (by decide) (fun hc7 => ?_) (fun hc7 => ?_)
  · replace h := h.1 hc7
    refine vJ.iinc (v := l3 + (-1 : Int32)) (ls2 := [(0, .ref 163), (1, .int l1), (2, .int l2), (3, .int (l3 + (-1 : Int32))), (4, .int l4)]) dX7_pages_267 rfl (congrArg (l3 + ·) ci_m1) (Nat.le_of_ble_eq_true rfl) rfl ?_
    refine vJ.goto (tgt := 53) dX7_pages_270 (by decide) ?_
    refine vJ.sub [0, 1, 2, 3] rfl ?_
    exact h
  · replace h := h.2 hc7
    refine vJ.iload dX7_pages_79 rfl ?_
    refine vJ.aload_n dX7_pages_81 rfl rfl ?_
    refine vJ.getI (ci := 7) (k := 2) dX7_pages_82 sh_163 (Nat.le_of_ble_eq_true rfl) rfl inX7 (Nat.le_of_ble_eq_true rfl) rfl fl_RX7_123 ?_
    refine vJ.icmp_eq (tgt := 107) dX7_pages_85 (by decide) (fun hc6 => ?_) (fun hc6 => ?_)
    · replace h := h.1 hc6
      exact h
    · replace h := h.2 hc6
      refine vJ.aload_n dX7_pages_88 rfl rfl ?_
      refine vJ.iload dX7_pages_89 rfl ?_
      refine vJ.callV (ci := 7) (Yc := mX7_mayBreakAt) (frc := 3) (loc := 71) (as := [.int l4]) dX7_pages_91 rfl sh_163 (Nat.le_of_ble_eq_true rfl) rfl ml_RX7_217 im_yX7_mayBreakAt se_yX7_mayBreakAt co_X7_mayBreakAt in_TableSetterModel pl_X7_mayBreakAt (Nat.le_of_ble_eq_true rfl) (Nat.le_of_ble_eq_true rfl) (Nat.le_of_ble_eq_true rfl) ?_
      refine Ev.gi h (fun r2 m1 h => ?_)
      refine vJ.if_eq (tgt := 111) dX7_pages_94 (by decide) (fun hc5 => ?_) (fun hc5 => ?_)
      · replace h := h.1 hc5
        exact h
      · replace h := h.2 hc5
        refine vJ.aload_n dX7_pages_97 rfl rfl ?_
        refine vJ.getR (ci := 7) (k := 40) (j := 196) dX7_pages_98 sh_163 (Nat.le_of_ble_eq_true rfl) rfl inX7 (Nat.le_of_ble_eq_true rfl) rfl fl_RX7_108 ?_
        refine vJ.iload dX7_pages_101 rfl ?_
        obtain ⟨hb3, h⟩ := h
        refine vJ.iald dX7_pages_103 sh_196 (Nat.le_of_ble_eq_true rfl) hb3 ?_
        refine vJ.if_le (tgt := 111) dX7_pages_104 (by decide) (fun hc4 => ?_) (fun hc4 => ?_)
        · replace h := h.1 hc4
          exact h
        · replace h := h.2 hc4
          exact h
def J_X7_pages_454 (l2 : Int32) (l3 : Int32) (m : vM) (P : Int32 → vM → Prop) : Prop := vJ mX7_pages 4 95 197 none 454 [(0, .ref 163), (2, .int l2), (3, .int l3)] [] 197 SH m (vPi P)
def J_X7_pages_401 (l1 : Int32) (l2 : Int32) (l3 : Int32) (l4 : Int32) (l5 : Int32) (m : vM) (P : Int32 → vM → Prop) : Prop := vJ mX7_pages 4 95 197 none 401 [(0, .ref 163), (1, .int l1), (2, .int l2), (3, .int l3), (4, .int l4), (5, .int l5)] [] 197 SH m (vPi P)
def wp_X7_pages_322 (l1 : Int32) (l2 : Int32) (l3 : Int32) (m : vM) (P : Int32 → vM → Prop) : Prop :=
  (((m.1 163 2) ≤ l3 →
    J_X7_pages_454 l2 (0 : Int32) m P) ∧
  (¬ (m.1 163 2) ≤ l3 →
    vp_in l3 17 ∧
    ∀ v2 : Int32, v2 = (l3 + (m.1 196 (Int32.toNatClampNeg l3))) →
    vp_in (m.1 163 32) 16 ∧
    ∀ m4 : vM, m4 = upI m 189 (Int32.toNatClampNeg (m.1 163 32)) l3 →
    vp_in (m4.1 163 32) 16 ∧
    ∀ m6 : vM, m6 = upI m4 190 (Int32.toNatClampNeg (m4.1 163 32)) (v2 - l3) →
    EI_X7_emptyOf l1 l3 v2 l2 m6 (fun r8 m7 =>
      vp_in (m6.1 163 32) 16 ∧
      ∀ m10 : vM, m10 = upI m7 191 (Int32.toNatClampNeg (m6.1 163 32)) r8 →
      EI_X7_notesOn l3 v2 l2 m10 (fun r12 m11 =>
        vp_in (m10.1 163 32) 16 ∧
        ∀ m14 : vM, m14 = upI m11 192 (Int32.toNatClampNeg (m10.1 163 32)) r12 →
        J_X7_pages_401 l1 l2 l3 v2 l3 m14 P))))
set_option maxRecDepth 20000 in
set_option maxHeartbeats 4000000 in
theorem b_X7_pages_322 {l1 : Int32} {l2 : Int32} {l3 : Int32} {m : vM} {P : Int32 → vM → Prop}  (h : wp_X7_pages_322 l1 l2 l3 m P) : J_X7_pages_322 l1 l2 l3 m P := by
  show vJ mX7_pages 4 95 197 none 322 [(0, .ref 163), (1, .int l1), (2, .int l2), (3, .int l3)] [] 197 SH m (vPi P)
  unfold wp_X7_pages_322 at h
  refine vJ.iload_n dX7_pages_322 rfl rfl ?_
  refine vJ.aload_n dX7_pages_323 rfl rfl ?_
  refine vJ.getI (ci := 7) (k := 2) dX7_pages_324 sh_163 (Nat.le_of_ble_eq_true rfl) rfl inX7 (Nat.le_of_ble_eq_true rfl) rfl fl_RX7_123 ?_
  refine vJ.icmp_ge (tgt := 452) dX7_pages_327 (by decide) (fun hc15 => ?_) (fun hc15 => ?_)
  · replace h := h.1 hc15
    refine vJ.iconst dX7_pages_452 ci_0 ?_
    refine vJ.istore_n (ls2 := [(0, .ref 163), (1, .int l1), (2, .int l2), (3, .int (0 : Int32))]) dX7_pages_453 rfl (Nat.le_of_ble_eq_true rfl) rfl ?_
    refine vJ.sub [0, 2, 3] rfl ?_
    exact h
  · replace h := h.2 hc15
    refine vJ.iload_n dX7_pages_330 rfl rfl ?_
    refine vJ.aload_n dX7_pages_331 rfl rfl ?_
    refine vJ.getR (ci := 7) (k := 40) (j := 196) dX7_pages_332 sh_163 (Nat.le_of_ble_eq_true rfl) rfl inX7 (Nat.le_of_ble_eq_true rfl) rfl fl_RX7_108 ?_
    refine vJ.iload_n dX7_pages_335 rfl rfl ?_
    obtain ⟨hb1, h⟩ := h
    refine vJ.iald dX7_pages_336 sh_196 (Nat.le_of_ble_eq_true rfl) hb1 ?_
    refine vJ.iadd dX7_pages_337 ?_
    refine vJ.topi (fun v2 ev2 => ?_)
    replace h := h v2 ev2
    refine vJ.istore (ls2 := [(0, .ref 163), (1, .int l1), (2, .int l2), (3, .int l3), (4, .int v2)]) dX7_pages_338 (Nat.le_of_ble_eq_true rfl) rfl ?_
    refine vJ.aload_n dX7_pages_340 rfl rfl ?_
    refine vJ.getR (ci := 7) (k := 33) (j := 189) dX7_pages_341 sh_163 (Nat.le_of_ble_eq_true rfl) rfl inX7 (Nat.le_of_ble_eq_true rfl) rfl fl_RX7_86 ?_
    refine vJ.aload_n dX7_pages_344 rfl rfl ?_
    refine vJ.getI (ci := 7) (k := 32) dX7_pages_345 sh_163 (Nat.le_of_ble_eq_true rfl) rfl inX7 (Nat.le_of_ble_eq_true rfl) rfl fl_RX7_138 ?_
    refine vJ.iload_n dX7_pages_348 rfl rfl ?_
    obtain ⟨hb3, h⟩ := h
    refine vJ.iast dX7_pages_349 sh_189 (Nat.le_of_ble_eq_true rfl) hb3 ?_
    refine vJ.topm (fun m4 em4 => ?_)
    replace h := h m4 em4
    refine vJ.aload_n dX7_pages_350 rfl rfl ?_
    refine vJ.getR (ci := 7) (k := 34) (j := 190) dX7_pages_351 sh_163 (Nat.le_of_ble_eq_true rfl) rfl inX7 (Nat.le_of_ble_eq_true rfl) rfl fl_RX7_89 ?_
    refine vJ.aload_n dX7_pages_354 rfl rfl ?_
    refine vJ.getI (ci := 7) (k := 32) dX7_pages_355 sh_163 (Nat.le_of_ble_eq_true rfl) rfl inX7 (Nat.le_of_ble_eq_true rfl) rfl fl_RX7_138 ?_
    refine vJ.iload dX7_pages_358 rfl ?_
    refine vJ.iload_n dX7_pages_360 rfl rfl ?_
    refine vJ.isub dX7_pages_361 ?_
    obtain ⟨hb5, h⟩ := h
    refine vJ.iast dX7_pages_362 sh_190 (Nat.le_of_ble_eq_true rfl) hb5 ?_
    refine vJ.topm (fun m6 em6 => ?_)
    replace h := h m6 em6
    refine vJ.aload_n dX7_pages_363 rfl rfl ?_
    refine vJ.getR (ci := 7) (k := 35) (j := 191) dX7_pages_364 sh_163 (Nat.le_of_ble_eq_true rfl) rfl inX7 (Nat.le_of_ble_eq_true rfl) rfl fl_RX7_92 ?_
    refine vJ.aload_n dX7_pages_367 rfl rfl ?_
    refine vJ.getI (ci := 7) (k := 32) dX7_pages_368 sh_163 (Nat.le_of_ble_eq_true rfl) rfl inX7 (Nat.le_of_ble_eq_true rfl) rfl fl_RX7_138 ?_
    refine vJ.aload_n dX7_pages_371 rfl rfl ?_
    refine vJ.iload_n dX7_pages_372 rfl rfl ?_
    refine vJ.iload_n dX7_pages_373 rfl rfl ?_
    refine vJ.iload dX7_pages_374 rfl ?_
    refine vJ.iload_n dX7_pages_376 rfl rfl ?_
    refine vJ.callV (ci := 7) (Yc := mX7_emptyOf) (frc := 2) (loc := 51) (as := [.int l1, .int l3, .int v2, .int l2]) dX7_pages_377 rfl sh_163 (Nat.le_of_ble_eq_true rfl) rfl ml_RX7_227 im_yX7_emptyOf se_yX7_emptyOf co_X7_emptyOf in_TableSetterModel pl_X7_emptyOf (Nat.le_of_ble_eq_true rfl) (Nat.le_of_ble_eq_true rfl) (Nat.le_of_ble_eq_true rfl) ?_
    refine Ev.gi h (fun r8 m7 h => ?_)
    obtain ⟨hb9, h⟩ := h
    refine vJ.iast dX7_pages_380 sh_191 (Nat.le_of_ble_eq_true rfl) hb9 ?_
    refine vJ.topm (fun m10 em10 => ?_)
    replace h := h m10 em10
    refine vJ.aload_n dX7_pages_381 rfl rfl ?_
    refine vJ.getR (ci := 7) (k := 36) (j := 192) dX7_pages_382 sh_163 (Nat.le_of_ble_eq_true rfl) rfl inX7 (Nat.le_of_ble_eq_true rfl) rfl fl_RX7_95 ?_
    refine vJ.aload_n dX7_pages_385 rfl rfl ?_
    refine vJ.getI (ci := 7) (k := 32) dX7_pages_386 sh_163 (Nat.le_of_ble_eq_true rfl) rfl inX7 (Nat.le_of_ble_eq_true rfl) rfl fl_RX7_138 ?_
    refine vJ.aload_n dX7_pages_389 rfl rfl ?_
    refine vJ.iload_n dX7_pages_390 rfl rfl ?_
    refine vJ.iload dX7_pages_391 rfl ?_
    refine vJ.iload_n dX7_pages_393 rfl rfl ?_
    refine vJ.callV (ci := 7) (Yc := mX7_notesOn) (frc := 1) (loc := 25) (as := [.int l3, .int v2, .int l2]) dX7_pages_394 rfl sh_163 (Nat.le_of_ble_eq_true rfl) rfl ml_RX7_223 im_yX7_notesOn se_yX7_notesOn co_X7_notesOn in_TableSetterModel pl_X7_notesOn (Nat.le_of_ble_eq_true rfl) (Nat.le_of_ble_eq_true rfl) (Nat.le_of_ble_eq_true rfl) ?_
    refine Ev.gi h (fun r12 m11 h => ?_)
    obtain ⟨hb13, h⟩ := h
    refine vJ.iast dX7_pages_397 sh_192 (Nat.le_of_ble_eq_true rfl) hb13 ?_
    refine vJ.topm (fun m14 em14 => ?_)
    replace h := h m14 em14
    refine vJ.iload_n dX7_pages_398 rfl rfl ?_
    refine vJ.istore (ls2 := [(0, .ref 163), (1, .int l1), (2, .int l2), (3, .int l3), (4, .int v2), (5, .int l3)]) dX7_pages_399 (Nat.le_of_ble_eq_true rfl) rfl ?_
    exact h
def J_X7_pages_223 (l1 : Int32) (l2 : Int32) (l3 : Int32) (l4 : Int32) (l7 : Int32) (l8 : Int64) (m : vM) (P : Int32 → vM → Prop) : Prop := vJ mX7_pages 4 95 197 none 223 [(0, .ref 163), (1, .int l1), (2, .int l2), (3, .int l3), (4, .int l4), (7, .int l7), (8, .long l8)] [] 197 SH m (vPi P)
def J_X7_pages_227 (l1 : Int32) (l2 : Int32) (l3 : Int32) (l4 : Int32) (l7 : Int32) (l8 : Int64) (m : vM) (P : Int32 → vM → Prop) : Prop := vJ mX7_pages 4 95 197 none 227 [(0, .ref 163), (1, .int l1), (2, .int l2), (3, .int l3), (4, .int l4), (7, .int l7), (8, .long l8)] [] 197 SH m (vPi P)
def wp_X7_pages_107 (l1 : Int32) (l2 : Int32) (l3 : Int32) (l4 : Int32) (m : vM) (P : Int32 → vM → Prop) : Prop :=
  (((1 : Int32) = (0 : Int32) →
    (((-1 : Int32) < (0 : Int32) →
      J_X7_pages_70 l1 l2 l3 (l4 + (1 : Int32)) m P) ∧
    (¬ (-1 : Int32) < (0 : Int32) →
      vp_in l4 17 ∧
      ∀ v2 : Int32, v2 = ((1 : Int32) + (m.1 194 (Int32.toNatClampNeg l4))) →
      ((l4 = (m.1 163 2) →
        vp_in l3 17 ∧
        (((m.1 196 (Int32.toNatClampNeg l3)) = (0 : Int32) →
          J_X7_pages_223 l1 l2 l3 l4 v2 (0 : Int64) m P) ∧
        (¬ (m.1 196 (Int32.toNatClampNeg l3)) = (0 : Int32) →
          vp_in l3 17 ∧
          ((v2 < (m.1 194 (Int32.toNatClampNeg l3)) →
            J_X7_pages_223 l1 l2 l3 l4 v2 (0 : Int64) m P) ∧
          (¬ v2 < (m.1 194 (Int32.toNatClampNeg l3)) →
            vp_in l3 17 ∧
            ((v2 = (m.1 194 (Int32.toNatClampNeg l3)) →
              vp_in l3 17 ∧
              (((0 : Int32) < (lg_cmp (0 : Int64) (m.2 195 (Int32.toNatClampNeg l3))) →
                J_X7_pages_227 l1 l2 l3 l4 v2 (0 : Int64) m P) ∧
              (¬ (0 : Int32) < (lg_cmp (0 : Int64) (m.2 195 (Int32.toNatClampNeg l3))) →
                J_X7_pages_223 l1 l2 l3 l4 v2 (0 : Int64) m P))) ∧
            (¬ v2 = (m.1 194 (Int32.toNatClampNeg l3)) →
              J_X7_pages_227 l1 l2 l3 l4 v2 (0 : Int64) m P))))))) ∧
      (¬ l4 = (m.1 163 2) →
        vp_in l4 17 ∧
        ∀ v4 : Int64, v4 = ((m.2 195 (Int32.toNatClampNeg l4)) + ((Int32.toInt64 (-1 : Int32)) * (Int32.toInt64 (-1 : Int32)))) →
        vp_in l3 17 ∧
        (((m.1 196 (Int32.toNatClampNeg l3)) = (0 : Int32) →
          J_X7_pages_223 l1 l2 l3 l4 v2 v4 m P) ∧
        (¬ (m.1 196 (Int32.toNatClampNeg l3)) = (0 : Int32) →
          vp_in l3 17 ∧
          ((v2 < (m.1 194 (Int32.toNatClampNeg l3)) →
            J_X7_pages_223 l1 l2 l3 l4 v2 v4 m P) ∧
          (¬ v2 < (m.1 194 (Int32.toNatClampNeg l3)) →
            vp_in l3 17 ∧
            ((v2 = (m.1 194 (Int32.toNatClampNeg l3)) →
              vp_in l3 17 ∧
              (((0 : Int32) < (lg_cmp v4 (m.2 195 (Int32.toNatClampNeg l3))) →
                J_X7_pages_227 l1 l2 l3 l4 v2 v4 m P) ∧
              (¬ (0 : Int32) < (lg_cmp v4 (m.2 195 (Int32.toNatClampNeg l3))) →
                J_X7_pages_223 l1 l2 l3 l4 v2 v4 m P))) ∧
            (¬ v2 = (m.1 194 (Int32.toNatClampNeg l3)) →
              J_X7_pages_227 l1 l2 l3 l4 v2 v4 m P))))))))))) ∧
  (¬ (1 : Int32) = (0 : Int32) →
    EI_X7_emptyOf l1 l3 l4 l2 m (fun r24 m23 =>
      ((r24 < (0 : Int32) →
        J_X7_pages_70 l1 l2 l3 (l4 + (1 : Int32)) m23 P) ∧
      (¬ r24 < (0 : Int32) →
        vp_in l4 17 ∧
        ∀ v26 : Int32, v26 = ((1 : Int32) + (m23.1 194 (Int32.toNatClampNeg l4))) →
        ((l4 = (m23.1 163 2) →
          vp_in l3 17 ∧
          (((m23.1 196 (Int32.toNatClampNeg l3)) = (0 : Int32) →
            J_X7_pages_223 l1 l2 l3 l4 v26 (0 : Int64) m23 P) ∧
          (¬ (m23.1 196 (Int32.toNatClampNeg l3)) = (0 : Int32) →
            vp_in l3 17 ∧
            ((v26 < (m23.1 194 (Int32.toNatClampNeg l3)) →
              J_X7_pages_223 l1 l2 l3 l4 v26 (0 : Int64) m23 P) ∧
            (¬ v26 < (m23.1 194 (Int32.toNatClampNeg l3)) →
              vp_in l3 17 ∧
              ((v26 = (m23.1 194 (Int32.toNatClampNeg l3)) →
                vp_in l3 17 ∧
                (((0 : Int32) < (lg_cmp (0 : Int64) (m23.2 195 (Int32.toNatClampNeg l3))) →
                  J_X7_pages_227 l1 l2 l3 l4 v26 (0 : Int64) m23 P) ∧
                (¬ (0 : Int32) < (lg_cmp (0 : Int64) (m23.2 195 (Int32.toNatClampNeg l3))) →
                  J_X7_pages_223 l1 l2 l3 l4 v26 (0 : Int64) m23 P))) ∧
              (¬ v26 = (m23.1 194 (Int32.toNatClampNeg l3)) →
                J_X7_pages_227 l1 l2 l3 l4 v26 (0 : Int64) m23 P))))))) ∧
        (¬ l4 = (m23.1 163 2) →
          vp_in l4 17 ∧
          ∀ v28 : Int64, v28 = ((m23.2 195 (Int32.toNatClampNeg l4)) + ((Int32.toInt64 r24) * (Int32.toInt64 r24))) →
          vp_in l3 17 ∧
          (((m23.1 196 (Int32.toNatClampNeg l3)) = (0 : Int32) →
            J_X7_pages_223 l1 l2 l3 l4 v26 v28 m23 P) ∧
          (¬ (m23.1 196 (Int32.toNatClampNeg l3)) = (0 : Int32) →
            vp_in l3 17 ∧
            ((v26 < (m23.1 194 (Int32.toNatClampNeg l3)) →
              J_X7_pages_223 l1 l2 l3 l4 v26 v28 m23 P) ∧
            (¬ v26 < (m23.1 194 (Int32.toNatClampNeg l3)) →
              vp_in l3 17 ∧
              ((v26 = (m23.1 194 (Int32.toNatClampNeg l3)) →
                vp_in l3 17 ∧
                (((0 : Int32) < (lg_cmp v28 (m23.2 195 (Int32.toNatClampNeg l3))) →
                  J_X7_pages_227 l1 l2 l3 l4 v26 v28 m23 P) ∧
                (¬ (0 : Int32) < (lg_cmp v28 (m23.2 195 (Int32.toNatClampNeg l3))) →
                  J_X7_pages_223 l1 l2 l3 l4 v26 v28 m23 P))) ∧
              (¬ v26 = (m23.1 194 (Int32.toNatClampNeg l3)) →
                J_X7_pages_227 l1 l2 l3 l4 v26 v28 m23 P)))))))))))))
set_option maxRecDepth 20000 in
set_option maxHeartbeats 4000000 in
theorem b_X7_pages_107 {l1 : Int32} {l2 : Int32} {l3 : Int32} {l4 : Int32} {m : vM} {P : Int32 → vM → Prop}  (h : wp_X7_pages_107 l1 l2 l3 l4 m P) : J_X7_pages_107 l1 l2 l3 l4 m P := by
  show vJ mX7_pages 4 95 197 none 107 [(0, .ref 163), (1, .int l1), (2, .int l2), (3, .int l3), (4, .int l4)] [] 197 SH m (vPi P)
  unfold wp_X7_pages_107 at h
  refine vJ.iconst dX7_pages_107 ci_1 ?_
  refine vJ.goto (tgt := 112) dX7_pages_108 (by decide) ?_
  refine vJ.istore (ls2 := [(0, .ref 163), (1, .int l1), (2, .int l2), (3, .int l3), (4, .int l4), (5, .int (1 : Int32))]) dX7_pages_112 (Nat.le_of_ble_eq_true rfl) rfl ?_
  refine vJ.iload dX7_pages_114 rfl ?_
  refine vJ.if_eq (tgt := 131) dX7_pages_116 (by decide) (fun hc47 => ?_) (fun hc47 => ?_)
  · replace h := h.1 hc47
    refine vJ.iconst dX7_pages_131 ci_m1 ?_
    refine vJ.istore (ls2 := [(0, .ref 163), (1, .int l1), (2, .int l2), (3, .int l3), (4, .int l4), (5, .int (1 : Int32)), (6, .int (-1 : Int32))]) dX7_pages_132 (Nat.le_of_ble_eq_true rfl) rfl ?_
    refine vJ.iload dX7_pages_134 rfl ?_
    refine vJ.if_lt (tgt := 261) dX7_pages_136 (by decide) (fun hc22 => ?_) (fun hc22 => ?_)
    · replace h := h.1 hc22
      refine vJ.iinc (v := l4 + (1 : Int32)) (ls2 := [(0, .ref 163), (1, .int l1), (2, .int l2), (3, .int l3), (4, .int (l4 + (1 : Int32))), (5, .int (1 : Int32)), (6, .int (-1 : Int32))]) dX7_pages_261 rfl (congrArg (l4 + ·) ci_1) (Nat.le_of_ble_eq_true rfl) rfl ?_
      refine vJ.goto (tgt := 70) dX7_pages_264 (by decide) ?_
      refine vJ.sub [0, 1, 2, 3, 4] rfl ?_
      exact h
    · replace h := h.2 hc22
      refine vJ.iconst dX7_pages_139 ci_1 ?_
      refine vJ.aload_n dX7_pages_140 rfl rfl ?_
      refine vJ.getR (ci := 7) (k := 38) (j := 194) dX7_pages_141 sh_163 (Nat.le_of_ble_eq_true rfl) rfl inX7 (Nat.le_of_ble_eq_true rfl) rfl fl_RX7_101 ?_
      refine vJ.iload dX7_pages_144 rfl ?_
      obtain ⟨hb1, h⟩ := h
      refine vJ.iald dX7_pages_146 sh_194 (Nat.le_of_ble_eq_true rfl) hb1 ?_
      refine vJ.iadd dX7_pages_147 ?_
      refine vJ.topi (fun v2 ev2 => ?_)
      replace h := h v2 ev2
      refine vJ.istore (ls2 := [(0, .ref 163), (1, .int l1), (2, .int l2), (3, .int l3), (4, .int l4), (5, .int (1 : Int32)), (6, .int (-1 : Int32)), (7, .int v2)]) dX7_pages_148 (Nat.le_of_ble_eq_true rfl) rfl ?_
      refine vJ.iload dX7_pages_150 rfl ?_
      refine vJ.aload_n dX7_pages_152 rfl rfl ?_
      refine vJ.getI (ci := 7) (k := 2) dX7_pages_153 sh_163 (Nat.le_of_ble_eq_true rfl) rfl inX7 (Nat.le_of_ble_eq_true rfl) rfl fl_RX7_123 ?_
      refine vJ.icmp_ne (tgt := 163) dX7_pages_156 (by decide) (fun hc21 => ?_) (fun hc21 => ?_)
      · replace h := h.2 hc21
        refine vJ.aload_n dX7_pages_163 rfl rfl ?_
        refine vJ.getR (ci := 7) (k := 39) (j := 195) dX7_pages_164 sh_163 (Nat.le_of_ble_eq_true rfl) rfl inX7 (Nat.le_of_ble_eq_true rfl) rfl fl_RX7_104 ?_
        refine vJ.iload dX7_pages_167 rfl ?_
        obtain ⟨hb3, h⟩ := h
        refine vJ.lald dX7_pages_169 sh_195 (Nat.le_of_ble_eq_true rfl) hb3 ?_
        refine vJ.iload dX7_pages_170 rfl ?_
        refine vJ.i2l dX7_pages_172 ?_
        refine vJ.iload dX7_pages_173 rfl ?_
        refine vJ.i2l dX7_pages_175 ?_
        refine vJ.lmul dX7_pages_176 ?_
        refine vJ.ladd dX7_pages_177 ?_
        refine vJ.topl (fun v4 ev4 => ?_)
        replace h := h v4 ev4
        refine vJ.lstore (ls2 := [(0, .ref 163), (1, .int l1), (2, .int l2), (3, .int l3), (4, .int l4), (5, .int (1 : Int32)), (6, .int (-1 : Int32)), (7, .int v2), (8, .long v4)]) dX7_pages_178 (Nat.le_of_ble_eq_true rfl) rfl ?_
        refine vJ.aload_n dX7_pages_180 rfl rfl ?_
        refine vJ.getR (ci := 7) (k := 40) (j := 196) dX7_pages_181 sh_163 (Nat.le_of_ble_eq_true rfl) rfl inX7 (Nat.le_of_ble_eq_true rfl) rfl fl_RX7_108 ?_
        refine vJ.iload_n dX7_pages_184 rfl rfl ?_
        obtain ⟨hb5, h⟩ := h
        refine vJ.iald dX7_pages_185 sh_196 (Nat.le_of_ble_eq_true rfl) hb5 ?_
        refine vJ.if_eq (tgt := 223) dX7_pages_186 (by decide) (fun hc12 => ?_) (fun hc12 => ?_)
        · replace h := h.1 hc12
          refine vJ.sub [0, 1, 2, 3, 4, 7, 8] rfl ?_
          exact h
        · replace h := h.2 hc12
          refine vJ.iload dX7_pages_189 rfl ?_
          refine vJ.aload_n dX7_pages_191 rfl rfl ?_
          refine vJ.getR (ci := 7) (k := 38) (j := 194) dX7_pages_192 sh_163 (Nat.le_of_ble_eq_true rfl) rfl inX7 (Nat.le_of_ble_eq_true rfl) rfl fl_RX7_101 ?_
          refine vJ.iload_n dX7_pages_195 rfl rfl ?_
          obtain ⟨hb6, h⟩ := h
          refine vJ.iald dX7_pages_196 sh_194 (Nat.le_of_ble_eq_true rfl) hb6 ?_
          refine vJ.icmp_lt (tgt := 223) dX7_pages_197 (by decide) (fun hc11 => ?_) (fun hc11 => ?_)
          · replace h := h.1 hc11
            refine vJ.sub [0, 1, 2, 3, 4, 7, 8] rfl ?_
            exact h
          · replace h := h.2 hc11
            refine vJ.iload dX7_pages_200 rfl ?_
            refine vJ.aload_n dX7_pages_202 rfl rfl ?_
            refine vJ.getR (ci := 7) (k := 38) (j := 194) dX7_pages_203 sh_163 (Nat.le_of_ble_eq_true rfl) rfl inX7 (Nat.le_of_ble_eq_true rfl) rfl fl_RX7_101 ?_
            refine vJ.iload_n dX7_pages_206 rfl rfl ?_
            obtain ⟨hb7, h⟩ := h
            refine vJ.iald dX7_pages_207 sh_194 (Nat.le_of_ble_eq_true rfl) hb7 ?_
            refine vJ.icmp_ne (tgt := 227) dX7_pages_208 (by decide) (fun hc10 => ?_) (fun hc10 => ?_)
            · replace h := h.2 hc10
              refine vJ.sub [0, 1, 2, 3, 4, 7, 8] rfl ?_
              exact h
            · replace h := h.1 hc10
              refine vJ.lload dX7_pages_211 rfl ?_
              refine vJ.aload_n dX7_pages_213 rfl rfl ?_
              refine vJ.getR (ci := 7) (k := 39) (j := 195) dX7_pages_214 sh_163 (Nat.le_of_ble_eq_true rfl) rfl inX7 (Nat.le_of_ble_eq_true rfl) rfl fl_RX7_104 ?_
              refine vJ.iload_n dX7_pages_217 rfl rfl ?_
              obtain ⟨hb8, h⟩ := h
              refine vJ.lald dX7_pages_218 sh_195 (Nat.le_of_ble_eq_true rfl) hb8 ?_
              refine vJ.lcmp dX7_pages_219 ?_
              refine vJ.if_gt (tgt := 227) dX7_pages_220 (by decide) (fun hc9 => ?_) (fun hc9 => ?_)
              · replace h := h.1 hc9
                refine vJ.sub [0, 1, 2, 3, 4, 7, 8] rfl ?_
                exact h
              · replace h := h.2 hc9
                refine vJ.sub [0, 1, 2, 3, 4, 7, 8] rfl ?_
                exact h
      · replace h := h.1 hc21
        refine vJ.lconst dX7_pages_159 cl_0 ?_
        refine vJ.goto (tgt := 178) dX7_pages_160 (by decide) ?_
        refine vJ.lstore (ls2 := [(0, .ref 163), (1, .int l1), (2, .int l2), (3, .int l3), (4, .int l4), (5, .int (1 : Int32)), (6, .int (-1 : Int32)), (7, .int v2), (8, .long (0 : Int64))]) dX7_pages_178 (Nat.le_of_ble_eq_true rfl) rfl ?_
        refine vJ.aload_n dX7_pages_180 rfl rfl ?_
        refine vJ.getR (ci := 7) (k := 40) (j := 196) dX7_pages_181 sh_163 (Nat.le_of_ble_eq_true rfl) rfl inX7 (Nat.le_of_ble_eq_true rfl) rfl fl_RX7_108 ?_
        refine vJ.iload_n dX7_pages_184 rfl rfl ?_
        obtain ⟨hb13, h⟩ := h
        refine vJ.iald dX7_pages_185 sh_196 (Nat.le_of_ble_eq_true rfl) hb13 ?_
        refine vJ.if_eq (tgt := 223) dX7_pages_186 (by decide) (fun hc20 => ?_) (fun hc20 => ?_)
        · replace h := h.1 hc20
          refine vJ.sub [0, 1, 2, 3, 4, 7, 8] rfl ?_
          exact h
        · replace h := h.2 hc20
          refine vJ.iload dX7_pages_189 rfl ?_
          refine vJ.aload_n dX7_pages_191 rfl rfl ?_
          refine vJ.getR (ci := 7) (k := 38) (j := 194) dX7_pages_192 sh_163 (Nat.le_of_ble_eq_true rfl) rfl inX7 (Nat.le_of_ble_eq_true rfl) rfl fl_RX7_101 ?_
          refine vJ.iload_n dX7_pages_195 rfl rfl ?_
          obtain ⟨hb14, h⟩ := h
          refine vJ.iald dX7_pages_196 sh_194 (Nat.le_of_ble_eq_true rfl) hb14 ?_
          refine vJ.icmp_lt (tgt := 223) dX7_pages_197 (by decide) (fun hc19 => ?_) (fun hc19 => ?_)
          · replace h := h.1 hc19
            refine vJ.sub [0, 1, 2, 3, 4, 7, 8] rfl ?_
            exact h
          · replace h := h.2 hc19
            refine vJ.iload dX7_pages_200 rfl ?_
            refine vJ.aload_n dX7_pages_202 rfl rfl ?_
            refine vJ.getR (ci := 7) (k := 38) (j := 194) dX7_pages_203 sh_163 (Nat.le_of_ble_eq_true rfl) rfl inX7 (Nat.le_of_ble_eq_true rfl) rfl fl_RX7_101 ?_
            refine vJ.iload_n dX7_pages_206 rfl rfl ?_
            obtain ⟨hb15, h⟩ := h
            refine vJ.iald dX7_pages_207 sh_194 (Nat.le_of_ble_eq_true rfl) hb15 ?_
            refine vJ.icmp_ne (tgt := 227) dX7_pages_208 (by decide) (fun hc18 => ?_) (fun hc18 => ?_)
            · replace h := h.2 hc18
              refine vJ.sub [0, 1, 2, 3, 4, 7, 8] rfl ?_
              exact h
            · replace h := h.1 hc18
              refine vJ.lload dX7_pages_211 rfl ?_
              refine vJ.aload_n dX7_pages_213 rfl rfl ?_
              refine vJ.getR (ci := 7) (k := 39) (j := 195) dX7_pages_214 sh_163 (Nat.le_of_ble_eq_true rfl) rfl inX7 (Nat.le_of_ble_eq_true rfl) rfl fl_RX7_104 ?_
              refine vJ.iload_n dX7_pages_217 rfl rfl ?_
              obtain ⟨hb16, h⟩ := h
              refine vJ.lald dX7_pages_218 sh_195 (Nat.le_of_ble_eq_true rfl) hb16 ?_
              refine vJ.lcmp dX7_pages_219 ?_
              refine vJ.if_gt (tgt := 227) dX7_pages_220 (by decide) (fun hc17 => ?_) (fun hc17 => ?_)
              · replace h := h.1 hc17
                refine vJ.sub [0, 1, 2, 3, 4, 7, 8] rfl ?_
                exact h
              · replace h := h.2 hc17
                refine vJ.sub [0, 1, 2, 3, 4, 7, 8] rfl ?_
                exact h
  · replace h := h.2 hc47
    refine vJ.aload_n dX7_pages_119 rfl rfl ?_
    refine vJ.iload_n dX7_pages_120 rfl rfl ?_
    refine vJ.iload_n dX7_pages_121 rfl rfl ?_
    refine vJ.iload dX7_pages_122 rfl ?_
    refine vJ.iload_n dX7_pages_124 rfl rfl ?_
    refine vJ.callV (ci := 7) (Yc := mX7_emptyOf) (frc := 2) (loc := 51) (as := [.int l1, .int l3, .int l4, .int l2]) dX7_pages_125 rfl sh_163 (Nat.le_of_ble_eq_true rfl) rfl ml_RX7_227 im_yX7_emptyOf se_yX7_emptyOf co_X7_emptyOf in_TableSetterModel pl_X7_emptyOf (Nat.le_of_ble_eq_true rfl) (Nat.le_of_ble_eq_true rfl) (Nat.le_of_ble_eq_true rfl) ?_
    refine Ev.gi h (fun r24 m23 h => ?_)
    refine vJ.goto (tgt := 132) dX7_pages_128 (by decide) ?_
    refine vJ.istore (ls2 := [(0, .ref 163), (1, .int l1), (2, .int l2), (3, .int l3), (4, .int l4), (5, .int (1 : Int32)), (6, .int r24)]) dX7_pages_132 (Nat.le_of_ble_eq_true rfl) rfl ?_
    refine vJ.iload dX7_pages_134 rfl ?_
    refine vJ.if_lt (tgt := 261) dX7_pages_136 (by decide) (fun hc46 => ?_) (fun hc46 => ?_)
    · replace h := h.1 hc46
      refine vJ.iinc (v := l4 + (1 : Int32)) (ls2 := [(0, .ref 163), (1, .int l1), (2, .int l2), (3, .int l3), (4, .int (l4 + (1 : Int32))), (5, .int (1 : Int32)), (6, .int r24)]) dX7_pages_261 rfl (congrArg (l4 + ·) ci_1) (Nat.le_of_ble_eq_true rfl) rfl ?_
      refine vJ.goto (tgt := 70) dX7_pages_264 (by decide) ?_
      refine vJ.sub [0, 1, 2, 3, 4] rfl ?_
      exact h
    · replace h := h.2 hc46
      refine vJ.iconst dX7_pages_139 ci_1 ?_
      refine vJ.aload_n dX7_pages_140 rfl rfl ?_
      refine vJ.getR (ci := 7) (k := 38) (j := 194) dX7_pages_141 sh_163 (Nat.le_of_ble_eq_true rfl) rfl inX7 (Nat.le_of_ble_eq_true rfl) rfl fl_RX7_101 ?_
      refine vJ.iload dX7_pages_144 rfl ?_
      obtain ⟨hb25, h⟩ := h
      refine vJ.iald dX7_pages_146 sh_194 (Nat.le_of_ble_eq_true rfl) hb25 ?_
      refine vJ.iadd dX7_pages_147 ?_
      refine vJ.topi (fun v26 ev26 => ?_)
      replace h := h v26 ev26
      refine vJ.istore (ls2 := [(0, .ref 163), (1, .int l1), (2, .int l2), (3, .int l3), (4, .int l4), (5, .int (1 : Int32)), (6, .int r24), (7, .int v26)]) dX7_pages_148 (Nat.le_of_ble_eq_true rfl) rfl ?_
      refine vJ.iload dX7_pages_150 rfl ?_
      refine vJ.aload_n dX7_pages_152 rfl rfl ?_
      refine vJ.getI (ci := 7) (k := 2) dX7_pages_153 sh_163 (Nat.le_of_ble_eq_true rfl) rfl inX7 (Nat.le_of_ble_eq_true rfl) rfl fl_RX7_123 ?_
      refine vJ.icmp_ne (tgt := 163) dX7_pages_156 (by decide) (fun hc45 => ?_) (fun hc45 => ?_)
      · replace h := h.2 hc45
        refine vJ.aload_n dX7_pages_163 rfl rfl ?_
        refine vJ.getR (ci := 7) (k := 39) (j := 195) dX7_pages_164 sh_163 (Nat.le_of_ble_eq_true rfl) rfl inX7 (Nat.le_of_ble_eq_true rfl) rfl fl_RX7_104 ?_
        refine vJ.iload dX7_pages_167 rfl ?_
        obtain ⟨hb27, h⟩ := h
        refine vJ.lald dX7_pages_169 sh_195 (Nat.le_of_ble_eq_true rfl) hb27 ?_
        refine vJ.iload dX7_pages_170 rfl ?_
        refine vJ.i2l dX7_pages_172 ?_
        refine vJ.iload dX7_pages_173 rfl ?_
        refine vJ.i2l dX7_pages_175 ?_
        refine vJ.lmul dX7_pages_176 ?_
        refine vJ.ladd dX7_pages_177 ?_
        refine vJ.topl (fun v28 ev28 => ?_)
        replace h := h v28 ev28
        refine vJ.lstore (ls2 := [(0, .ref 163), (1, .int l1), (2, .int l2), (3, .int l3), (4, .int l4), (5, .int (1 : Int32)), (6, .int r24), (7, .int v26), (8, .long v28)]) dX7_pages_178 (Nat.le_of_ble_eq_true rfl) rfl ?_
        refine vJ.aload_n dX7_pages_180 rfl rfl ?_
        refine vJ.getR (ci := 7) (k := 40) (j := 196) dX7_pages_181 sh_163 (Nat.le_of_ble_eq_true rfl) rfl inX7 (Nat.le_of_ble_eq_true rfl) rfl fl_RX7_108 ?_
        refine vJ.iload_n dX7_pages_184 rfl rfl ?_
        obtain ⟨hb29, h⟩ := h
        refine vJ.iald dX7_pages_185 sh_196 (Nat.le_of_ble_eq_true rfl) hb29 ?_
        refine vJ.if_eq (tgt := 223) dX7_pages_186 (by decide) (fun hc36 => ?_) (fun hc36 => ?_)
        · replace h := h.1 hc36
          refine vJ.sub [0, 1, 2, 3, 4, 7, 8] rfl ?_
          exact h
        · replace h := h.2 hc36
          refine vJ.iload dX7_pages_189 rfl ?_
          refine vJ.aload_n dX7_pages_191 rfl rfl ?_
          refine vJ.getR (ci := 7) (k := 38) (j := 194) dX7_pages_192 sh_163 (Nat.le_of_ble_eq_true rfl) rfl inX7 (Nat.le_of_ble_eq_true rfl) rfl fl_RX7_101 ?_
          refine vJ.iload_n dX7_pages_195 rfl rfl ?_
          obtain ⟨hb30, h⟩ := h
          refine vJ.iald dX7_pages_196 sh_194 (Nat.le_of_ble_eq_true rfl) hb30 ?_
          refine vJ.icmp_lt (tgt := 223) dX7_pages_197 (by decide) (fun hc35 => ?_) (fun hc35 => ?_)
          · replace h := h.1 hc35
            refine vJ.sub [0, 1, 2, 3, 4, 7, 8] rfl ?_
            exact h
          · replace h := h.2 hc35
            refine vJ.iload dX7_pages_200 rfl ?_
            refine vJ.aload_n dX7_pages_202 rfl rfl ?_
            refine vJ.getR (ci := 7) (k := 38) (j := 194) dX7_pages_203 sh_163 (Nat.le_of_ble_eq_true rfl) rfl inX7 (Nat.le_of_ble_eq_true rfl) rfl fl_RX7_101 ?_
            refine vJ.iload_n dX7_pages_206 rfl rfl ?_
            obtain ⟨hb31, h⟩ := h
            refine vJ.iald dX7_pages_207 sh_194 (Nat.le_of_ble_eq_true rfl) hb31 ?_
            refine vJ.icmp_ne (tgt := 227) dX7_pages_208 (by decide) (fun hc34 => ?_) (fun hc34 => ?_)
            · replace h := h.2 hc34
              refine vJ.sub [0, 1, 2, 3, 4, 7, 8] rfl ?_
              exact h
            · replace h := h.1 hc34
              refine vJ.lload dX7_pages_211 rfl ?_
              refine vJ.aload_n dX7_pages_213 rfl rfl ?_
              refine vJ.getR (ci := 7) (k := 39) (j := 195) dX7_pages_214 sh_163 (Nat.le_of_ble_eq_true rfl) rfl inX7 (Nat.le_of_ble_eq_true rfl) rfl fl_RX7_104 ?_
              refine vJ.iload_n dX7_pages_217 rfl rfl ?_
              obtain ⟨hb32, h⟩ := h
              refine vJ.lald dX7_pages_218 sh_195 (Nat.le_of_ble_eq_true rfl) hb32 ?_
              refine vJ.lcmp dX7_pages_219 ?_
              refine vJ.if_gt (tgt := 227) dX7_pages_220 (by decide) (fun hc33 => ?_) (fun hc33 => ?_)
              · replace h := h.1 hc33
                refine vJ.sub [0, 1, 2, 3, 4, 7, 8] rfl ?_
                exact h
              · replace h := h.2 hc33
                refine vJ.sub [0, 1, 2, 3, 4, 7, 8] rfl ?_
                exact h
      · replace h := h.1 hc45
        refine vJ.lconst dX7_pages_159 cl_0 ?_
        refine vJ.goto (tgt := 178) dX7_pages_160 (by decide) ?_
        refine vJ.lstore (ls2 := [(0, .ref 163), (1, .int l1), (2, .int l2), (3, .int l3), (4, .int l4), (5, .int (1 : Int32)), (6, .int r24), (7, .int v26), (8, .long (0 : Int64))]) dX7_pages_178 (Nat.le_of_ble_eq_true rfl) rfl ?_
        refine vJ.aload_n dX7_pages_180 rfl rfl ?_
        refine vJ.getR (ci := 7) (k := 40) (j := 196) dX7_pages_181 sh_163 (Nat.le_of_ble_eq_true rfl) rfl inX7 (Nat.le_of_ble_eq_true rfl) rfl fl_RX7_108 ?_
        refine vJ.iload_n dX7_pages_184 rfl rfl ?_
        obtain ⟨hb37, h⟩ := h
        refine vJ.iald dX7_pages_185 sh_196 (Nat.le_of_ble_eq_true rfl) hb37 ?_
        refine vJ.if_eq (tgt := 223) dX7_pages_186 (by decide) (fun hc44 => ?_) (fun hc44 => ?_)
        · replace h := h.1 hc44
          refine vJ.sub [0, 1, 2, 3, 4, 7, 8] rfl ?_
          exact h
        · replace h := h.2 hc44
          refine vJ.iload dX7_pages_189 rfl ?_
          refine vJ.aload_n dX7_pages_191 rfl rfl ?_
          refine vJ.getR (ci := 7) (k := 38) (j := 194) dX7_pages_192 sh_163 (Nat.le_of_ble_eq_true rfl) rfl inX7 (Nat.le_of_ble_eq_true rfl) rfl fl_RX7_101 ?_
          refine vJ.iload_n dX7_pages_195 rfl rfl ?_
          obtain ⟨hb38, h⟩ := h
          refine vJ.iald dX7_pages_196 sh_194 (Nat.le_of_ble_eq_true rfl) hb38 ?_
          refine vJ.icmp_lt (tgt := 223) dX7_pages_197 (by decide) (fun hc43 => ?_) (fun hc43 => ?_)
          · replace h := h.1 hc43
            refine vJ.sub [0, 1, 2, 3, 4, 7, 8] rfl ?_
            exact h
          · replace h := h.2 hc43
            refine vJ.iload dX7_pages_200 rfl ?_
            refine vJ.aload_n dX7_pages_202 rfl rfl ?_
            refine vJ.getR (ci := 7) (k := 38) (j := 194) dX7_pages_203 sh_163 (Nat.le_of_ble_eq_true rfl) rfl inX7 (Nat.le_of_ble_eq_true rfl) rfl fl_RX7_101 ?_
            refine vJ.iload_n dX7_pages_206 rfl rfl ?_
            obtain ⟨hb39, h⟩ := h
            refine vJ.iald dX7_pages_207 sh_194 (Nat.le_of_ble_eq_true rfl) hb39 ?_
            refine vJ.icmp_ne (tgt := 227) dX7_pages_208 (by decide) (fun hc42 => ?_) (fun hc42 => ?_)
            · replace h := h.2 hc42
              refine vJ.sub [0, 1, 2, 3, 4, 7, 8] rfl ?_
              exact h
            · replace h := h.1 hc42
              refine vJ.lload dX7_pages_211 rfl ?_
              refine vJ.aload_n dX7_pages_213 rfl rfl ?_
              refine vJ.getR (ci := 7) (k := 39) (j := 195) dX7_pages_214 sh_163 (Nat.le_of_ble_eq_true rfl) rfl inX7 (Nat.le_of_ble_eq_true rfl) rfl fl_RX7_104 ?_
              refine vJ.iload_n dX7_pages_217 rfl rfl ?_
              obtain ⟨hb40, h⟩ := h
              refine vJ.lald dX7_pages_218 sh_195 (Nat.le_of_ble_eq_true rfl) hb40 ?_
              refine vJ.lcmp dX7_pages_219 ?_
              refine vJ.if_gt (tgt := 227) dX7_pages_220 (by decide) (fun hc41 => ?_) (fun hc41 => ?_)
              · replace h := h.1 hc41
                refine vJ.sub [0, 1, 2, 3, 4, 7, 8] rfl ?_
                exact h
              · replace h := h.2 hc41
                refine vJ.sub [0, 1, 2, 3, 4, 7, 8] rfl ?_
                exact h
def wp_X7_pages_111 (l1 : Int32) (l2 : Int32) (l3 : Int32) (l4 : Int32) (m : vM) (P : Int32 → vM → Prop) : Prop :=
  (((0 : Int32) = (0 : Int32) →
    (((-1 : Int32) < (0 : Int32) →
      J_X7_pages_70 l1 l2 l3 (l4 + (1 : Int32)) m P) ∧
    (¬ (-1 : Int32) < (0 : Int32) →
      vp_in l4 17 ∧
      ∀ v2 : Int32, v2 = ((1 : Int32) + (m.1 194 (Int32.toNatClampNeg l4))) →
      ((l4 = (m.1 163 2) →
        vp_in l3 17 ∧
        (((m.1 196 (Int32.toNatClampNeg l3)) = (0 : Int32) →
          J_X7_pages_223 l1 l2 l3 l4 v2 (0 : Int64) m P) ∧
        (¬ (m.1 196 (Int32.toNatClampNeg l3)) = (0 : Int32) →
          vp_in l3 17 ∧
          ((v2 < (m.1 194 (Int32.toNatClampNeg l3)) →
            J_X7_pages_223 l1 l2 l3 l4 v2 (0 : Int64) m P) ∧
          (¬ v2 < (m.1 194 (Int32.toNatClampNeg l3)) →
            vp_in l3 17 ∧
            ((v2 = (m.1 194 (Int32.toNatClampNeg l3)) →
              vp_in l3 17 ∧
              (((0 : Int32) < (lg_cmp (0 : Int64) (m.2 195 (Int32.toNatClampNeg l3))) →
                J_X7_pages_227 l1 l2 l3 l4 v2 (0 : Int64) m P) ∧
              (¬ (0 : Int32) < (lg_cmp (0 : Int64) (m.2 195 (Int32.toNatClampNeg l3))) →
                J_X7_pages_223 l1 l2 l3 l4 v2 (0 : Int64) m P))) ∧
            (¬ v2 = (m.1 194 (Int32.toNatClampNeg l3)) →
              J_X7_pages_227 l1 l2 l3 l4 v2 (0 : Int64) m P))))))) ∧
      (¬ l4 = (m.1 163 2) →
        vp_in l4 17 ∧
        ∀ v4 : Int64, v4 = ((m.2 195 (Int32.toNatClampNeg l4)) + ((Int32.toInt64 (-1 : Int32)) * (Int32.toInt64 (-1 : Int32)))) →
        vp_in l3 17 ∧
        (((m.1 196 (Int32.toNatClampNeg l3)) = (0 : Int32) →
          J_X7_pages_223 l1 l2 l3 l4 v2 v4 m P) ∧
        (¬ (m.1 196 (Int32.toNatClampNeg l3)) = (0 : Int32) →
          vp_in l3 17 ∧
          ((v2 < (m.1 194 (Int32.toNatClampNeg l3)) →
            J_X7_pages_223 l1 l2 l3 l4 v2 v4 m P) ∧
          (¬ v2 < (m.1 194 (Int32.toNatClampNeg l3)) →
            vp_in l3 17 ∧
            ((v2 = (m.1 194 (Int32.toNatClampNeg l3)) →
              vp_in l3 17 ∧
              (((0 : Int32) < (lg_cmp v4 (m.2 195 (Int32.toNatClampNeg l3))) →
                J_X7_pages_227 l1 l2 l3 l4 v2 v4 m P) ∧
              (¬ (0 : Int32) < (lg_cmp v4 (m.2 195 (Int32.toNatClampNeg l3))) →
                J_X7_pages_223 l1 l2 l3 l4 v2 v4 m P))) ∧
            (¬ v2 = (m.1 194 (Int32.toNatClampNeg l3)) →
              J_X7_pages_227 l1 l2 l3 l4 v2 v4 m P))))))))))) ∧
  (¬ (0 : Int32) = (0 : Int32) →
    EI_X7_emptyOf l1 l3 l4 l2 m (fun r24 m23 =>
      ((r24 < (0 : Int32) →
        J_X7_pages_70 l1 l2 l3 (l4 + (1 : Int32)) m23 P) ∧
      (¬ r24 < (0 : Int32) →
        vp_in l4 17 ∧
        ∀ v26 : Int32, v26 = ((1 : Int32) + (m23.1 194 (Int32.toNatClampNeg l4))) →
        ((l4 = (m23.1 163 2) →
          vp_in l3 17 ∧
          (((m23.1 196 (Int32.toNatClampNeg l3)) = (0 : Int32) →
            J_X7_pages_223 l1 l2 l3 l4 v26 (0 : Int64) m23 P) ∧
          (¬ (m23.1 196 (Int32.toNatClampNeg l3)) = (0 : Int32) →
            vp_in l3 17 ∧
            ((v26 < (m23.1 194 (Int32.toNatClampNeg l3)) →
              J_X7_pages_223 l1 l2 l3 l4 v26 (0 : Int64) m23 P) ∧
            (¬ v26 < (m23.1 194 (Int32.toNatClampNeg l3)) →
              vp_in l3 17 ∧
              ((v26 = (m23.1 194 (Int32.toNatClampNeg l3)) →
                vp_in l3 17 ∧
                (((0 : Int32) < (lg_cmp (0 : Int64) (m23.2 195 (Int32.toNatClampNeg l3))) →
                  J_X7_pages_227 l1 l2 l3 l4 v26 (0 : Int64) m23 P) ∧
                (¬ (0 : Int32) < (lg_cmp (0 : Int64) (m23.2 195 (Int32.toNatClampNeg l3))) →
                  J_X7_pages_223 l1 l2 l3 l4 v26 (0 : Int64) m23 P))) ∧
              (¬ v26 = (m23.1 194 (Int32.toNatClampNeg l3)) →
                J_X7_pages_227 l1 l2 l3 l4 v26 (0 : Int64) m23 P))))))) ∧
        (¬ l4 = (m23.1 163 2) →
          vp_in l4 17 ∧
          ∀ v28 : Int64, v28 = ((m23.2 195 (Int32.toNatClampNeg l4)) + ((Int32.toInt64 r24) * (Int32.toInt64 r24))) →
          vp_in l3 17 ∧
          (((m23.1 196 (Int32.toNatClampNeg l3)) = (0 : Int32) →
            J_X7_pages_223 l1 l2 l3 l4 v26 v28 m23 P) ∧
          (¬ (m23.1 196 (Int32.toNatClampNeg l3)) = (0 : Int32) →
            vp_in l3 17 ∧
            ((v26 < (m23.1 194 (Int32.toNatClampNeg l3)) →
              J_X7_pages_223 l1 l2 l3 l4 v26 v28 m23 P) ∧
            (¬ v26 < (m23.1 194 (Int32.toNatClampNeg l3)) →
              vp_in l3 17 ∧
              ((v26 = (m23.1 194 (Int32.toNatClampNeg l3)) →
                vp_in l3 17 ∧
                (((0 : Int32) < (lg_cmp v28 (m23.2 195 (Int32.toNatClampNeg l3))) →
                  J_X7_pages_227 l1 l2 l3 l4 v26 v28 m23 P) ∧
                (¬ (0 : Int32) < (lg_cmp v28 (m23.2 195 (Int32.toNatClampNeg l3))) →
                  J_X7_pages_223 l1 l2 l3 l4 v26 v28 m23 P))) ∧
              (¬ v26 = (m23.1 194 (Int32.toNatClampNeg l3)) →
                J_X7_pages_227 l1 l2 l3 l4 v26 v28 m23 P)))))))))))))
set_option maxRecDepth 20000 in
set_option maxHeartbeats 4000000 in
theorem b_X7_pages_111 {l1 : Int32} {l2 : Int32} {l3 : Int32} {l4 : Int32} {m : vM} {P : Int32 → vM → Prop}  (h : wp_X7_pages_111 l1 l2 l3 l4 m P) : J_X7_pages_111 l1 l2 l3 l4 m P := by
  show vJ mX7_pages 4 95 197 none 111 [(0, .ref 163), (1, .int l1), (2, .int l2), (3, .int l3), (4, .int l4)] [] 197 SH m (vPi P)
  unfold wp_X7_pages_111 at h
  refine vJ.iconst dX7_pages_111 ci_0 ?_
  refine vJ.istore (ls2 := [(0, .ref 163), (1, .int l1), (2, .int l2), (3, .int l3), (4, .int l4), (5, .int (0 : Int32))]) dX7_pages_112 (Nat.le_of_ble_eq_true rfl) rfl ?_
  refine vJ.iload dX7_pages_114 rfl ?_
  refine vJ.if_eq (tgt := 131) dX7_pages_116 (by decide) (fun hc47 => ?_) (fun hc47 => ?_)
  · replace h := h.1 hc47
    refine vJ.iconst dX7_pages_131 ci_m1 ?_
    refine vJ.istore (ls2 := [(0, .ref 163), (1, .int l1), (2, .int l2), (3, .int l3), (4, .int l4), (5, .int (0 : Int32)), (6, .int (-1 : Int32))]) dX7_pages_132 (Nat.le_of_ble_eq_true rfl) rfl ?_
    refine vJ.iload dX7_pages_134 rfl ?_
    refine vJ.if_lt (tgt := 261) dX7_pages_136 (by decide) (fun hc22 => ?_) (fun hc22 => ?_)
    · replace h := h.1 hc22
      refine vJ.iinc (v := l4 + (1 : Int32)) (ls2 := [(0, .ref 163), (1, .int l1), (2, .int l2), (3, .int l3), (4, .int (l4 + (1 : Int32))), (5, .int (0 : Int32)), (6, .int (-1 : Int32))]) dX7_pages_261 rfl (congrArg (l4 + ·) ci_1) (Nat.le_of_ble_eq_true rfl) rfl ?_
      refine vJ.goto (tgt := 70) dX7_pages_264 (by decide) ?_
      refine vJ.sub [0, 1, 2, 3, 4] rfl ?_
      exact h
    · replace h := h.2 hc22
      refine vJ.iconst dX7_pages_139 ci_1 ?_
      refine vJ.aload_n dX7_pages_140 rfl rfl ?_
      refine vJ.getR (ci := 7) (k := 38) (j := 194) dX7_pages_141 sh_163 (Nat.le_of_ble_eq_true rfl) rfl inX7 (Nat.le_of_ble_eq_true rfl) rfl fl_RX7_101 ?_
      refine vJ.iload dX7_pages_144 rfl ?_
      obtain ⟨hb1, h⟩ := h
      refine vJ.iald dX7_pages_146 sh_194 (Nat.le_of_ble_eq_true rfl) hb1 ?_
      refine vJ.iadd dX7_pages_147 ?_
      refine vJ.topi (fun v2 ev2 => ?_)
      replace h := h v2 ev2
      refine vJ.istore (ls2 := [(0, .ref 163), (1, .int l1), (2, .int l2), (3, .int l3), (4, .int l4), (5, .int (0 : Int32)), (6, .int (-1 : Int32)), (7, .int v2)]) dX7_pages_148 (Nat.le_of_ble_eq_true rfl) rfl ?_
      refine vJ.iload dX7_pages_150 rfl ?_
      refine vJ.aload_n dX7_pages_152 rfl rfl ?_
      refine vJ.getI (ci := 7) (k := 2) dX7_pages_153 sh_163 (Nat.le_of_ble_eq_true rfl) rfl inX7 (Nat.le_of_ble_eq_true rfl) rfl fl_RX7_123 ?_
      refine vJ.icmp_ne (tgt := 163) dX7_pages_156 (by decide) (fun hc21 => ?_) (fun hc21 => ?_)
      · replace h := h.2 hc21
        refine vJ.aload_n dX7_pages_163 rfl rfl ?_
        refine vJ.getR (ci := 7) (k := 39) (j := 195) dX7_pages_164 sh_163 (Nat.le_of_ble_eq_true rfl) rfl inX7 (Nat.le_of_ble_eq_true rfl) rfl fl_RX7_104 ?_
        refine vJ.iload dX7_pages_167 rfl ?_
        obtain ⟨hb3, h⟩ := h
        refine vJ.lald dX7_pages_169 sh_195 (Nat.le_of_ble_eq_true rfl) hb3 ?_
        refine vJ.iload dX7_pages_170 rfl ?_
        refine vJ.i2l dX7_pages_172 ?_
        refine vJ.iload dX7_pages_173 rfl ?_
        refine vJ.i2l dX7_pages_175 ?_
        refine vJ.lmul dX7_pages_176 ?_
        refine vJ.ladd dX7_pages_177 ?_
        refine vJ.topl (fun v4 ev4 => ?_)
        replace h := h v4 ev4
        refine vJ.lstore (ls2 := [(0, .ref 163), (1, .int l1), (2, .int l2), (3, .int l3), (4, .int l4), (5, .int (0 : Int32)), (6, .int (-1 : Int32)), (7, .int v2), (8, .long v4)]) dX7_pages_178 (Nat.le_of_ble_eq_true rfl) rfl ?_
        refine vJ.aload_n dX7_pages_180 rfl rfl ?_
        refine vJ.getR (ci := 7) (k := 40) (j := 196) dX7_pages_181 sh_163 (Nat.le_of_ble_eq_true rfl) rfl inX7 (Nat.le_of_ble_eq_true rfl) rfl fl_RX7_108 ?_
        refine vJ.iload_n dX7_pages_184 rfl rfl ?_
        obtain ⟨hb5, h⟩ := h
        refine vJ.iald dX7_pages_185 sh_196 (Nat.le_of_ble_eq_true rfl) hb5 ?_
        refine vJ.if_eq (tgt := 223) dX7_pages_186 (by decide) (fun hc12 => ?_) (fun hc12 => ?_)
        · replace h := h.1 hc12
          refine vJ.sub [0, 1, 2, 3, 4, 7, 8] rfl ?_
          exact h
        · replace h := h.2 hc12
          refine vJ.iload dX7_pages_189 rfl ?_
          refine vJ.aload_n dX7_pages_191 rfl rfl ?_
          refine vJ.getR (ci := 7) (k := 38) (j := 194) dX7_pages_192 sh_163 (Nat.le_of_ble_eq_true rfl) rfl inX7 (Nat.le_of_ble_eq_true rfl) rfl fl_RX7_101 ?_
          refine vJ.iload_n dX7_pages_195 rfl rfl ?_
          obtain ⟨hb6, h⟩ := h
          refine vJ.iald dX7_pages_196 sh_194 (Nat.le_of_ble_eq_true rfl) hb6 ?_
          refine vJ.icmp_lt (tgt := 223) dX7_pages_197 (by decide) (fun hc11 => ?_) (fun hc11 => ?_)
          · replace h := h.1 hc11
            refine vJ.sub [0, 1, 2, 3, 4, 7, 8] rfl ?_
            exact h
          · replace h := h.2 hc11
            refine vJ.iload dX7_pages_200 rfl ?_
            refine vJ.aload_n dX7_pages_202 rfl rfl ?_
            refine vJ.getR (ci := 7) (k := 38) (j := 194) dX7_pages_203 sh_163 (Nat.le_of_ble_eq_true rfl) rfl inX7 (Nat.le_of_ble_eq_true rfl) rfl fl_RX7_101 ?_
            refine vJ.iload_n dX7_pages_206 rfl rfl ?_
            obtain ⟨hb7, h⟩ := h
            refine vJ.iald dX7_pages_207 sh_194 (Nat.le_of_ble_eq_true rfl) hb7 ?_
            refine vJ.icmp_ne (tgt := 227) dX7_pages_208 (by decide) (fun hc10 => ?_) (fun hc10 => ?_)
            · replace h := h.2 hc10
              refine vJ.sub [0, 1, 2, 3, 4, 7, 8] rfl ?_
              exact h
            · replace h := h.1 hc10
              refine vJ.lload dX7_pages_211 rfl ?_
              refine vJ.aload_n dX7_pages_213 rfl rfl ?_
              refine vJ.getR (ci := 7) (k := 39) (j := 195) dX7_pages_214 sh_163 (Nat.le_of_ble_eq_true rfl) rfl inX7 (Nat.le_of_ble_eq_true rfl) rfl fl_RX7_104 ?_
              refine vJ.iload_n dX7_pages_217 rfl rfl ?_
              obtain ⟨hb8, h⟩ := h
              refine vJ.lald dX7_pages_218 sh_195 (Nat.le_of_ble_eq_true rfl) hb8 ?_
              refine vJ.lcmp dX7_pages_219 ?_
              refine vJ.if_gt (tgt := 227) dX7_pages_220 (by decide) (fun hc9 => ?_) (fun hc9 => ?_)
              · replace h := h.1 hc9
                refine vJ.sub [0, 1, 2, 3, 4, 7, 8] rfl ?_
                exact h
              · replace h := h.2 hc9
                refine vJ.sub [0, 1, 2, 3, 4, 7, 8] rfl ?_
                exact h
      · replace h := h.1 hc21
        refine vJ.lconst dX7_pages_159 cl_0 ?_
        refine vJ.goto (tgt := 178) dX7_pages_160 (by decide) ?_
        refine vJ.lstore (ls2 := [(0, .ref 163), (1, .int l1), (2, .int l2), (3, .int l3), (4, .int l4), (5, .int (0 : Int32)), (6, .int (-1 : Int32)), (7, .int v2), (8, .long (0 : Int64))]) dX7_pages_178 (Nat.le_of_ble_eq_true rfl) rfl ?_
        refine vJ.aload_n dX7_pages_180 rfl rfl ?_
        refine vJ.getR (ci := 7) (k := 40) (j := 196) dX7_pages_181 sh_163 (Nat.le_of_ble_eq_true rfl) rfl inX7 (Nat.le_of_ble_eq_true rfl) rfl fl_RX7_108 ?_
        refine vJ.iload_n dX7_pages_184 rfl rfl ?_
        obtain ⟨hb13, h⟩ := h
        refine vJ.iald dX7_pages_185 sh_196 (Nat.le_of_ble_eq_true rfl) hb13 ?_
        refine vJ.if_eq (tgt := 223) dX7_pages_186 (by decide) (fun hc20 => ?_) (fun hc20 => ?_)
        · replace h := h.1 hc20
          refine vJ.sub [0, 1, 2, 3, 4, 7, 8] rfl ?_
          exact h
        · replace h := h.2 hc20
          refine vJ.iload dX7_pages_189 rfl ?_
          refine vJ.aload_n dX7_pages_191 rfl rfl ?_
          refine vJ.getR (ci := 7) (k := 38) (j := 194) dX7_pages_192 sh_163 (Nat.le_of_ble_eq_true rfl) rfl inX7 (Nat.le_of_ble_eq_true rfl) rfl fl_RX7_101 ?_
          refine vJ.iload_n dX7_pages_195 rfl rfl ?_
          obtain ⟨hb14, h⟩ := h
          refine vJ.iald dX7_pages_196 sh_194 (Nat.le_of_ble_eq_true rfl) hb14 ?_
          refine vJ.icmp_lt (tgt := 223) dX7_pages_197 (by decide) (fun hc19 => ?_) (fun hc19 => ?_)
          · replace h := h.1 hc19
            refine vJ.sub [0, 1, 2, 3, 4, 7, 8] rfl ?_
            exact h
          · replace h := h.2 hc19
            refine vJ.iload dX7_pages_200 rfl ?_
            refine vJ.aload_n dX7_pages_202 rfl rfl ?_
            refine vJ.getR (ci := 7) (k := 38) (j := 194) dX7_pages_203 sh_163 (Nat.le_of_ble_eq_true rfl) rfl inX7 (Nat.le_of_ble_eq_true rfl) rfl fl_RX7_101 ?_
            refine vJ.iload_n dX7_pages_206 rfl rfl ?_
            obtain ⟨hb15, h⟩ := h
            refine vJ.iald dX7_pages_207 sh_194 (Nat.le_of_ble_eq_true rfl) hb15 ?_
            refine vJ.icmp_ne (tgt := 227) dX7_pages_208 (by decide) (fun hc18 => ?_) (fun hc18 => ?_)
            · replace h := h.2 hc18
              refine vJ.sub [0, 1, 2, 3, 4, 7, 8] rfl ?_
              exact h
            · replace h := h.1 hc18
              refine vJ.lload dX7_pages_211 rfl ?_
              refine vJ.aload_n dX7_pages_213 rfl rfl ?_
              refine vJ.getR (ci := 7) (k := 39) (j := 195) dX7_pages_214 sh_163 (Nat.le_of_ble_eq_true rfl) rfl inX7 (Nat.le_of_ble_eq_true rfl) rfl fl_RX7_104 ?_
              refine vJ.iload_n dX7_pages_217 rfl rfl ?_
              obtain ⟨hb16, h⟩ := h
              refine vJ.lald dX7_pages_218 sh_195 (Nat.le_of_ble_eq_true rfl) hb16 ?_
              refine vJ.lcmp dX7_pages_219 ?_
              refine vJ.if_gt (tgt := 227) dX7_pages_220 (by decide) (fun hc17 => ?_) (fun hc17 => ?_)
              · replace h := h.1 hc17
                refine vJ.sub [0, 1, 2, 3, 4, 7, 8] rfl ?_
                exact h
              · replace h := h.2 hc17
                refine vJ.sub [0, 1, 2, 3, 4, 7, 8] rfl ?_
                exact h
  · replace h := h.2 hc47
    refine vJ.aload_n dX7_pages_119 rfl rfl ?_
    refine vJ.iload_n dX7_pages_120 rfl rfl ?_
    refine vJ.iload_n dX7_pages_121 rfl rfl ?_
    refine vJ.iload dX7_pages_122 rfl ?_
    refine vJ.iload_n dX7_pages_124 rfl rfl ?_
    refine vJ.callV (ci := 7) (Yc := mX7_emptyOf) (frc := 2) (loc := 51) (as := [.int l1, .int l3, .int l4, .int l2]) dX7_pages_125 rfl sh_163 (Nat.le_of_ble_eq_true rfl) rfl ml_RX7_227 im_yX7_emptyOf se_yX7_emptyOf co_X7_emptyOf in_TableSetterModel pl_X7_emptyOf (Nat.le_of_ble_eq_true rfl) (Nat.le_of_ble_eq_true rfl) (Nat.le_of_ble_eq_true rfl) ?_
    refine Ev.gi h (fun r24 m23 h => ?_)
    refine vJ.goto (tgt := 132) dX7_pages_128 (by decide) ?_
    refine vJ.istore (ls2 := [(0, .ref 163), (1, .int l1), (2, .int l2), (3, .int l3), (4, .int l4), (5, .int (0 : Int32)), (6, .int r24)]) dX7_pages_132 (Nat.le_of_ble_eq_true rfl) rfl ?_
    refine vJ.iload dX7_pages_134 rfl ?_
    refine vJ.if_lt (tgt := 261) dX7_pages_136 (by decide) (fun hc46 => ?_) (fun hc46 => ?_)
    · replace h := h.1 hc46
      refine vJ.iinc (v := l4 + (1 : Int32)) (ls2 := [(0, .ref 163), (1, .int l1), (2, .int l2), (3, .int l3), (4, .int (l4 + (1 : Int32))), (5, .int (0 : Int32)), (6, .int r24)]) dX7_pages_261 rfl (congrArg (l4 + ·) ci_1) (Nat.le_of_ble_eq_true rfl) rfl ?_
      refine vJ.goto (tgt := 70) dX7_pages_264 (by decide) ?_
      refine vJ.sub [0, 1, 2, 3, 4] rfl ?_
      exact h
    · replace h := h.2 hc46
      refine vJ.iconst dX7_pages_139 ci_1 ?_
      refine vJ.aload_n dX7_pages_140 rfl rfl ?_
      refine vJ.getR (ci := 7) (k := 38) (j := 194) dX7_pages_141 sh_163 (Nat.le_of_ble_eq_true rfl) rfl inX7 (Nat.le_of_ble_eq_true rfl) rfl fl_RX7_101 ?_
      refine vJ.iload dX7_pages_144 rfl ?_
      obtain ⟨hb25, h⟩ := h
      refine vJ.iald dX7_pages_146 sh_194 (Nat.le_of_ble_eq_true rfl) hb25 ?_
      refine vJ.iadd dX7_pages_147 ?_
      refine vJ.topi (fun v26 ev26 => ?_)
      replace h := h v26 ev26
      refine vJ.istore (ls2 := [(0, .ref 163), (1, .int l1), (2, .int l2), (3, .int l3), (4, .int l4), (5, .int (0 : Int32)), (6, .int r24), (7, .int v26)]) dX7_pages_148 (Nat.le_of_ble_eq_true rfl) rfl ?_
      refine vJ.iload dX7_pages_150 rfl ?_
      refine vJ.aload_n dX7_pages_152 rfl rfl ?_
      refine vJ.getI (ci := 7) (k := 2) dX7_pages_153 sh_163 (Nat.le_of_ble_eq_true rfl) rfl inX7 (Nat.le_of_ble_eq_true rfl) rfl fl_RX7_123 ?_
      refine vJ.icmp_ne (tgt := 163) dX7_pages_156 (by decide) (fun hc45 => ?_) (fun hc45 => ?_)
      · replace h := h.2 hc45
        refine vJ.aload_n dX7_pages_163 rfl rfl ?_
        refine vJ.getR (ci := 7) (k := 39) (j := 195) dX7_pages_164 sh_163 (Nat.le_of_ble_eq_true rfl) rfl inX7 (Nat.le_of_ble_eq_true rfl) rfl fl_RX7_104 ?_
        refine vJ.iload dX7_pages_167 rfl ?_
        obtain ⟨hb27, h⟩ := h
        refine vJ.lald dX7_pages_169 sh_195 (Nat.le_of_ble_eq_true rfl) hb27 ?_
        refine vJ.iload dX7_pages_170 rfl ?_
        refine vJ.i2l dX7_pages_172 ?_
        refine vJ.iload dX7_pages_173 rfl ?_
        refine vJ.i2l dX7_pages_175 ?_
        refine vJ.lmul dX7_pages_176 ?_
        refine vJ.ladd dX7_pages_177 ?_
        refine vJ.topl (fun v28 ev28 => ?_)
        replace h := h v28 ev28
        refine vJ.lstore (ls2 := [(0, .ref 163), (1, .int l1), (2, .int l2), (3, .int l3), (4, .int l4), (5, .int (0 : Int32)), (6, .int r24), (7, .int v26), (8, .long v28)]) dX7_pages_178 (Nat.le_of_ble_eq_true rfl) rfl ?_
        refine vJ.aload_n dX7_pages_180 rfl rfl ?_
        refine vJ.getR (ci := 7) (k := 40) (j := 196) dX7_pages_181 sh_163 (Nat.le_of_ble_eq_true rfl) rfl inX7 (Nat.le_of_ble_eq_true rfl) rfl fl_RX7_108 ?_
        refine vJ.iload_n dX7_pages_184 rfl rfl ?_
        obtain ⟨hb29, h⟩ := h
        refine vJ.iald dX7_pages_185 sh_196 (Nat.le_of_ble_eq_true rfl) hb29 ?_
        refine vJ.if_eq (tgt := 223) dX7_pages_186 (by decide) (fun hc36 => ?_) (fun hc36 => ?_)
        · replace h := h.1 hc36
          refine vJ.sub [0, 1, 2, 3, 4, 7, 8] rfl ?_
          exact h
        · replace h := h.2 hc36
          refine vJ.iload dX7_pages_189 rfl ?_
          refine vJ.aload_n dX7_pages_191 rfl rfl ?_
          refine vJ.getR (ci := 7) (k := 38) (j := 194) dX7_pages_192 sh_163 (Nat.le_of_ble_eq_true rfl) rfl inX7 (Nat.le_of_ble_eq_true rfl) rfl fl_RX7_101 ?_
          refine vJ.iload_n dX7_pages_195 rfl rfl ?_
          obtain ⟨hb30, h⟩ := h
          refine vJ.iald dX7_pages_196 sh_194 (Nat.le_of_ble_eq_true rfl) hb30 ?_
          refine vJ.icmp_lt (tgt := 223) dX7_pages_197 (by decide) (fun hc35 => ?_) (fun hc35 => ?_)
          · replace h := h.1 hc35
            refine vJ.sub [0, 1, 2, 3, 4, 7, 8] rfl ?_
            exact h
          · replace h := h.2 hc35
            refine vJ.iload dX7_pages_200 rfl ?_
            refine vJ.aload_n dX7_pages_202 rfl rfl ?_
            refine vJ.getR (ci := 7) (k := 38) (j := 194) dX7_pages_203 sh_163 (Nat.le_of_ble_eq_true rfl) rfl inX7 (Nat.le_of_ble_eq_true rfl) rfl fl_RX7_101 ?_
            refine vJ.iload_n dX7_pages_206 rfl rfl ?_
            obtain ⟨hb31, h⟩ := h
            refine vJ.iald dX7_pages_207 sh_194 (Nat.le_of_ble_eq_true rfl) hb31 ?_
            refine vJ.icmp_ne (tgt := 227) dX7_pages_208 (by decide) (fun hc34 => ?_) (fun hc34 => ?_)
            · replace h := h.2 hc34
              refine vJ.sub [0, 1, 2, 3, 4, 7, 8] rfl ?_
              exact h
            · replace h := h.1 hc34
              refine vJ.lload dX7_pages_211 rfl ?_
              refine vJ.aload_n dX7_pages_213 rfl rfl ?_
              refine vJ.getR (ci := 7) (k := 39) (j := 195) dX7_pages_214 sh_163 (Nat.le_of_ble_eq_true rfl) rfl inX7 (Nat.le_of_ble_eq_true rfl) rfl fl_RX7_104 ?_
              refine vJ.iload_n dX7_pages_217 rfl rfl ?_
              obtain ⟨hb32, h⟩ := h
              refine vJ.lald dX7_pages_218 sh_195 (Nat.le_of_ble_eq_true rfl) hb32 ?_
              refine vJ.lcmp dX7_pages_219 ?_
              refine vJ.if_gt (tgt := 227) dX7_pages_220 (by decide) (fun hc33 => ?_) (fun hc33 => ?_)
              · replace h := h.1 hc33
                refine vJ.sub [0, 1, 2, 3, 4, 7, 8] rfl ?_
                exact h
              · replace h := h.2 hc33
                refine vJ.sub [0, 1, 2, 3, 4, 7, 8] rfl ?_
                exact h
      · replace h := h.1 hc45
        refine vJ.lconst dX7_pages_159 cl_0 ?_
        refine vJ.goto (tgt := 178) dX7_pages_160 (by decide) ?_
        refine vJ.lstore (ls2 := [(0, .ref 163), (1, .int l1), (2, .int l2), (3, .int l3), (4, .int l4), (5, .int (0 : Int32)), (6, .int r24), (7, .int v26), (8, .long (0 : Int64))]) dX7_pages_178 (Nat.le_of_ble_eq_true rfl) rfl ?_
        refine vJ.aload_n dX7_pages_180 rfl rfl ?_
        refine vJ.getR (ci := 7) (k := 40) (j := 196) dX7_pages_181 sh_163 (Nat.le_of_ble_eq_true rfl) rfl inX7 (Nat.le_of_ble_eq_true rfl) rfl fl_RX7_108 ?_
        refine vJ.iload_n dX7_pages_184 rfl rfl ?_
        obtain ⟨hb37, h⟩ := h
        refine vJ.iald dX7_pages_185 sh_196 (Nat.le_of_ble_eq_true rfl) hb37 ?_
        refine vJ.if_eq (tgt := 223) dX7_pages_186 (by decide) (fun hc44 => ?_) (fun hc44 => ?_)
        · replace h := h.1 hc44
          refine vJ.sub [0, 1, 2, 3, 4, 7, 8] rfl ?_
          exact h
        · replace h := h.2 hc44
          refine vJ.iload dX7_pages_189 rfl ?_
          refine vJ.aload_n dX7_pages_191 rfl rfl ?_
          refine vJ.getR (ci := 7) (k := 38) (j := 194) dX7_pages_192 sh_163 (Nat.le_of_ble_eq_true rfl) rfl inX7 (Nat.le_of_ble_eq_true rfl) rfl fl_RX7_101 ?_
          refine vJ.iload_n dX7_pages_195 rfl rfl ?_
          obtain ⟨hb38, h⟩ := h
          refine vJ.iald dX7_pages_196 sh_194 (Nat.le_of_ble_eq_true rfl) hb38 ?_
          refine vJ.icmp_lt (tgt := 223) dX7_pages_197 (by decide) (fun hc43 => ?_) (fun hc43 => ?_)
          · replace h := h.1 hc43
            refine vJ.sub [0, 1, 2, 3, 4, 7, 8] rfl ?_
            exact h
          · replace h := h.2 hc43
            refine vJ.iload dX7_pages_200 rfl ?_
            refine vJ.aload_n dX7_pages_202 rfl rfl ?_
            refine vJ.getR (ci := 7) (k := 38) (j := 194) dX7_pages_203 sh_163 (Nat.le_of_ble_eq_true rfl) rfl inX7 (Nat.le_of_ble_eq_true rfl) rfl fl_RX7_101 ?_
            refine vJ.iload_n dX7_pages_206 rfl rfl ?_
            obtain ⟨hb39, h⟩ := h
            refine vJ.iald dX7_pages_207 sh_194 (Nat.le_of_ble_eq_true rfl) hb39 ?_
            refine vJ.icmp_ne (tgt := 227) dX7_pages_208 (by decide) (fun hc42 => ?_) (fun hc42 => ?_)
            · replace h := h.2 hc42
              refine vJ.sub [0, 1, 2, 3, 4, 7, 8] rfl ?_
              exact h
            · replace h := h.1 hc42
              refine vJ.lload dX7_pages_211 rfl ?_
              refine vJ.aload_n dX7_pages_213 rfl rfl ?_
              refine vJ.getR (ci := 7) (k := 39) (j := 195) dX7_pages_214 sh_163 (Nat.le_of_ble_eq_true rfl) rfl inX7 (Nat.le_of_ble_eq_true rfl) rfl fl_RX7_104 ?_
              refine vJ.iload_n dX7_pages_217 rfl rfl ?_
              obtain ⟨hb40, h⟩ := h
              refine vJ.lald dX7_pages_218 sh_195 (Nat.le_of_ble_eq_true rfl) hb40 ?_
              refine vJ.lcmp dX7_pages_219 ?_
              refine vJ.if_gt (tgt := 227) dX7_pages_220 (by decide) (fun hc41 => ?_) (fun hc41 => ?_)
              · replace h := h.1 hc41
                refine vJ.sub [0, 1, 2, 3, 4, 7, 8] rfl ?_
                exact h
              · replace h := h.2 hc41
                refine vJ.sub [0, 1, 2, 3, 4, 7, 8] rfl ?_
                exact h
def wp_X7_pages_454 (l2 : Int32) (l3 : Int32) (m : vM) (P : Int32 → vM → Prop) : Prop :=
  ((l2 ≤ l3 →
    P (m.1 163 32) m) ∧
  (¬ l2 ≤ l3 →
    (((m.1 163 32) ≤ (0 : Int32) →
      P (m.1 163 32) m) ∧
    (¬ (m.1 163 32) ≤ (0 : Int32) →
      vp_in l3 16 ∧
      ∀ m2 : vM, m2 = upI m 193 (Int32.toNatClampNeg l3) (0 : Int32) →
      J_X7_pages_454 l2 (l3 + (1 : Int32)) m2 P))))
set_option maxRecDepth 20000 in
set_option maxHeartbeats 4000000 in
theorem b_X7_pages_454 {l2 : Int32} {l3 : Int32} {m : vM} {P : Int32 → vM → Prop}  (h : wp_X7_pages_454 l2 l3 m P) : J_X7_pages_454 l2 l3 m P := by
  show vJ mX7_pages 4 95 197 none 454 [(0, .ref 163), (2, .int l2), (3, .int l3)] [] 197 SH m (vPi P)
  unfold wp_X7_pages_454 at h
  refine vJ.iload_n dX7_pages_454 rfl rfl ?_
  refine vJ.iload_n dX7_pages_455 rfl rfl ?_
  refine vJ.icmp_ge (tgt := 479) dX7_pages_456 (by decide) (fun hc4 => ?_) (fun hc4 => ?_)
  · replace h := h.1 hc4
    refine vJ.aload_n dX7_pages_479 rfl rfl ?_
    refine vJ.getI (ci := 7) (k := 32) dX7_pages_480 sh_163 (Nat.le_of_ble_eq_true rfl) rfl inX7 (Nat.le_of_ble_eq_true rfl) rfl fl_RX7_138 ?_
    exact vJ.ireturn dX7_pages_483 rfl rfl rfl ⟨rfl, _, rfl, h⟩
  · replace h := h.2 hc4
    refine vJ.aload_n dX7_pages_459 rfl rfl ?_
    refine vJ.getI (ci := 7) (k := 32) dX7_pages_460 sh_163 (Nat.le_of_ble_eq_true rfl) rfl inX7 (Nat.le_of_ble_eq_true rfl) rfl fl_RX7_138 ?_
    refine vJ.if_le (tgt := 479) dX7_pages_463 (by decide) (fun hc3 => ?_) (fun hc3 => ?_)
    · replace h := h.1 hc3
      refine vJ.aload_n dX7_pages_479 rfl rfl ?_
      refine vJ.getI (ci := 7) (k := 32) dX7_pages_480 sh_163 (Nat.le_of_ble_eq_true rfl) rfl inX7 (Nat.le_of_ble_eq_true rfl) rfl fl_RX7_138 ?_
      exact vJ.ireturn dX7_pages_483 rfl rfl rfl ⟨rfl, _, rfl, h⟩
    · replace h := h.2 hc3
      refine vJ.aload_n dX7_pages_466 rfl rfl ?_
      refine vJ.getR (ci := 7) (k := 37) (j := 193) dX7_pages_467 sh_163 (Nat.le_of_ble_eq_true rfl) rfl inX7 (Nat.le_of_ble_eq_true rfl) rfl fl_RX7_98 ?_
      refine vJ.iload_n dX7_pages_470 rfl rfl ?_
      refine vJ.iconst dX7_pages_471 ci_0 ?_
      obtain ⟨hb1, h⟩ := h
      refine vJ.iast dX7_pages_472 sh_193 (Nat.le_of_ble_eq_true rfl) hb1 ?_
      refine vJ.topm (fun m2 em2 => ?_)
      replace h := h m2 em2
      refine vJ.iinc (v := l3 + (1 : Int32)) (ls2 := [(0, .ref 163), (2, .int l2), (3, .int (l3 + (1 : Int32)))]) dX7_pages_473 rfl (congrArg (l3 + ·) ci_1) (Nat.le_of_ble_eq_true rfl) rfl ?_
      refine vJ.goto (tgt := 454) dX7_pages_476 (by decide) ?_
      exact h
def wp_X7_pages_401 (l1 : Int32) (l2 : Int32) (l3 : Int32) (l4 : Int32) (l5 : Int32) (m : vM) (P : Int32 → vM → Prop) : Prop :=
  ((l4 ≤ l5 →
    ∀ m1 : vM, m1 = upI m 163 32 ((m.1 163 32) + (1 : Int32)) →
    vp_in ((m1.1 163 32) - (1 : Int32)) 16 ∧
    ∀ v3 : Int32, v3 = (l3 + (m1.1 190 (Int32.toNatClampNeg ((m1.1 163 32) - (1 : Int32))))) →
    J_X7_pages_322 l1 l2 v3 m1 P) ∧
  (¬ l4 ≤ l5 →
    vp_in l5 16 ∧
    ∀ m5 : vM, m5 = upI m 193 (Int32.toNatClampNeg l5) (m.1 163 32) →
    J_X7_pages_401 l1 l2 l3 l4 (l5 + (1 : Int32)) m5 P))
set_option maxRecDepth 20000 in
set_option maxHeartbeats 4000000 in
theorem b_X7_pages_401 {l1 : Int32} {l2 : Int32} {l3 : Int32} {l4 : Int32} {l5 : Int32} {m : vM} {P : Int32 → vM → Prop}  (h : wp_X7_pages_401 l1 l2 l3 l4 l5 m P) : J_X7_pages_401 l1 l2 l3 l4 l5 m P := by
  show vJ mX7_pages 4 95 197 none 401 [(0, .ref 163), (1, .int l1), (2, .int l2), (3, .int l3), (4, .int l4), (5, .int l5)] [] 197 SH m (vPi P)
  unfold wp_X7_pages_401 at h
  refine vJ.iload dX7_pages_401 rfl ?_
  refine vJ.iload dX7_pages_403 rfl ?_
  refine vJ.icmp_ge (tgt := 425) dX7_pages_405 (by decide) (fun hc6 => ?_) (fun hc6 => ?_)
  · replace h := h.1 hc6
    refine vJ.aload_n dX7_pages_425 rfl rfl ?_
    refine vJ.dup dX7_pages_426 rfl ?_
    refine vJ.getI (ci := 7) (k := 32) dX7_pages_427 sh_163 (Nat.le_of_ble_eq_true rfl) rfl inX7 (Nat.le_of_ble_eq_true rfl) rfl fl_RX7_138 ?_
    refine vJ.iconst dX7_pages_430 ci_1 ?_
    refine vJ.iadd dX7_pages_431 ?_
    refine vJ.putI (ci := 7) (k := 32) dX7_pages_432 sh_163 (Nat.le_of_ble_eq_true rfl) rfl inX7 tyX7 tyX7_ok nmX7 (Nat.le_of_ble_eq_true rfl) rfl rfl fl_RX7_138 rfl rfl ?_
    refine vJ.topm (fun m1 em1 => ?_)
    replace h := h m1 em1
    refine vJ.iload_n dX7_pages_435 rfl rfl ?_
    refine vJ.aload_n dX7_pages_436 rfl rfl ?_
    refine vJ.getR (ci := 7) (k := 34) (j := 190) dX7_pages_437 sh_163 (Nat.le_of_ble_eq_true rfl) rfl inX7 (Nat.le_of_ble_eq_true rfl) rfl fl_RX7_89 ?_
    refine vJ.aload_n dX7_pages_440 rfl rfl ?_
    refine vJ.getI (ci := 7) (k := 32) dX7_pages_441 sh_163 (Nat.le_of_ble_eq_true rfl) rfl inX7 (Nat.le_of_ble_eq_true rfl) rfl fl_RX7_138 ?_
    refine vJ.iconst dX7_pages_444 ci_1 ?_
    refine vJ.isub dX7_pages_445 ?_
    obtain ⟨hb2, h⟩ := h
    refine vJ.iald dX7_pages_446 sh_190 (Nat.le_of_ble_eq_true rfl) hb2 ?_
    refine vJ.iadd dX7_pages_447 ?_
    refine vJ.topi (fun v3 ev3 => ?_)
    replace h := h v3 ev3
    refine vJ.istore_n (ls2 := [(0, .ref 163), (1, .int l1), (2, .int l2), (3, .int v3), (4, .int l4), (5, .int l5)]) dX7_pages_448 rfl (Nat.le_of_ble_eq_true rfl) rfl ?_
    refine vJ.goto (tgt := 322) dX7_pages_449 (by decide) ?_
    refine vJ.sub [0, 1, 2, 3] rfl ?_
    exact h
  · replace h := h.2 hc6
    refine vJ.aload_n dX7_pages_408 rfl rfl ?_
    refine vJ.getR (ci := 7) (k := 37) (j := 193) dX7_pages_409 sh_163 (Nat.le_of_ble_eq_true rfl) rfl inX7 (Nat.le_of_ble_eq_true rfl) rfl fl_RX7_98 ?_
    refine vJ.iload dX7_pages_412 rfl ?_
    refine vJ.aload_n dX7_pages_414 rfl rfl ?_
    refine vJ.getI (ci := 7) (k := 32) dX7_pages_415 sh_163 (Nat.le_of_ble_eq_true rfl) rfl inX7 (Nat.le_of_ble_eq_true rfl) rfl fl_RX7_138 ?_
    obtain ⟨hb4, h⟩ := h
    refine vJ.iast dX7_pages_418 sh_193 (Nat.le_of_ble_eq_true rfl) hb4 ?_
    refine vJ.topm (fun m5 em5 => ?_)
    replace h := h m5 em5
    refine vJ.iinc (v := l5 + (1 : Int32)) (ls2 := [(0, .ref 163), (1, .int l1), (2, .int l2), (3, .int l3), (4, .int l4), (5, .int (l5 + (1 : Int32)))]) dX7_pages_419 rfl (congrArg (l5 + ·) ci_1) (Nat.le_of_ble_eq_true rfl) rfl ?_
    refine vJ.goto (tgt := 401) dX7_pages_422 (by decide) ?_
    exact h
def wp_X7_pages_223 (l1 : Int32) (l2 : Int32) (l3 : Int32) (l4 : Int32) (l7 : Int32) (l8 : Int64) (m : vM) (P : Int32 → vM → Prop) : Prop :=
  (((1 : Int32) = (0 : Int32) →
    J_X7_pages_70 l1 l2 l3 (l4 + (1 : Int32)) m P) ∧
  (¬ (1 : Int32) = (0 : Int32) →
    vp_in l3 17 ∧
    ∀ m2 : vM, m2 = upI m 194 (Int32.toNatClampNeg l3) l7 →
    vp_in l3 17 ∧
    ∀ m4 : vM, m4 = upL m2 195 (Int32.toNatClampNeg l3) l8 →
    vp_in l3 17 ∧
    ∀ m6 : vM, m6 = upI m4 196 (Int32.toNatClampNeg l3) (l4 - l3) →
    J_X7_pages_70 l1 l2 l3 (l4 + (1 : Int32)) m6 P))
set_option maxRecDepth 20000 in
set_option maxHeartbeats 4000000 in
theorem b_X7_pages_223 {l1 : Int32} {l2 : Int32} {l3 : Int32} {l4 : Int32} {l7 : Int32} {l8 : Int64} {m : vM} {P : Int32 → vM → Prop}  (h : wp_X7_pages_223 l1 l2 l3 l4 l7 l8 m P) : J_X7_pages_223 l1 l2 l3 l4 l7 l8 m P := by
  show vJ mX7_pages 4 95 197 none 223 [(0, .ref 163), (1, .int l1), (2, .int l2), (3, .int l3), (4, .int l4), (7, .int l7), (8, .long l8)] [] 197 SH m (vPi P)
  unfold wp_X7_pages_223 at h
  refine vJ.iconst dX7_pages_223 ci_1 ?_
  refine vJ.goto (tgt := 228) dX7_pages_224 (by decide) ?_
  refine vJ.istore (ls2 := [(0, .ref 163), (1, .int l1), (2, .int l2), (3, .int l3), (4, .int l4), (7, .int l7), (8, .long l8), (10, .int (1 : Int32))]) dX7_pages_228 (Nat.le_of_ble_eq_true rfl) rfl ?_
  refine vJ.iload dX7_pages_230 rfl ?_
  refine vJ.if_eq (tgt := 261) dX7_pages_232 (by decide) (fun hc7 => ?_) (fun hc7 => ?_)
  · replace h := h.1 hc7
    refine vJ.iinc (v := l4 + (1 : Int32)) (ls2 := [(0, .ref 163), (1, .int l1), (2, .int l2), (3, .int l3), (4, .int (l4 + (1 : Int32))), (7, .int l7), (8, .long l8), (10, .int (1 : Int32))]) dX7_pages_261 rfl (congrArg (l4 + ·) ci_1) (Nat.le_of_ble_eq_true rfl) rfl ?_
    refine vJ.goto (tgt := 70) dX7_pages_264 (by decide) ?_
    refine vJ.sub [0, 1, 2, 3, 4] rfl ?_
    exact h
  · replace h := h.2 hc7
    refine vJ.aload_n dX7_pages_235 rfl rfl ?_
    refine vJ.getR (ci := 7) (k := 38) (j := 194) dX7_pages_236 sh_163 (Nat.le_of_ble_eq_true rfl) rfl inX7 (Nat.le_of_ble_eq_true rfl) rfl fl_RX7_101 ?_
    refine vJ.iload_n dX7_pages_239 rfl rfl ?_
    refine vJ.iload dX7_pages_240 rfl ?_
    obtain ⟨hb1, h⟩ := h
    refine vJ.iast dX7_pages_242 sh_194 (Nat.le_of_ble_eq_true rfl) hb1 ?_
    refine vJ.topm (fun m2 em2 => ?_)
    replace h := h m2 em2
    refine vJ.aload_n dX7_pages_243 rfl rfl ?_
    refine vJ.getR (ci := 7) (k := 39) (j := 195) dX7_pages_244 sh_163 (Nat.le_of_ble_eq_true rfl) rfl inX7 (Nat.le_of_ble_eq_true rfl) rfl fl_RX7_104 ?_
    refine vJ.iload_n dX7_pages_247 rfl rfl ?_
    refine vJ.lload dX7_pages_248 rfl ?_
    obtain ⟨hb3, h⟩ := h
    refine vJ.last dX7_pages_250 sh_195 (Nat.le_of_ble_eq_true rfl) hb3 ?_
    refine vJ.topm (fun m4 em4 => ?_)
    replace h := h m4 em4
    refine vJ.aload_n dX7_pages_251 rfl rfl ?_
    refine vJ.getR (ci := 7) (k := 40) (j := 196) dX7_pages_252 sh_163 (Nat.le_of_ble_eq_true rfl) rfl inX7 (Nat.le_of_ble_eq_true rfl) rfl fl_RX7_108 ?_
    refine vJ.iload_n dX7_pages_255 rfl rfl ?_
    refine vJ.iload dX7_pages_256 rfl ?_
    refine vJ.iload_n dX7_pages_258 rfl rfl ?_
    refine vJ.isub dX7_pages_259 ?_
    obtain ⟨hb5, h⟩ := h
    refine vJ.iast dX7_pages_260 sh_196 (Nat.le_of_ble_eq_true rfl) hb5 ?_
    refine vJ.topm (fun m6 em6 => ?_)
    replace h := h m6 em6
    refine vJ.iinc (v := l4 + (1 : Int32)) (ls2 := [(0, .ref 163), (1, .int l1), (2, .int l2), (3, .int l3), (4, .int (l4 + (1 : Int32))), (7, .int l7), (8, .long l8), (10, .int (1 : Int32))]) dX7_pages_261 rfl (congrArg (l4 + ·) ci_1) (Nat.le_of_ble_eq_true rfl) rfl ?_
    refine vJ.goto (tgt := 70) dX7_pages_264 (by decide) ?_
    refine vJ.sub [0, 1, 2, 3, 4] rfl ?_
    exact h
def wp_X7_pages_227 (l1 : Int32) (l2 : Int32) (l3 : Int32) (l4 : Int32) (l7 : Int32) (l8 : Int64) (m : vM) (P : Int32 → vM → Prop) : Prop :=
  (((0 : Int32) = (0 : Int32) →
    J_X7_pages_70 l1 l2 l3 (l4 + (1 : Int32)) m P) ∧
  (¬ (0 : Int32) = (0 : Int32) →
    vp_in l3 17 ∧
    ∀ m2 : vM, m2 = upI m 194 (Int32.toNatClampNeg l3) l7 →
    vp_in l3 17 ∧
    ∀ m4 : vM, m4 = upL m2 195 (Int32.toNatClampNeg l3) l8 →
    vp_in l3 17 ∧
    ∀ m6 : vM, m6 = upI m4 196 (Int32.toNatClampNeg l3) (l4 - l3) →
    J_X7_pages_70 l1 l2 l3 (l4 + (1 : Int32)) m6 P))
set_option maxRecDepth 20000 in
set_option maxHeartbeats 4000000 in
theorem b_X7_pages_227 {l1 : Int32} {l2 : Int32} {l3 : Int32} {l4 : Int32} {l7 : Int32} {l8 : Int64} {m : vM} {P : Int32 → vM → Prop}  (h : wp_X7_pages_227 l1 l2 l3 l4 l7 l8 m P) : J_X7_pages_227 l1 l2 l3 l4 l7 l8 m P := by
  show vJ mX7_pages 4 95 197 none 227 [(0, .ref 163), (1, .int l1), (2, .int l2), (3, .int l3), (4, .int l4), (7, .int l7), (8, .long l8)] [] 197 SH m (vPi P)
  unfold wp_X7_pages_227 at h
  refine vJ.iconst dX7_pages_227 ci_0 ?_
  refine vJ.istore (ls2 := [(0, .ref 163), (1, .int l1), (2, .int l2), (3, .int l3), (4, .int l4), (7, .int l7), (8, .long l8), (10, .int (0 : Int32))]) dX7_pages_228 (Nat.le_of_ble_eq_true rfl) rfl ?_
  refine vJ.iload dX7_pages_230 rfl ?_
  refine vJ.if_eq (tgt := 261) dX7_pages_232 (by decide) (fun hc7 => ?_) (fun hc7 => ?_)
  · replace h := h.1 hc7
    refine vJ.iinc (v := l4 + (1 : Int32)) (ls2 := [(0, .ref 163), (1, .int l1), (2, .int l2), (3, .int l3), (4, .int (l4 + (1 : Int32))), (7, .int l7), (8, .long l8), (10, .int (0 : Int32))]) dX7_pages_261 rfl (congrArg (l4 + ·) ci_1) (Nat.le_of_ble_eq_true rfl) rfl ?_
    refine vJ.goto (tgt := 70) dX7_pages_264 (by decide) ?_
    refine vJ.sub [0, 1, 2, 3, 4] rfl ?_
    exact h
  · replace h := h.2 hc7
    refine vJ.aload_n dX7_pages_235 rfl rfl ?_
    refine vJ.getR (ci := 7) (k := 38) (j := 194) dX7_pages_236 sh_163 (Nat.le_of_ble_eq_true rfl) rfl inX7 (Nat.le_of_ble_eq_true rfl) rfl fl_RX7_101 ?_
    refine vJ.iload_n dX7_pages_239 rfl rfl ?_
    refine vJ.iload dX7_pages_240 rfl ?_
    obtain ⟨hb1, h⟩ := h
    refine vJ.iast dX7_pages_242 sh_194 (Nat.le_of_ble_eq_true rfl) hb1 ?_
    refine vJ.topm (fun m2 em2 => ?_)
    replace h := h m2 em2
    refine vJ.aload_n dX7_pages_243 rfl rfl ?_
    refine vJ.getR (ci := 7) (k := 39) (j := 195) dX7_pages_244 sh_163 (Nat.le_of_ble_eq_true rfl) rfl inX7 (Nat.le_of_ble_eq_true rfl) rfl fl_RX7_104 ?_
    refine vJ.iload_n dX7_pages_247 rfl rfl ?_
    refine vJ.lload dX7_pages_248 rfl ?_
    obtain ⟨hb3, h⟩ := h
    refine vJ.last dX7_pages_250 sh_195 (Nat.le_of_ble_eq_true rfl) hb3 ?_
    refine vJ.topm (fun m4 em4 => ?_)
    replace h := h m4 em4
    refine vJ.aload_n dX7_pages_251 rfl rfl ?_
    refine vJ.getR (ci := 7) (k := 40) (j := 196) dX7_pages_252 sh_163 (Nat.le_of_ble_eq_true rfl) rfl inX7 (Nat.le_of_ble_eq_true rfl) rfl fl_RX7_108 ?_
    refine vJ.iload_n dX7_pages_255 rfl rfl ?_
    refine vJ.iload dX7_pages_256 rfl ?_
    refine vJ.iload_n dX7_pages_258 rfl rfl ?_
    refine vJ.isub dX7_pages_259 ?_
    obtain ⟨hb5, h⟩ := h
    refine vJ.iast dX7_pages_260 sh_196 (Nat.le_of_ble_eq_true rfl) hb5 ?_
    refine vJ.topm (fun m6 em6 => ?_)
    replace h := h m6 em6
    refine vJ.iinc (v := l4 + (1 : Int32)) (ls2 := [(0, .ref 163), (1, .int l1), (2, .int l2), (3, .int l3), (4, .int (l4 + (1 : Int32))), (7, .int l7), (8, .long l8), (10, .int (0 : Int32))]) dX7_pages_261 rfl (congrArg (l4 + ·) ci_1) (Nat.le_of_ble_eq_true rfl) rfl ?_
    refine vJ.goto (tgt := 70) dX7_pages_264 (by decide) ?_
    refine vJ.sub [0, 1, 2, 3, 4] rfl ?_
    exact h
def J_X7_pageTold_0 (l1 : Int32) (l2 : Int32) (m : vM) (P : Int32 → vM → Prop) : Prop := vJ mX7_pageTold 0 0 197 none 0 [(0, .ref 163), (1, .int l1), (2, .int l2)] [] 197 SH m (vPi P)
def wp_X7_pageTold (l1 : Int32) (l2 : Int32) (m : vM) (P : Int32 → vM → Prop) : Prop :=
  ((l2 = (0 : Int32) →
    vp_in l1 16 ∧
    P (m.1 189 (Int32.toNatClampNeg l1)) m) ∧
  (¬ l2 = (0 : Int32) →
    ((l2 = (1 : Int32) →
      vp_in l1 16 ∧
      P (m.1 190 (Int32.toNatClampNeg l1)) m) ∧
    (¬ l2 = (1 : Int32) →
      ((l2 = (2 : Int32) →
        vp_in l1 16 ∧
        P (m.1 191 (Int32.toNatClampNeg l1)) m) ∧
      (¬ l2 = (2 : Int32) →
        vp_in l1 16 ∧
        P (m.1 192 (Int32.toNatClampNeg l1)) m))))))
set_option maxRecDepth 20000 in
set_option maxHeartbeats 4000000 in
theorem b_X7_pageTold {l1 : Int32} {l2 : Int32} {m : vM} {P : Int32 → vM → Prop}  (h : wp_X7_pageTold l1 l2 m P) : J_X7_pageTold_0 l1 l2 m P := by
  show vJ mX7_pageTold 0 0 197 none 0 [(0, .ref 163), (1, .int l1), (2, .int l2)] [] 197 SH m (vPi P)
  unfold wp_X7_pageTold at h
  refine vJ.iload_n dX7_pageTold_0 rfl rfl ?_
  refine vJ.if_ne (tgt := 13) dX7_pageTold_1 (by decide) (fun hc7 => ?_) (fun hc7 => ?_)
  · replace h := h.2 hc7
    refine vJ.iload_n dX7_pageTold_13 rfl rfl ?_
    refine vJ.iconst dX7_pageTold_14 ci_1 ?_
    refine vJ.icmp_ne (tgt := 27) dX7_pageTold_15 (by decide) (fun hc5 => ?_) (fun hc5 => ?_)
    · replace h := h.2 hc5
      refine vJ.iload_n dX7_pageTold_27 rfl rfl ?_
      refine vJ.iconst dX7_pageTold_28 ci_2 ?_
      refine vJ.icmp_ne (tgt := 41) dX7_pageTold_29 (by decide) (fun hc3 => ?_) (fun hc3 => ?_)
      · replace h := h.2 hc3
        refine vJ.aload_n dX7_pageTold_41 rfl rfl ?_
        refine vJ.getR (ci := 7) (k := 36) (j := 192) dX7_pageTold_42 sh_163 (Nat.le_of_ble_eq_true rfl) rfl inX7 (Nat.le_of_ble_eq_true rfl) rfl fl_RX7_95 ?_
        refine vJ.iload_n dX7_pageTold_45 rfl rfl ?_
        obtain ⟨hb1, h⟩ := h
        refine vJ.iald dX7_pageTold_46 sh_192 (Nat.le_of_ble_eq_true rfl) hb1 ?_
        exact vJ.ireturn dX7_pageTold_47 rfl rfl rfl ⟨rfl, _, rfl, h⟩
      · replace h := h.1 hc3
        refine vJ.aload_n dX7_pageTold_32 rfl rfl ?_
        refine vJ.getR (ci := 7) (k := 35) (j := 191) dX7_pageTold_33 sh_163 (Nat.le_of_ble_eq_true rfl) rfl inX7 (Nat.le_of_ble_eq_true rfl) rfl fl_RX7_92 ?_
        refine vJ.iload_n dX7_pageTold_36 rfl rfl ?_
        obtain ⟨hb2, h⟩ := h
        refine vJ.iald dX7_pageTold_37 sh_191 (Nat.le_of_ble_eq_true rfl) hb2 ?_
        refine vJ.goto (tgt := 47) dX7_pageTold_38 (by decide) ?_
        exact vJ.ireturn dX7_pageTold_47 rfl rfl rfl ⟨rfl, _, rfl, h⟩
    · replace h := h.1 hc5
      refine vJ.aload_n dX7_pageTold_18 rfl rfl ?_
      refine vJ.getR (ci := 7) (k := 34) (j := 190) dX7_pageTold_19 sh_163 (Nat.le_of_ble_eq_true rfl) rfl inX7 (Nat.le_of_ble_eq_true rfl) rfl fl_RX7_89 ?_
      refine vJ.iload_n dX7_pageTold_22 rfl rfl ?_
      obtain ⟨hb4, h⟩ := h
      refine vJ.iald dX7_pageTold_23 sh_190 (Nat.le_of_ble_eq_true rfl) hb4 ?_
      refine vJ.goto (tgt := 47) dX7_pageTold_24 (by decide) ?_
      exact vJ.ireturn dX7_pageTold_47 rfl rfl rfl ⟨rfl, _, rfl, h⟩
  · replace h := h.1 hc7
    refine vJ.aload_n dX7_pageTold_4 rfl rfl ?_
    refine vJ.getR (ci := 7) (k := 33) (j := 189) dX7_pageTold_5 sh_163 (Nat.le_of_ble_eq_true rfl) rfl inX7 (Nat.le_of_ble_eq_true rfl) rfl fl_RX7_86 ?_
    refine vJ.iload_n dX7_pageTold_8 rfl rfl ?_
    obtain ⟨hb6, h⟩ := h
    refine vJ.iald dX7_pageTold_9 sh_189 (Nat.le_of_ble_eq_true rfl) hb6 ?_
    refine vJ.goto (tgt := 47) dX7_pageTold_10 (by decide) ?_
    exact vJ.ireturn dX7_pageTold_47 rfl rfl rfl ⟨rfl, _, rfl, h⟩
def EI_X7_pageTold (l1 : Int32) (l2 : Int32) (m : vM) (P : Int32 → vM → Prop) : Prop := Ev mX7_pageTold 0 0 197 [.ref 163, .int l1, .int l2] 197 SH m (vPi P)
theorem f_X7_pageTold {l1 : Int32} {l2 : Int32} {m : vM} {P : Int32 → vM → Prop} (h : J_X7_pageTold_0 l1 l2 m P) : EI_X7_pageTold l1 l2 m P := Ev.of pn_X7_pageTold (Nat.le_of_ble_eq_true rfl) h
theorem e_X7_pageTold {l1 : Int32} {l2 : Int32} {m : vM} {P : Int32 → vM → Prop}  (h : wp_X7_pageTold l1 l2 m P) : EI_X7_pageTold l1 l2 m P := f_X7_pageTold (b_X7_pageTold  h)
def J_X7_page_0 (l1 : Int32) (l2 : Int32) (m : vM) (P : Int32 → vM → Prop) : Prop := vJ mX7_page 1 22 197 none 0 [(0, .ref 163), (1, .int l1), (2, .int l2)] [] 197 SH m (vPi P)
def wp_X7_page (l1 : Int32) (l2 : Int32) (m : vM) (P : Int32 → vM → Prop) : Prop :=
  wp_X7_in l2 (0 : Int32) (3 : Int32) m (fun r2 m1 =>
    ((r2 = (0 : Int32) →
      P (-1 : Int32) m1) ∧
    (¬ r2 = (0 : Int32) →
      wp_X7_in l1 (0 : Int32) ((m1.1 163 32) - (1 : Int32)) m1 (fun r4 m3 =>
        ((r4 = (0 : Int32) →
          P (-9 : Int32) m3) ∧
        (¬ r4 = (0 : Int32) →
          wp_X7_pageTold l1 l2 m3 (fun r6 m5 =>
            P r6 m5)))))))
set_option maxRecDepth 20000 in
set_option maxHeartbeats 4000000 in
theorem b_X7_page {l1 : Int32} {l2 : Int32} {m : vM} {P : Int32 → vM → Prop}  (h : wp_X7_page l1 l2 m P) : J_X7_page_0 l1 l2 m P := by
  show vJ mX7_page 1 22 197 none 0 [(0, .ref 163), (1, .int l1), (2, .int l2)] [] 197 SH m (vPi P)
  unfold wp_X7_page at h
  refine vJ.iload_n dX7_page_0 rfl rfl ?_
  refine vJ.iconst dX7_page_1 ci_0 ?_
  refine vJ.iconst dX7_page_2 ci_3 ?_
  refine vJ.callS (Yc := mX7_in) (frc := 0) (loc := 0) (as := [.int l2, .int (0 : Int32), .int (3 : Int32)]) dX7_page_3 rfl ml_RX7_119 st_yX7_in co_X7_in in_TableSetterModel pl_X7_in (Nat.le_of_ble_eq_true rfl) (Nat.le_of_ble_eq_true rfl) (Nat.le_of_ble_eq_true rfl) ?_
  refine Ev.gi (e_X7_in  h) (fun r2 m1 h => ?_)
  refine vJ.if_ne (tgt := 13) dX7_page_6 (by decide) (fun hc8 => ?_) (fun hc8 => ?_)
  · replace h := h.2 hc8
    refine vJ.iload_n dX7_page_13 rfl rfl ?_
    refine vJ.iconst dX7_page_14 ci_0 ?_
    refine vJ.aload_n dX7_page_15 rfl rfl ?_
    refine vJ.getI (ci := 7) (k := 32) dX7_page_16 sh_163 (Nat.le_of_ble_eq_true rfl) rfl inX7 (Nat.le_of_ble_eq_true rfl) rfl fl_RX7_138 ?_
    refine vJ.iconst dX7_page_19 ci_1 ?_
    refine vJ.isub dX7_page_20 ?_
    refine vJ.callS (Yc := mX7_in) (frc := 0) (loc := 0) (as := [.int l1, .int (0 : Int32), .int ((m1.1 163 32) - (1 : Int32))]) dX7_page_21 rfl ml_RX7_119 st_yX7_in co_X7_in in_TableSetterModel pl_X7_in (Nat.le_of_ble_eq_true rfl) (Nat.le_of_ble_eq_true rfl) (Nat.le_of_ble_eq_true rfl) ?_
    refine Ev.gi (e_X7_in  h) (fun r4 m3 h => ?_)
    refine vJ.if_eq (tgt := 36) dX7_page_24 (by decide) (fun hc7 => ?_) (fun hc7 => ?_)
    · replace h := h.1 hc7
      refine vJ.bipush dX7_page_36 cb_m9 ?_
      exact vJ.ireturn dX7_page_38 rfl rfl rfl ⟨rfl, _, rfl, h⟩
    · replace h := h.2 hc7
      refine vJ.aload_n dX7_page_27 rfl rfl ?_
      refine vJ.iload_n dX7_page_28 rfl rfl ?_
      refine vJ.iload_n dX7_page_29 rfl rfl ?_
      refine vJ.callV (ci := 7) (Yc := mX7_pageTold) (frc := 0) (loc := 0) (as := [.int l1, .int l2]) dX7_page_30 rfl sh_163 (Nat.le_of_ble_eq_true rfl) rfl ml_RX7_231 im_yX7_pageTold se_yX7_pageTold co_X7_pageTold in_TableSetterModel pl_X7_pageTold (Nat.le_of_ble_eq_true rfl) (Nat.le_of_ble_eq_true rfl) (Nat.le_of_ble_eq_true rfl) ?_
      refine Ev.gi (e_X7_pageTold  h) (fun r6 m5 h => ?_)
      refine vJ.goto (tgt := 38) dX7_page_33 (by decide) ?_
      exact vJ.ireturn dX7_page_38 rfl rfl rfl ⟨rfl, _, rfl, h⟩
  · replace h := h.1 hc8
    refine vJ.iconst dX7_page_9 ci_m1 ?_
    refine vJ.goto (tgt := 38) dX7_page_10 (by decide) ?_
    exact vJ.ireturn dX7_page_38 rfl rfl rfl ⟨rfl, _, rfl, h⟩
def EI_X7_page (l1 : Int32) (l2 : Int32) (m : vM) (P : Int32 → vM → Prop) : Prop := Ev mX7_page 1 22 197 [.ref 163, .int l1, .int l2] 197 SH m (vPi P)
theorem f_X7_page {l1 : Int32} {l2 : Int32} {m : vM} {P : Int32 → vM → Prop} (h : J_X7_page_0 l1 l2 m P) : EI_X7_page l1 l2 m P := Ev.of pn_X7_page (Nat.le_of_ble_eq_true rfl) h
theorem e_X7_page {l1 : Int32} {l2 : Int32} {m : vM} {P : Int32 → vM → Prop}  (h : wp_X7_page l1 l2 m P) : EI_X7_page l1 l2 m P := f_X7_page (b_X7_page  h)
def J_X7_pageOf_0 (l1 : Int32) (m : vM) (P : Int32 → vM → Prop) : Prop := vJ mX7_pageOf 2 43 197 none 0 [(0, .ref 163), (1, .int l1)] [] 197 SH m (vPi P)
def wp_X7_pageOf (l1 : Int32) (m : vM) (P : Int32 → vM → Prop) : Prop :=
  wp_X7_isRow l1 m (fun r2 m1 =>
    ((r2 = (0 : Int32) →
      P (-1 : Int32) m1) ∧
    (¬ r2 = (0 : Int32) →
      vp_in l1 16 ∧
      P (m1.1 193 (Int32.toNatClampNeg l1)) m1)))
set_option maxRecDepth 20000 in
set_option maxHeartbeats 4000000 in
theorem b_X7_pageOf {l1 : Int32} {m : vM} {P : Int32 → vM → Prop}  (h : wp_X7_pageOf l1 m P) : J_X7_pageOf_0 l1 m P := by
  show vJ mX7_pageOf 2 43 197 none 0 [(0, .ref 163), (1, .int l1)] [] 197 SH m (vPi P)
  unfold wp_X7_pageOf at h
  refine vJ.aload_n dX7_pageOf_0 rfl rfl ?_
  refine vJ.iload_n dX7_pageOf_1 rfl rfl ?_
  refine vJ.callV (ci := 7) (Yc := mX7_isRow) (frc := 1) (loc := 22) (as := [.int l1]) dX7_pageOf_2 rfl sh_163 (Nat.le_of_ble_eq_true rfl) rfl ml_RX7_148 im_yX7_isRow se_yX7_isRow co_X7_isRow in_TableSetterModel pl_X7_isRow (Nat.le_of_ble_eq_true rfl) (Nat.le_of_ble_eq_true rfl) (Nat.le_of_ble_eq_true rfl) ?_
  refine Ev.gi (e_X7_isRow  h) (fun r2 m1 h => ?_)
  refine vJ.if_eq (tgt := 17) dX7_pageOf_5 (by decide) (fun hc4 => ?_) (fun hc4 => ?_)
  · replace h := h.1 hc4
    refine vJ.iconst dX7_pageOf_17 ci_m1 ?_
    exact vJ.ireturn dX7_pageOf_18 rfl rfl rfl ⟨rfl, _, rfl, h⟩
  · replace h := h.2 hc4
    refine vJ.aload_n dX7_pageOf_8 rfl rfl ?_
    refine vJ.getR (ci := 7) (k := 37) (j := 193) dX7_pageOf_9 sh_163 (Nat.le_of_ble_eq_true rfl) rfl inX7 (Nat.le_of_ble_eq_true rfl) rfl fl_RX7_98 ?_
    refine vJ.iload_n dX7_pageOf_12 rfl rfl ?_
    obtain ⟨hb3, h⟩ := h
    refine vJ.iald dX7_pageOf_13 sh_193 (Nat.le_of_ble_eq_true rfl) hb3 ?_
    refine vJ.goto (tgt := 18) dX7_pageOf_14 (by decide) ?_
    exact vJ.ireturn dX7_pageOf_18 rfl rfl rfl ⟨rfl, _, rfl, h⟩
def EI_X7_pageOf (l1 : Int32) (m : vM) (P : Int32 → vM → Prop) : Prop := Ev mX7_pageOf 2 43 197 [.ref 163, .int l1] 197 SH m (vPi P)
theorem f_X7_pageOf {l1 : Int32} {m : vM} {P : Int32 → vM → Prop} (h : J_X7_pageOf_0 l1 m P) : EI_X7_pageOf l1 m P := Ev.of pn_X7_pageOf (Nat.le_of_ble_eq_true rfl) h
theorem e_X7_pageOf {l1 : Int32} {m : vM} {P : Int32 → vM → Prop}  (h : wp_X7_pageOf l1 m P) : EI_X7_pageOf l1 m P := f_X7_pageOf (b_X7_pageOf  h)
def J_X7_count_0 (l1 : Int32) (m : vM) (P : Int32 → vM → Prop) : Prop := vJ mX7_count 3 76 197 none 0 [(0, .ref 163), (1, .int l1)] [] 197 SH m (vPi P)
def J_X7_count_4 (l1 : Int32) (l2 : Int32) (l3 : Int32) (m : vM) (P : Int32 → vM → Prop) : Prop := vJ mX7_count 3 76 197 none 4 [(0, .ref 163), (1, .int l1), (2, .int l2), (3, .int l3)] [] 197 SH m (vPi P)
def wp_X7_count_0 (l1 : Int32) (m : vM) (P : Int32 → vM → Prop) : Prop :=
  J_X7_count_4 l1 (0 : Int32) (0 : Int32) m P
set_option maxRecDepth 20000 in
set_option maxHeartbeats 4000000 in
theorem b_X7_count_0 {l1 : Int32} {m : vM} {P : Int32 → vM → Prop}  (h : wp_X7_count_0 l1 m P) : J_X7_count_0 l1 m P := by
  show vJ mX7_count 3 76 197 none 0 [(0, .ref 163), (1, .int l1)] [] 197 SH m (vPi P)
  unfold wp_X7_count_0 at h
  refine vJ.iconst dX7_count_0 ci_0 ?_
  refine vJ.istore_n (ls2 := [(0, .ref 163), (1, .int l1), (2, .int (0 : Int32))]) dX7_count_1 rfl (Nat.le_of_ble_eq_true rfl) rfl ?_
  refine vJ.iconst dX7_count_2 ci_0 ?_
  refine vJ.istore_n (ls2 := [(0, .ref 163), (1, .int l1), (2, .int (0 : Int32)), (3, .int (0 : Int32))]) dX7_count_3 rfl (Nat.le_of_ble_eq_true rfl) rfl ?_
  exact h
def EI_X7_count (l1 : Int32) (m : vM) (P : Int32 → vM → Prop) : Prop := Ev mX7_count 3 76 197 [.ref 163, .int l1] 197 SH m (vPi P)
theorem f_X7_count {l1 : Int32} {m : vM} {P : Int32 → vM → Prop} (h : J_X7_count_0 l1 m P) : EI_X7_count l1 m P := Ev.of pn_X7_count (Nat.le_of_ble_eq_true rfl) h
def wp_X7_count_4 (l1 : Int32) (l2 : Int32) (l3 : Int32) (m : vM) (P : Int32 → vM → Prop) : Prop :=
  (((m.1 163 7) ≤ l3 →
    ((l1 = (0 : Int32) →
      P (m.1 163 2) m) ∧
    (¬ l1 = (0 : Int32) →
      ((l1 = (1 : Int32) →
        P (m.1 163 3) m) ∧
      (¬ l1 = (1 : Int32) →
        ((l1 = (2 : Int32) →
          P (m.1 163 7) m) ∧
        (¬ l1 = (2 : Int32) →
          ((l1 = (3 : Int32) →
            P l2 m) ∧
          (¬ l1 = (3 : Int32) →
            ((l1 = (4 : Int32) →
              EI_X7_headRows m (fun r4 m3 =>
                P r4 m3)) ∧
            (¬ l1 = (4 : Int32) →
              ((l1 = (5 : Int32) →
                P (m.1 163 32) m) ∧
              (¬ l1 = (5 : Int32) →
                ((l1 = (6 : Int32) →
                  EI_X7_heightBy 181 6 m (fun r2 m1 =>
                    P r2 m1)) ∧
                (¬ l1 = (6 : Int32) →
                  P (-1 : Int32) m))))))))))))))) ∧
  (¬ (m.1 163 7) ≤ l3 →
    vp_in l3 40 ∧
    (((m.1 172 (Int32.toNatClampNeg l3)) = (0 : Int32) →
      ∀ v6 : Int32, v6 = (l2 + (1 : Int32)) →
      J_X7_count_4 l1 v6 (l3 + (1 : Int32)) m P) ∧
    (¬ (m.1 172 (Int32.toNatClampNeg l3)) = (0 : Int32) →
      ∀ v7 : Int32, v7 = (l2 + (0 : Int32)) →
      J_X7_count_4 l1 v7 (l3 + (1 : Int32)) m P))))
set_option maxRecDepth 20000 in
set_option maxHeartbeats 4000000 in
theorem b_X7_count_4 {l1 : Int32} {l2 : Int32} {l3 : Int32} {m : vM} {P : Int32 → vM → Prop}  (h : wp_X7_count_4 l1 l2 l3 m P) : J_X7_count_4 l1 l2 l3 m P := by
  show vJ mX7_count 3 76 197 none 4 [(0, .ref 163), (1, .int l1), (2, .int l2), (3, .int l3)] [] 197 SH m (vPi P)
  unfold wp_X7_count_4 at h
  refine vJ.iload_n dX7_count_4 rfl rfl ?_
  refine vJ.aload_n dX7_count_5 rfl rfl ?_
  refine vJ.getI (ci := 7) (k := 7) dX7_count_6 sh_163 (Nat.le_of_ble_eq_true rfl) rfl inX7 (Nat.le_of_ble_eq_true rfl) rfl fl_RX7_132 ?_
  refine vJ.icmp_ge (tgt := 35) dX7_count_9 (by decide) (fun hc9 => ?_) (fun hc9 => ?_)
  · replace h := h.1 hc9
    refine vJ.iload_n dX7_count_35 rfl rfl ?_
    by_cases hk0 : l1 = (0 : Int32)
    · replace h := h.1 hk0
      refine vJ.tabIn (tgt := 80) dX7_count_36 (by rw [hk0]; decide) (by rw [hk0]; decide) (by rw [hk0]; rfl) (by decide) ?_
      refine vJ.aload_n dX7_count_80 rfl rfl ?_
      refine vJ.getI (ci := 7) (k := 2) dX7_count_81 sh_163 (Nat.le_of_ble_eq_true rfl) rfl inX7 (Nat.le_of_ble_eq_true rfl) rfl fl_RX7_123 ?_
      exact vJ.ireturn dX7_count_84 rfl rfl rfl ⟨rfl, _, rfl, h⟩
    · replace h := h.2 hk0
      by_cases hk1 : l1 = (1 : Int32)
      · replace h := h.1 hk1
        refine vJ.tabIn (tgt := 85) dX7_count_36 (by rw [hk1]; decide) (by rw [hk1]; decide) (by rw [hk1]; rfl) (by decide) ?_
        refine vJ.aload_n dX7_count_85 rfl rfl ?_
        refine vJ.getI (ci := 7) (k := 3) dX7_count_86 sh_163 (Nat.le_of_ble_eq_true rfl) rfl inX7 (Nat.le_of_ble_eq_true rfl) rfl fl_RX7_126 ?_
        exact vJ.ireturn dX7_count_89 rfl rfl rfl ⟨rfl, _, rfl, h⟩
      · replace h := h.2 hk1
        by_cases hk2 : l1 = (2 : Int32)
        · replace h := h.1 hk2
          refine vJ.tabIn (tgt := 90) dX7_count_36 (by rw [hk2]; decide) (by rw [hk2]; decide) (by rw [hk2]; rfl) (by decide) ?_
          refine vJ.aload_n dX7_count_90 rfl rfl ?_
          refine vJ.getI (ci := 7) (k := 7) dX7_count_91 sh_163 (Nat.le_of_ble_eq_true rfl) rfl inX7 (Nat.le_of_ble_eq_true rfl) rfl fl_RX7_132 ?_
          exact vJ.ireturn dX7_count_94 rfl rfl rfl ⟨rfl, _, rfl, h⟩
        · replace h := h.2 hk2
          by_cases hk3 : l1 = (3 : Int32)
          · replace h := h.1 hk3
            refine vJ.tabIn (tgt := 95) dX7_count_36 (by rw [hk3]; decide) (by rw [hk3]; decide) (by rw [hk3]; rfl) (by decide) ?_
            refine vJ.iload_n dX7_count_95 rfl rfl ?_
            exact vJ.ireturn dX7_count_96 rfl rfl rfl ⟨rfl, _, rfl, h⟩
          · replace h := h.2 hk3
            by_cases hk4 : l1 = (4 : Int32)
            · replace h := h.1 hk4
              refine vJ.tabIn (tgt := 97) dX7_count_36 (by rw [hk4]; decide) (by rw [hk4]; decide) (by rw [hk4]; rfl) (by decide) ?_
              refine vJ.aload_n dX7_count_97 rfl rfl ?_
              refine vJ.callV (ci := 7) (Yc := mX7_headRows) (frc := 2) (loc := 46) (as := []) dX7_count_98 rfl sh_163 (Nat.le_of_ble_eq_true rfl) rfl ml_RX7_213 im_yX7_headRows se_yX7_headRows co_X7_headRows in_TableSetterModel pl_X7_headRows (Nat.le_of_ble_eq_true rfl) (Nat.le_of_ble_eq_true rfl) (Nat.le_of_ble_eq_true rfl) ?_
              refine Ev.gi h (fun r4 m3 h => ?_)
              exact vJ.ireturn dX7_count_101 rfl rfl rfl ⟨rfl, _, rfl, h⟩
            · replace h := h.2 hk4
              by_cases hk5 : l1 = (5 : Int32)
              · replace h := h.1 hk5
                refine vJ.tabIn (tgt := 102) dX7_count_36 (by rw [hk5]; decide) (by rw [hk5]; decide) (by rw [hk5]; rfl) (by decide) ?_
                refine vJ.aload_n dX7_count_102 rfl rfl ?_
                refine vJ.getI (ci := 7) (k := 32) dX7_count_103 sh_163 (Nat.le_of_ble_eq_true rfl) rfl inX7 (Nat.le_of_ble_eq_true rfl) rfl fl_RX7_138 ?_
                exact vJ.ireturn dX7_count_106 rfl rfl rfl ⟨rfl, _, rfl, h⟩
              · replace h := h.2 hk5
                by_cases hk6 : l1 = (6 : Int32)
                · replace h := h.1 hk6
                  refine vJ.tabIn (tgt := 107) dX7_count_36 (by rw [hk6]; decide) (by rw [hk6]; decide) (by rw [hk6]; rfl) (by decide) ?_
                  refine vJ.aload_n dX7_count_107 rfl rfl ?_
                  refine vJ.aload_n dX7_count_108 rfl rfl ?_
                  refine vJ.getR (ci := 7) (k := 23) (j := 181) dX7_count_109 sh_163 (Nat.le_of_ble_eq_true rfl) rfl inX7 (Nat.le_of_ble_eq_true rfl) rfl fl_RX7_62 ?_
                  refine vJ.callV (ci := 7) (Yc := mX7_heightBy) (frc := 2) (loc := 53) (as := [.ref 181]) dX7_count_112 rfl sh_163 (Nat.le_of_ble_eq_true rfl) rfl ml_RX7_199 im_yX7_heightBy se_yX7_heightBy co_X7_heightBy in_TableSetterModel pl_X7_heightBy (Nat.le_of_ble_eq_true rfl) (Nat.le_of_ble_eq_true rfl) (Nat.le_of_ble_eq_true rfl) ?_
                  refine Ev.gi h (fun r2 m1 h => ?_)
                  exact vJ.ireturn dX7_count_115 rfl rfl rfl ⟨rfl, _, rfl, h⟩
                · replace h := h.2 hk6
                  refine vJ.tabOut (tgt := 116) dX7_count_36 (tab_out7 hk0 hk1 hk2 hk3 hk4 hk5 hk6) (by decide) ?_
                  refine vJ.iconst dX7_count_116 ci_m1 ?_
                  exact vJ.ireturn dX7_count_117 rfl rfl rfl ⟨rfl, _, rfl, h⟩
  · replace h := h.2 hc9
    refine vJ.iload_n dX7_count_12 rfl rfl ?_
    refine vJ.aload_n dX7_count_13 rfl rfl ?_
    refine vJ.getR (ci := 7) (k := 13) (j := 172) dX7_count_14 sh_163 (Nat.le_of_ble_eq_true rfl) rfl inX7 (Nat.le_of_ble_eq_true rfl) rfl fl_RX7_34 ?_
    refine vJ.iload_n dX7_count_17 rfl rfl ?_
    obtain ⟨hb5, h⟩ := h
    refine vJ.zald dX7_count_18 sh_172 (Nat.le_of_ble_eq_true rfl) hb5 ?_
    refine vJ.if_eq (tgt := 26) dX7_count_19 (by decide) (fun hc8 => ?_) (fun hc8 => ?_)
    · replace h := h.1 hc8
      refine vJ.iconst dX7_count_26 ci_1 ?_
      refine vJ.iadd dX7_count_27 ?_
      refine vJ.topi (fun v6 ev6 => ?_)
      replace h := h v6 ev6
      refine vJ.istore_n (ls2 := [(0, .ref 163), (1, .int l1), (2, .int v6), (3, .int l3)]) dX7_count_28 rfl (Nat.le_of_ble_eq_true rfl) rfl ?_
      refine vJ.iinc (v := l3 + (1 : Int32)) (ls2 := [(0, .ref 163), (1, .int l1), (2, .int v6), (3, .int (l3 + (1 : Int32)))]) dX7_count_29 rfl (congrArg (l3 + ·) ci_1) (Nat.le_of_ble_eq_true rfl) rfl ?_
      refine vJ.goto (tgt := 4) dX7_count_32 (by decide) ?_
      exact h
    · replace h := h.2 hc8
      refine vJ.iconst dX7_count_22 ci_0 ?_
      refine vJ.goto (tgt := 27) dX7_count_23 (by decide) ?_
      refine vJ.iadd dX7_count_27 ?_
      refine vJ.topi (fun v7 ev7 => ?_)
      replace h := h v7 ev7
      refine vJ.istore_n (ls2 := [(0, .ref 163), (1, .int l1), (2, .int v7), (3, .int l3)]) dX7_count_28 rfl (Nat.le_of_ble_eq_true rfl) rfl ?_
      refine vJ.iinc (v := l3 + (1 : Int32)) (ls2 := [(0, .ref 163), (1, .int l1), (2, .int v7), (3, .int (l3 + (1 : Int32)))]) dX7_count_29 rfl (congrArg (l3 + ·) ci_1) (Nat.le_of_ble_eq_true rfl) rfl ?_
      refine vJ.goto (tgt := 4) dX7_count_32 (by decide) ?_
      exact h
def J_X7_digestCell_0 (l1 : Int64) (l3 : Int32) (m : vM) (P : Int64 → vM → Prop) : Prop := vJ mX7_digestCell 1 22 197 none 0 [(0, .ref 163), (1, .long l1), (3, .int l3)] [] 197 SH m (vPl P)
def J_X7_digestCell_6 (l3 : Int32) (l4 : Int64) (l6 : Int32) (m : vM) (P : Int64 → vM → Prop) : Prop := vJ mX7_digestCell 1 22 197 none 6 [(0, .ref 163), (3, .int l3), (4, .long l4), (6, .int l6)] [] 197 SH m (vPl P)
def wp_X7_digestCell_0 (l1 : Int64) (l3 : Int32) (m : vM) (P : Int64 → vM → Prop) : Prop :=
  J_X7_digestCell_6 l3 l1 (0 : Int32) m P
set_option maxRecDepth 20000 in
set_option maxHeartbeats 4000000 in
theorem b_X7_digestCell_0 {l1 : Int64} {l3 : Int32} {m : vM} {P : Int64 → vM → Prop}  (h : wp_X7_digestCell_0 l1 l3 m P) : J_X7_digestCell_0 l1 l3 m P := by
  show vJ mX7_digestCell 1 22 197 none 0 [(0, .ref 163), (1, .long l1), (3, .int l3)] [] 197 SH m (vPl P)
  unfold wp_X7_digestCell_0 at h
  refine vJ.lload_n dX7_digestCell_0 rfl rfl ?_
  refine vJ.lstore (ls2 := [(0, .ref 163), (1, .long l1), (3, .int l3), (4, .long l1)]) dX7_digestCell_1 (Nat.le_of_ble_eq_true rfl) rfl ?_
  refine vJ.iconst dX7_digestCell_3 ci_0 ?_
  refine vJ.istore (ls2 := [(0, .ref 163), (1, .long l1), (3, .int l3), (4, .long l1), (6, .int (0 : Int32))]) dX7_digestCell_4 (Nat.le_of_ble_eq_true rfl) rfl ?_
  refine vJ.sub [0, 2, 3, 4] rfl ?_
  exact h
def EI_X7_digestCell (l1 : Int64) (l3 : Int32) (m : vM) (P : Int64 → vM → Prop) : Prop := Ev mX7_digestCell 1 22 197 [.ref 163, .long l1, .int l3] 197 SH m (vPl P)
theorem f_X7_digestCell {l1 : Int64} {l3 : Int32} {m : vM} {P : Int64 → vM → Prop} (h : J_X7_digestCell_0 l1 l3 m P) : EI_X7_digestCell l1 l3 m P := Ev.of pn_X7_digestCell (Nat.le_of_ble_eq_true rfl) h
def J_X7_digestCell_39 (l3 : Int32) (l4 : Int64) (l6 : Int32) (m : vM) (P : Int64 → vM → Prop) : Prop := vJ mX7_digestCell 1 22 197 none 39 [(0, .ref 163), (3, .int l3), (4, .long l4), (6, .int l6)] [] 197 SH m (vPl P)
def wp_X7_digestCell_6 (l3 : Int32) (l4 : Int64) (l6 : Int32) (m : vM) (P : Int64 → vM → Prop) : Prop :=
  (((7 : Int32) ≤ l6 →
    J_X7_digestCell_39 l3 l4 (0 : Int32) m P) ∧
  (¬ (7 : Int32) ≤ l6 →
    wp_X7_toldOf l3 l6 m (fun r2 m1 =>
      ∀ v3 : Int64, v3 = (((31 : Int64) * l4) + (Int32.toInt64 r2)) →
      J_X7_digestCell_6 l3 v3 (l6 + (1 : Int32)) m1 P)))
set_option maxRecDepth 20000 in
set_option maxHeartbeats 4000000 in
theorem b_X7_digestCell_6 {l3 : Int32} {l4 : Int64} {l6 : Int32} {m : vM} {P : Int64 → vM → Prop}  (h : wp_X7_digestCell_6 l3 l4 l6 m P) : J_X7_digestCell_6 l3 l4 l6 m P := by
  show vJ mX7_digestCell 1 22 197 none 6 [(0, .ref 163), (3, .int l3), (4, .long l4), (6, .int l6)] [] 197 SH m (vPl P)
  unfold wp_X7_digestCell_6 at h
  refine vJ.iload dX7_digestCell_6 rfl ?_
  refine vJ.bipush dX7_digestCell_8 cb_7 ?_
  refine vJ.icmp_ge (tgt := 36) dX7_digestCell_10 (by decide) (fun hc4 => ?_) (fun hc4 => ?_)
  · replace h := h.1 hc4
    refine vJ.iconst dX7_digestCell_36 ci_0 ?_
    refine vJ.istore (ls2 := [(0, .ref 163), (3, .int l3), (4, .long l4), (6, .int (0 : Int32))]) dX7_digestCell_37 (Nat.le_of_ble_eq_true rfl) rfl ?_
    exact h
  · replace h := h.2 hc4
    refine vJ.ldc2 dX7_digestCell_13 kl_RX7_234 ?_
    refine vJ.lload dX7_digestCell_16 rfl ?_
    refine vJ.lmul dX7_digestCell_18 ?_
    refine vJ.aload_n dX7_digestCell_19 rfl rfl ?_
    refine vJ.iload_n dX7_digestCell_20 rfl rfl ?_
    refine vJ.iload dX7_digestCell_21 rfl ?_
    refine vJ.callV (ci := 7) (Yc := mX7_toldOf) (frc := 0) (loc := 0) (as := [.int l3, .int l6]) dX7_digestCell_23 rfl sh_163 (Nat.le_of_ble_eq_true rfl) rfl ml_RX7_166 im_yX7_toldOf se_yX7_toldOf co_X7_toldOf in_TableSetterModel pl_X7_toldOf (Nat.le_of_ble_eq_true rfl) (Nat.le_of_ble_eq_true rfl) (Nat.le_of_ble_eq_true rfl) ?_
    refine Ev.gi (e_X7_toldOf  h) (fun r2 m1 h => ?_)
    refine vJ.i2l dX7_digestCell_26 ?_
    refine vJ.ladd dX7_digestCell_27 ?_
    refine vJ.topl (fun v3 ev3 => ?_)
    replace h := h v3 ev3
    refine vJ.lstore (ls2 := [(0, .ref 163), (3, .int l3), (4, .long v3), (6, .int l6)]) dX7_digestCell_28 (Nat.le_of_ble_eq_true rfl) rfl ?_
    refine vJ.iinc (v := l6 + (1 : Int32)) (ls2 := [(0, .ref 163), (3, .int l3), (4, .long v3), (6, .int (l6 + (1 : Int32)))]) dX7_digestCell_30 rfl (congrArg (l6 + ·) ci_1) (Nat.le_of_ble_eq_true rfl) rfl ?_
    refine vJ.goto (tgt := 6) dX7_digestCell_33 (by decide) ?_
    exact h
def wp_X7_digestCell_39 (l3 : Int32) (l4 : Int64) (l6 : Int32) (m : vM) (P : Int64 → vM → Prop) : Prop :=
  vp_in l3 40 ∧
  (((m.1 173 (Int32.toNatClampNeg l3)) ≤ l6 →
    vp_in l3 40 ∧
    (((m.1 167 (Int32.toNatClampNeg l3)) = (2 : Int32) →
      vp_in l3 40 ∧
      P (((31 : Int64) * l4) + (Int32.toInt64 (m.1 176 (Int32.toNatClampNeg l3)))) m) ∧
    (¬ (m.1 167 (Int32.toNatClampNeg l3)) = (2 : Int32) →
      P l4 m))) ∧
  (¬ (m.1 173 (Int32.toNatClampNeg l3)) ≤ l6 →
    vp_in (((12 : Int32) * l3) + l6) 480 ∧
    ∀ v6 : Int64, v6 = (((31 : Int64) * l4) + (Int32.toInt64 (m.1 174 (Int32.toNatClampNeg (((12 : Int32) * l3) + l6))))) →
    J_X7_digestCell_39 l3 v6 (l6 + (1 : Int32)) m P))
set_option maxRecDepth 20000 in
set_option maxHeartbeats 4000000 in
theorem b_X7_digestCell_39 {l3 : Int32} {l4 : Int64} {l6 : Int32} {m : vM} {P : Int64 → vM → Prop}  (h : wp_X7_digestCell_39 l3 l4 l6 m P) : J_X7_digestCell_39 l3 l4 l6 m P := by
  show vJ mX7_digestCell 1 22 197 none 39 [(0, .ref 163), (3, .int l3), (4, .long l4), (6, .int l6)] [] 197 SH m (vPl P)
  unfold wp_X7_digestCell_39 at h
  refine vJ.iload dX7_digestCell_39 rfl ?_
  refine vJ.aload_n dX7_digestCell_41 rfl rfl ?_
  refine vJ.getR (ci := 7) (k := 14) (j := 173) dX7_digestCell_42 sh_163 (Nat.le_of_ble_eq_true rfl) rfl inX7 (Nat.le_of_ble_eq_true rfl) rfl fl_RX7_38 ?_
  refine vJ.iload_n dX7_digestCell_45 rfl rfl ?_
  obtain ⟨hb1, h⟩ := h
  refine vJ.iald dX7_digestCell_46 sh_173 (Nat.le_of_ble_eq_true rfl) hb1 ?_
  refine vJ.icmp_ge (tgt := 78) dX7_digestCell_47 (by decide) (fun hc7 => ?_) (fun hc7 => ?_)
  · replace h := h.1 hc7
    refine vJ.aload_n dX7_digestCell_78 rfl rfl ?_
    refine vJ.getR (ci := 7) (k := 8) (j := 167) dX7_digestCell_79 sh_163 (Nat.le_of_ble_eq_true rfl) rfl inX7 (Nat.le_of_ble_eq_true rfl) rfl fl_RX7_19 ?_
    refine vJ.iload_n dX7_digestCell_82 rfl rfl ?_
    obtain ⟨hb2, h⟩ := h
    refine vJ.iald dX7_digestCell_83 sh_167 (Nat.le_of_ble_eq_true rfl) hb2 ?_
    refine vJ.iconst dX7_digestCell_84 ci_2 ?_
    refine vJ.icmp_ne (tgt := 105) dX7_digestCell_85 (by decide) (fun hc4 => ?_) (fun hc4 => ?_)
    · replace h := h.2 hc4
      refine vJ.lload dX7_digestCell_105 rfl ?_
      exact vJ.lreturn dX7_digestCell_107 rfl rfl ⟨rfl, _, rfl, h⟩
    · replace h := h.1 hc4
      refine vJ.ldc2 dX7_digestCell_88 kl_RX7_234 ?_
      refine vJ.lload dX7_digestCell_91 rfl ?_
      refine vJ.lmul dX7_digestCell_93 ?_
      refine vJ.aload_n dX7_digestCell_94 rfl rfl ?_
      refine vJ.getR (ci := 7) (k := 17) (j := 176) dX7_digestCell_95 sh_163 (Nat.le_of_ble_eq_true rfl) rfl inX7 (Nat.le_of_ble_eq_true rfl) rfl fl_RX7_47 ?_
      refine vJ.iload_n dX7_digestCell_98 rfl rfl ?_
      obtain ⟨hb3, h⟩ := h
      refine vJ.iald dX7_digestCell_99 sh_176 (Nat.le_of_ble_eq_true rfl) hb3 ?_
      refine vJ.i2l dX7_digestCell_100 ?_
      refine vJ.ladd dX7_digestCell_101 ?_
      refine vJ.goto (tgt := 107) dX7_digestCell_102 (by decide) ?_
      exact vJ.lreturn dX7_digestCell_107 rfl rfl ⟨rfl, _, rfl, h⟩
  · replace h := h.2 hc7
    refine vJ.ldc2 dX7_digestCell_50 kl_RX7_234 ?_
    refine vJ.lload dX7_digestCell_53 rfl ?_
    refine vJ.lmul dX7_digestCell_55 ?_
    refine vJ.aload_n dX7_digestCell_56 rfl rfl ?_
    refine vJ.getR (ci := 7) (k := 15) (j := 174) dX7_digestCell_57 sh_163 (Nat.le_of_ble_eq_true rfl) rfl inX7 (Nat.le_of_ble_eq_true rfl) rfl fl_RX7_41 ?_
    refine vJ.bipush dX7_digestCell_60 cb_12 ?_
    refine vJ.iload_n dX7_digestCell_62 rfl rfl ?_
    refine vJ.imul dX7_digestCell_63 ?_
    refine vJ.iload dX7_digestCell_64 rfl ?_
    refine vJ.iadd dX7_digestCell_66 ?_
    obtain ⟨hb5, h⟩ := h
    refine vJ.iald dX7_digestCell_67 sh_174 (Nat.le_of_ble_eq_true rfl) hb5 ?_
    refine vJ.i2l dX7_digestCell_68 ?_
    refine vJ.ladd dX7_digestCell_69 ?_
    refine vJ.topl (fun v6 ev6 => ?_)
    replace h := h v6 ev6
    refine vJ.lstore (ls2 := [(0, .ref 163), (3, .int l3), (4, .long v6), (6, .int l6)]) dX7_digestCell_70 (Nat.le_of_ble_eq_true rfl) rfl ?_
    refine vJ.iinc (v := l6 + (1 : Int32)) (ls2 := [(0, .ref 163), (3, .int l3), (4, .long v6), (6, .int (l6 + (1 : Int32)))]) dX7_digestCell_72 rfl (congrArg (l6 + ·) ci_1) (Nat.le_of_ble_eq_true rfl) rfl ?_
    refine vJ.goto (tgt := 39) dX7_digestCell_75 (by decide) ?_
    exact h
def J_X7_digest_0  (m : vM) (P : Int64 → vM → Prop) : Prop := vJ mX7_digest 2 48 197 none 0 [(0, .ref 163)] [] 197 SH m (vPl P)
def J_X7_digest_32 (l1 : Int64) (l3 : Int32) (m : vM) (P : Int64 → vM → Prop) : Prop := vJ mX7_digest 2 48 197 none 32 [(0, .ref 163), (1, .long l1), (3, .int l3)] [] 197 SH m (vPl P)
def wp_X7_digest_0  (m : vM) (P : Int64 → vM → Prop) : Prop :=
  ∀ v1 : Int64, v1 = (((31 : Int64) * (((31 : Int64) * ((527 : Int64) + (Int32.toInt64 (m.1 163 2)))) + (Int32.toInt64 (m.1 163 3)))) + (Int32.toInt64 (m.1 163 4))) →
  J_X7_digest_32 v1 (0 : Int32) m P
set_option maxRecDepth 20000 in
set_option maxHeartbeats 4000000 in
theorem b_X7_digest_0  {m : vM} {P : Int64 → vM → Prop}  (h : wp_X7_digest_0  m P) : J_X7_digest_0  m P := by
  show vJ mX7_digest 2 48 197 none 0 [(0, .ref 163)] [] 197 SH m (vPl P)
  unfold wp_X7_digest_0 at h
  refine vJ.ldc2 dX7_digest_0 kl_RX7_234 ?_
  refine vJ.ldc2 dX7_digest_3 kl_RX7_234 ?_
  refine vJ.ldc2 dX7_digest_6 kl_RX7_236 ?_
  refine vJ.aload_n dX7_digest_9 rfl rfl ?_
  refine vJ.getI (ci := 7) (k := 2) dX7_digest_10 sh_163 (Nat.le_of_ble_eq_true rfl) rfl inX7 (Nat.le_of_ble_eq_true rfl) rfl fl_RX7_123 ?_
  refine vJ.i2l dX7_digest_13 ?_
  refine vJ.ladd dX7_digest_14 ?_
  refine vJ.lmul dX7_digest_15 ?_
  refine vJ.aload_n dX7_digest_16 rfl rfl ?_
  refine vJ.getI (ci := 7) (k := 3) dX7_digest_17 sh_163 (Nat.le_of_ble_eq_true rfl) rfl inX7 (Nat.le_of_ble_eq_true rfl) rfl fl_RX7_126 ?_
  refine vJ.i2l dX7_digest_20 ?_
  refine vJ.ladd dX7_digest_21 ?_
  refine vJ.lmul dX7_digest_22 ?_
  refine vJ.aload_n dX7_digest_23 rfl rfl ?_
  refine vJ.getI (ci := 7) (k := 4) dX7_digest_24 sh_163 (Nat.le_of_ble_eq_true rfl) rfl inX7 (Nat.le_of_ble_eq_true rfl) rfl fl_RX7_129 ?_
  refine vJ.i2l dX7_digest_27 ?_
  refine vJ.ladd dX7_digest_28 ?_
  refine vJ.topl (fun v1 ev1 => ?_)
  replace h := h v1 ev1
  refine vJ.lstore_n (ls2 := [(0, .ref 163), (1, .long v1)]) dX7_digest_29 rfl (Nat.le_of_ble_eq_true rfl) rfl ?_
  refine vJ.iconst dX7_digest_30 ci_0 ?_
  refine vJ.istore_n (ls2 := [(0, .ref 163), (1, .long v1), (3, .int (0 : Int32))]) dX7_digest_31 rfl (Nat.le_of_ble_eq_true rfl) rfl ?_
  exact h
def EI_X7_digest  (m : vM) (P : Int64 → vM → Prop) : Prop := Ev mX7_digest 2 48 197 [.ref 163] 197 SH m (vPl P)
theorem f_X7_digest  {m : vM} {P : Int64 → vM → Prop} (h : J_X7_digest_0  m P) : EI_X7_digest  m P := Ev.of pn_X7_digest (Nat.le_of_ble_eq_true rfl) h
def J_X7_digest_62 (l1 : Int64) (l3 : Int32) (m : vM) (P : Int64 → vM → Prop) : Prop := vJ mX7_digest 2 48 197 none 62 [(0, .ref 163), (1, .long l1), (3, .int l3)] [] 197 SH m (vPl P)
def wp_X7_digest_32 (l1 : Int64) (l3 : Int32) (m : vM) (P : Int64 → vM → Prop) : Prop :=
  (((m.1 163 3) ≤ l3 →
    J_X7_digest_62 l1 (0 : Int32) m P) ∧
  (¬ (m.1 163 3) ≤ l3 →
    vp_in l3 6 ∧
    ∀ v2 : Int64, v2 = (((31 : Int64) * l1) + (Int32.toInt64 (m.1 165 (Int32.toNatClampNeg l3)))) →
    J_X7_digest_32 v2 (l3 + (1 : Int32)) m P))
set_option maxRecDepth 20000 in
set_option maxHeartbeats 4000000 in
theorem b_X7_digest_32 {l1 : Int64} {l3 : Int32} {m : vM} {P : Int64 → vM → Prop}  (h : wp_X7_digest_32 l1 l3 m P) : J_X7_digest_32 l1 l3 m P := by
  show vJ mX7_digest 2 48 197 none 32 [(0, .ref 163), (1, .long l1), (3, .int l3)] [] 197 SH m (vPl P)
  unfold wp_X7_digest_32 at h
  refine vJ.iload_n dX7_digest_32 rfl rfl ?_
  refine vJ.aload_n dX7_digest_33 rfl rfl ?_
  refine vJ.getI (ci := 7) (k := 3) dX7_digest_34 sh_163 (Nat.le_of_ble_eq_true rfl) rfl inX7 (Nat.le_of_ble_eq_true rfl) rfl fl_RX7_126 ?_
  refine vJ.icmp_ge (tgt := 60) dX7_digest_37 (by decide) (fun hc3 => ?_) (fun hc3 => ?_)
  · replace h := h.1 hc3
    refine vJ.iconst dX7_digest_60 ci_0 ?_
    refine vJ.istore_n (ls2 := [(0, .ref 163), (1, .long l1), (3, .int (0 : Int32))]) dX7_digest_61 rfl (Nat.le_of_ble_eq_true rfl) rfl ?_
    exact h
  · replace h := h.2 hc3
    refine vJ.ldc2 dX7_digest_40 kl_RX7_234 ?_
    refine vJ.lload_n dX7_digest_43 rfl rfl ?_
    refine vJ.lmul dX7_digest_44 ?_
    refine vJ.aload_n dX7_digest_45 rfl rfl ?_
    refine vJ.getR (ci := 7) (k := 5) (j := 165) dX7_digest_46 sh_163 (Nat.le_of_ble_eq_true rfl) rfl inX7 (Nat.le_of_ble_eq_true rfl) rfl fl_RX7_13 ?_
    refine vJ.iload_n dX7_digest_49 rfl rfl ?_
    obtain ⟨hb1, h⟩ := h
    refine vJ.iald dX7_digest_50 sh_165 (Nat.le_of_ble_eq_true rfl) hb1 ?_
    refine vJ.i2l dX7_digest_51 ?_
    refine vJ.ladd dX7_digest_52 ?_
    refine vJ.topl (fun v2 ev2 => ?_)
    replace h := h v2 ev2
    refine vJ.lstore_n (ls2 := [(0, .ref 163), (1, .long v2), (3, .int l3)]) dX7_digest_53 rfl (Nat.le_of_ble_eq_true rfl) rfl ?_
    refine vJ.iinc (v := l3 + (1 : Int32)) (ls2 := [(0, .ref 163), (1, .long v2), (3, .int (l3 + (1 : Int32)))]) dX7_digest_54 rfl (congrArg (l3 + ·) ci_1) (Nat.le_of_ble_eq_true rfl) rfl ?_
    refine vJ.goto (tgt := 32) dX7_digest_57 (by decide) ?_
    exact h
def J_X7_digest_92 (l1 : Int64) (l3 : Int32) (m : vM) (P : Int64 → vM → Prop) : Prop := vJ mX7_digest 2 48 197 none 92 [(0, .ref 163), (1, .long l1), (3, .int l3)] [] 197 SH m (vPl P)
def wp_X7_digest_62 (l1 : Int64) (l3 : Int32) (m : vM) (P : Int64 → vM → Prop) : Prop :=
  (((m.1 163 3) ≤ l3 →
    J_X7_digest_92 l1 (0 : Int32) m P) ∧
  (¬ (m.1 163 3) ≤ l3 →
    vp_in l3 6 ∧
    ∀ v2 : Int64, v2 = (((31 : Int64) * l1) + (Int32.toInt64 (m.1 181 (Int32.toNatClampNeg l3)))) →
    J_X7_digest_62 v2 (l3 + (1 : Int32)) m P))
set_option maxRecDepth 20000 in
set_option maxHeartbeats 4000000 in
theorem b_X7_digest_62 {l1 : Int64} {l3 : Int32} {m : vM} {P : Int64 → vM → Prop}  (h : wp_X7_digest_62 l1 l3 m P) : J_X7_digest_62 l1 l3 m P := by
  show vJ mX7_digest 2 48 197 none 62 [(0, .ref 163), (1, .long l1), (3, .int l3)] [] 197 SH m (vPl P)
  unfold wp_X7_digest_62 at h
  refine vJ.iload_n dX7_digest_62 rfl rfl ?_
  refine vJ.aload_n dX7_digest_63 rfl rfl ?_
  refine vJ.getI (ci := 7) (k := 3) dX7_digest_64 sh_163 (Nat.le_of_ble_eq_true rfl) rfl inX7 (Nat.le_of_ble_eq_true rfl) rfl fl_RX7_126 ?_
  refine vJ.icmp_ge (tgt := 90) dX7_digest_67 (by decide) (fun hc3 => ?_) (fun hc3 => ?_)
  · replace h := h.1 hc3
    refine vJ.iconst dX7_digest_90 ci_0 ?_
    refine vJ.istore_n (ls2 := [(0, .ref 163), (1, .long l1), (3, .int (0 : Int32))]) dX7_digest_91 rfl (Nat.le_of_ble_eq_true rfl) rfl ?_
    exact h
  · replace h := h.2 hc3
    refine vJ.ldc2 dX7_digest_70 kl_RX7_234 ?_
    refine vJ.lload_n dX7_digest_73 rfl rfl ?_
    refine vJ.lmul dX7_digest_74 ?_
    refine vJ.aload_n dX7_digest_75 rfl rfl ?_
    refine vJ.getR (ci := 7) (k := 23) (j := 181) dX7_digest_76 sh_163 (Nat.le_of_ble_eq_true rfl) rfl inX7 (Nat.le_of_ble_eq_true rfl) rfl fl_RX7_62 ?_
    refine vJ.iload_n dX7_digest_79 rfl rfl ?_
    obtain ⟨hb1, h⟩ := h
    refine vJ.iald dX7_digest_80 sh_181 (Nat.le_of_ble_eq_true rfl) hb1 ?_
    refine vJ.i2l dX7_digest_81 ?_
    refine vJ.ladd dX7_digest_82 ?_
    refine vJ.topl (fun v2 ev2 => ?_)
    replace h := h v2 ev2
    refine vJ.lstore_n (ls2 := [(0, .ref 163), (1, .long v2), (3, .int l3)]) dX7_digest_83 rfl (Nat.le_of_ble_eq_true rfl) rfl ?_
    refine vJ.iinc (v := l3 + (1 : Int32)) (ls2 := [(0, .ref 163), (1, .long v2), (3, .int (l3 + (1 : Int32)))]) dX7_digest_84 rfl (congrArg (l3 + ·) ci_1) (Nat.le_of_ble_eq_true rfl) rfl ?_
    refine vJ.goto (tgt := 62) dX7_digest_87 (by decide) ?_
    exact h
def J_X7_digest_120 (l1 : Int64) (l3 : Int32) (m : vM) (P : Int64 → vM → Prop) : Prop := vJ mX7_digest 2 48 197 none 120 [(0, .ref 163), (1, .long l1), (3, .int l3)] [] 197 SH m (vPl P)
def wp_X7_digest_92 (l1 : Int64) (l3 : Int32) (m : vM) (P : Int64 → vM → Prop) : Prop :=
  (((10 : Int32) ≤ l3 →
    J_X7_digest_120 l1 (0 : Int32) m P) ∧
  (¬ (10 : Int32) ≤ l3 →
    vp_in l3 10 ∧
    ∀ v2 : Int64, v2 = (((31 : Int64) * l1) + (Int32.toInt64 (m.1 166 (Int32.toNatClampNeg l3)))) →
    J_X7_digest_92 v2 (l3 + (1 : Int32)) m P))
set_option maxRecDepth 20000 in
set_option maxHeartbeats 4000000 in
theorem b_X7_digest_92 {l1 : Int64} {l3 : Int32} {m : vM} {P : Int64 → vM → Prop}  (h : wp_X7_digest_92 l1 l3 m P) : J_X7_digest_92 l1 l3 m P := by
  show vJ mX7_digest 2 48 197 none 92 [(0, .ref 163), (1, .long l1), (3, .int l3)] [] 197 SH m (vPl P)
  unfold wp_X7_digest_92 at h
  refine vJ.iload_n dX7_digest_92 rfl rfl ?_
  refine vJ.bipush dX7_digest_93 cb_10 ?_
  refine vJ.icmp_ge (tgt := 118) dX7_digest_95 (by decide) (fun hc3 => ?_) (fun hc3 => ?_)
  · replace h := h.1 hc3
    refine vJ.iconst dX7_digest_118 ci_0 ?_
    refine vJ.istore_n (ls2 := [(0, .ref 163), (1, .long l1), (3, .int (0 : Int32))]) dX7_digest_119 rfl (Nat.le_of_ble_eq_true rfl) rfl ?_
    exact h
  · replace h := h.2 hc3
    refine vJ.ldc2 dX7_digest_98 kl_RX7_234 ?_
    refine vJ.lload_n dX7_digest_101 rfl rfl ?_
    refine vJ.lmul dX7_digest_102 ?_
    refine vJ.aload_n dX7_digest_103 rfl rfl ?_
    refine vJ.getR (ci := 7) (k := 6) (j := 166) dX7_digest_104 sh_163 (Nat.le_of_ble_eq_true rfl) rfl inX7 (Nat.le_of_ble_eq_true rfl) rfl fl_RX7_16 ?_
    refine vJ.iload_n dX7_digest_107 rfl rfl ?_
    obtain ⟨hb1, h⟩ := h
    refine vJ.iald dX7_digest_108 sh_166 (Nat.le_of_ble_eq_true rfl) hb1 ?_
    refine vJ.i2l dX7_digest_109 ?_
    refine vJ.ladd dX7_digest_110 ?_
    refine vJ.topl (fun v2 ev2 => ?_)
    replace h := h v2 ev2
    refine vJ.lstore_n (ls2 := [(0, .ref 163), (1, .long v2), (3, .int l3)]) dX7_digest_111 rfl (Nat.le_of_ble_eq_true rfl) rfl ?_
    refine vJ.iinc (v := l3 + (1 : Int32)) (ls2 := [(0, .ref 163), (1, .long v2), (3, .int (l3 + (1 : Int32)))]) dX7_digest_112 rfl (congrArg (l3 + ·) ci_1) (Nat.le_of_ble_eq_true rfl) rfl ?_
    refine vJ.goto (tgt := 92) dX7_digest_115 (by decide) ?_
    exact h
def J_X7_digest_174 (l1 : Int64) (l3 : Int32) (m : vM) (P : Int64 → vM → Prop) : Prop := vJ mX7_digest 2 48 197 none 174 [(0, .ref 163), (1, .long l1), (3, .int l3)] [] 197 SH m (vPl P)
def wp_X7_digest_120 (l1 : Int64) (l3 : Int32) (m : vM) (P : Int64 → vM → Prop) : Prop :=
  (((m.1 163 7) ≤ l3 →
    ∀ v1 : Int64, v1 = (((31 : Int64) * l1) + (Int32.toInt64 (m.1 163 32))) →
    J_X7_digest_174 v1 (0 : Int32) m P) ∧
  (¬ (m.1 163 7) ≤ l3 →
    vp_in l3 40 ∧
    (((m.1 172 (Int32.toNatClampNeg l3)) = (0 : Int32) →
      EI_X7_digestCell l1 l3 m (fun r4 m3 =>
        J_X7_digest_120 r4 (l3 + (1 : Int32)) m3 P)) ∧
    (¬ (m.1 172 (Int32.toNatClampNeg l3)) = (0 : Int32) →
      ∀ v5 : Int64, v5 = (((31 : Int64) * l1) - (1 : Int64)) →
      J_X7_digest_120 v5 (l3 + (1 : Int32)) m P))))
set_option maxRecDepth 20000 in
set_option maxHeartbeats 4000000 in
theorem b_X7_digest_120 {l1 : Int64} {l3 : Int32} {m : vM} {P : Int64 → vM → Prop}  (h : wp_X7_digest_120 l1 l3 m P) : J_X7_digest_120 l1 l3 m P := by
  show vJ mX7_digest 2 48 197 none 120 [(0, .ref 163), (1, .long l1), (3, .int l3)] [] 197 SH m (vPl P)
  unfold wp_X7_digest_120 at h
  refine vJ.iload_n dX7_digest_120 rfl rfl ?_
  refine vJ.aload_n dX7_digest_121 rfl rfl ?_
  refine vJ.getI (ci := 7) (k := 7) dX7_digest_122 sh_163 (Nat.le_of_ble_eq_true rfl) rfl inX7 (Nat.le_of_ble_eq_true rfl) rfl fl_RX7_132 ?_
  refine vJ.icmp_ge (tgt := 160) dX7_digest_125 (by decide) (fun hc7 => ?_) (fun hc7 => ?_)
  · replace h := h.1 hc7
    refine vJ.ldc2 dX7_digest_160 kl_RX7_234 ?_
    refine vJ.lload_n dX7_digest_163 rfl rfl ?_
    refine vJ.lmul dX7_digest_164 ?_
    refine vJ.aload_n dX7_digest_165 rfl rfl ?_
    refine vJ.getI (ci := 7) (k := 32) dX7_digest_166 sh_163 (Nat.le_of_ble_eq_true rfl) rfl inX7 (Nat.le_of_ble_eq_true rfl) rfl fl_RX7_138 ?_
    refine vJ.i2l dX7_digest_169 ?_
    refine vJ.ladd dX7_digest_170 ?_
    refine vJ.topl (fun v1 ev1 => ?_)
    replace h := h v1 ev1
    refine vJ.lstore_n (ls2 := [(0, .ref 163), (1, .long v1), (3, .int l3)]) dX7_digest_171 rfl (Nat.le_of_ble_eq_true rfl) rfl ?_
    refine vJ.iconst dX7_digest_172 ci_0 ?_
    refine vJ.istore_n (ls2 := [(0, .ref 163), (1, .long v1), (3, .int (0 : Int32))]) dX7_digest_173 rfl (Nat.le_of_ble_eq_true rfl) rfl ?_
    exact h
  · replace h := h.2 hc7
    refine vJ.aload_n dX7_digest_128 rfl rfl ?_
    refine vJ.getR (ci := 7) (k := 13) (j := 172) dX7_digest_129 sh_163 (Nat.le_of_ble_eq_true rfl) rfl inX7 (Nat.le_of_ble_eq_true rfl) rfl fl_RX7_34 ?_
    refine vJ.iload_n dX7_digest_132 rfl rfl ?_
    obtain ⟨hb2, h⟩ := h
    refine vJ.zald dX7_digest_133 sh_172 (Nat.le_of_ble_eq_true rfl) hb2 ?_
    refine vJ.if_eq (tgt := 147) dX7_digest_134 (by decide) (fun hc6 => ?_) (fun hc6 => ?_)
    · replace h := h.1 hc6
      refine vJ.aload_n dX7_digest_147 rfl rfl ?_
      refine vJ.lload_n dX7_digest_148 rfl rfl ?_
      refine vJ.iload_n dX7_digest_149 rfl rfl ?_
      refine vJ.callV (ci := 7) (Yc := mX7_digestCell) (frc := 1) (loc := 22) (as := [.long l1, .int l3]) dX7_digest_150 rfl sh_163 (Nat.le_of_ble_eq_true rfl) rfl ml_RX7_238 im_yX7_digestCell se_yX7_digestCell co_X7_digestCell in_TableSetterModel pl_X7_digestCell (Nat.le_of_ble_eq_true rfl) (Nat.le_of_ble_eq_true rfl) (Nat.le_of_ble_eq_true rfl) ?_
      refine Ev.gl h (fun r4 m3 h => ?_)
      refine vJ.lstore_n (ls2 := [(0, .ref 163), (1, .long r4), (3, .int l3)]) dX7_digest_153 rfl (Nat.le_of_ble_eq_true rfl) rfl ?_
      refine vJ.iinc (v := l3 + (1 : Int32)) (ls2 := [(0, .ref 163), (1, .long r4), (3, .int (l3 + (1 : Int32)))]) dX7_digest_154 rfl (congrArg (l3 + ·) ci_1) (Nat.le_of_ble_eq_true rfl) rfl ?_
      refine vJ.goto (tgt := 120) dX7_digest_157 (by decide) ?_
      exact h
    · replace h := h.2 hc6
      refine vJ.ldc2 dX7_digest_137 kl_RX7_234 ?_
      refine vJ.lload_n dX7_digest_140 rfl rfl ?_
      refine vJ.lmul dX7_digest_141 ?_
      refine vJ.lconst dX7_digest_142 cl_1 ?_
      refine vJ.lsub dX7_digest_143 ?_
      refine vJ.goto (tgt := 153) dX7_digest_144 (by decide) ?_
      refine vJ.topl (fun v5 ev5 => ?_)
      replace h := h v5 ev5
      refine vJ.lstore_n (ls2 := [(0, .ref 163), (1, .long v5), (3, .int l3)]) dX7_digest_153 rfl (Nat.le_of_ble_eq_true rfl) rfl ?_
      refine vJ.iinc (v := l3 + (1 : Int32)) (ls2 := [(0, .ref 163), (1, .long v5), (3, .int (l3 + (1 : Int32)))]) dX7_digest_154 rfl (congrArg (l3 + ·) ci_1) (Nat.le_of_ble_eq_true rfl) rfl ?_
      refine vJ.goto (tgt := 120) dX7_digest_157 (by decide) ?_
      exact h
def J_X7_digest_185 (l1 : Int64) (l3 : Int32) (l4 : Int32) (m : vM) (P : Int64 → vM → Prop) : Prop := vJ mX7_digest 2 48 197 none 185 [(0, .ref 163), (1, .long l1), (3, .int l3), (4, .int l4)] [] 197 SH m (vPl P)
def wp_X7_digest_174 (l1 : Int64) (l3 : Int32) (m : vM) (P : Int64 → vM → Prop) : Prop :=
  (((m.1 163 32) ≤ l3 →
    P l1 m) ∧
  (¬ (m.1 163 32) ≤ l3 →
    J_X7_digest_185 l1 l3 (0 : Int32) m P))
set_option maxRecDepth 20000 in
set_option maxHeartbeats 4000000 in
theorem b_X7_digest_174 {l1 : Int64} {l3 : Int32} {m : vM} {P : Int64 → vM → Prop}  (h : wp_X7_digest_174 l1 l3 m P) : J_X7_digest_174 l1 l3 m P := by
  show vJ mX7_digest 2 48 197 none 174 [(0, .ref 163), (1, .long l1), (3, .int l3)] [] 197 SH m (vPl P)
  unfold wp_X7_digest_174 at h
  refine vJ.iload_n dX7_digest_174 rfl rfl ?_
  refine vJ.aload_n dX7_digest_175 rfl rfl ?_
  refine vJ.getI (ci := 7) (k := 32) dX7_digest_176 sh_163 (Nat.le_of_ble_eq_true rfl) rfl inX7 (Nat.le_of_ble_eq_true rfl) rfl fl_RX7_138 ?_
  refine vJ.icmp_ge (tgt := 218) dX7_digest_179 (by decide) (fun hc1 => ?_) (fun hc1 => ?_)
  · replace h := h.1 hc1
    refine vJ.lload_n dX7_digest_218 rfl rfl ?_
    exact vJ.lreturn dX7_digest_219 rfl rfl ⟨rfl, _, rfl, h⟩
  · replace h := h.2 hc1
    refine vJ.iconst dX7_digest_182 ci_0 ?_
    refine vJ.istore (ls2 := [(0, .ref 163), (1, .long l1), (3, .int l3), (4, .int (0 : Int32))]) dX7_digest_183 (Nat.le_of_ble_eq_true rfl) rfl ?_
    exact h
def wp_X7_digest_185 (l1 : Int64) (l3 : Int32) (l4 : Int32) (m : vM) (P : Int64 → vM → Prop) : Prop :=
  (((4 : Int32) ≤ l4 →
    J_X7_digest_174 l1 (l3 + (1 : Int32)) m P) ∧
  (¬ (4 : Int32) ≤ l4 →
    wp_X7_pageTold l3 l4 m (fun r2 m1 =>
      ∀ v3 : Int64, v3 = (((31 : Int64) * l1) + (Int32.toInt64 r2)) →
      J_X7_digest_185 v3 l3 (l4 + (1 : Int32)) m1 P)))
set_option maxRecDepth 20000 in
set_option maxHeartbeats 4000000 in
theorem b_X7_digest_185 {l1 : Int64} {l3 : Int32} {l4 : Int32} {m : vM} {P : Int64 → vM → Prop}  (h : wp_X7_digest_185 l1 l3 l4 m P) : J_X7_digest_185 l1 l3 l4 m P := by
  show vJ mX7_digest 2 48 197 none 185 [(0, .ref 163), (1, .long l1), (3, .int l3), (4, .int l4)] [] 197 SH m (vPl P)
  unfold wp_X7_digest_185 at h
  refine vJ.iload dX7_digest_185 rfl ?_
  refine vJ.iconst dX7_digest_187 ci_4 ?_
  refine vJ.icmp_ge (tgt := 212) dX7_digest_188 (by decide) (fun hc4 => ?_) (fun hc4 => ?_)
  · replace h := h.1 hc4
    refine vJ.iinc (v := l3 + (1 : Int32)) (ls2 := [(0, .ref 163), (1, .long l1), (3, .int (l3 + (1 : Int32))), (4, .int l4)]) dX7_digest_212 rfl (congrArg (l3 + ·) ci_1) (Nat.le_of_ble_eq_true rfl) rfl ?_
    refine vJ.goto (tgt := 174) dX7_digest_215 (by decide) ?_
    refine vJ.sub [0, 1, 2] rfl ?_
    exact h
  · replace h := h.2 hc4
    refine vJ.ldc2 dX7_digest_191 kl_RX7_234 ?_
    refine vJ.lload_n dX7_digest_194 rfl rfl ?_
    refine vJ.lmul dX7_digest_195 ?_
    refine vJ.aload_n dX7_digest_196 rfl rfl ?_
    refine vJ.iload_n dX7_digest_197 rfl rfl ?_
    refine vJ.iload dX7_digest_198 rfl ?_
    refine vJ.callV (ci := 7) (Yc := mX7_pageTold) (frc := 0) (loc := 0) (as := [.int l3, .int l4]) dX7_digest_200 rfl sh_163 (Nat.le_of_ble_eq_true rfl) rfl ml_RX7_231 im_yX7_pageTold se_yX7_pageTold co_X7_pageTold in_TableSetterModel pl_X7_pageTold (Nat.le_of_ble_eq_true rfl) (Nat.le_of_ble_eq_true rfl) (Nat.le_of_ble_eq_true rfl) ?_
    refine Ev.gi (e_X7_pageTold  h) (fun r2 m1 h => ?_)
    refine vJ.i2l dX7_digest_203 ?_
    refine vJ.ladd dX7_digest_204 ?_
    refine vJ.topl (fun v3 ev3 => ?_)
    replace h := h v3 ev3
    refine vJ.lstore_n (ls2 := [(0, .ref 163), (1, .long v3), (3, .int l3), (4, .int l4)]) dX7_digest_205 rfl (Nat.le_of_ble_eq_true rfl) rfl ?_
    refine vJ.iinc (v := l4 + (1 : Int32)) (ls2 := [(0, .ref 163), (1, .long v3), (3, .int l3), (4, .int (l4 + (1 : Int32)))]) dX7_digest_206 rfl (congrArg (l4 + ·) ci_1) (Nat.le_of_ble_eq_true rfl) rfl ?_
    refine vJ.goto (tgt := 185) dX7_digest_209 (by decide) ?_
    exact h
