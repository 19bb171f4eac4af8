/-! the check's own model is made -/
theorem kT_SH {b : Nat} : kT b SH = SH := funext fun k => by
  unfold kT
  by_cases h : k < b
  · rw [if_pos h]
  · rw [if_neg h]
def Mo (m0 m1 : vM) : Prop := (∀ a, a ≠ 163 → a ≠ 165 → a ≠ 166 → a ≠ 181 → a ≠ 193 → m1.1 a = m0.1 a) ∧ (m1.1 163 2 = nI 1 ∧ m1.1 163 3 = nI 1 ∧ m1.1 163 4 = nI 0 ∧ m1.1 163 7 = nI 0 ∧ m1.1 163 18 = -9 ∧ m1.1 163 32 = nI 0 ∧ ∀ j, j ≠ 2 → j ≠ 3 → j ≠ 4 → j ≠ 7 → j ≠ 18 → j ≠ 32 → m1.1 163 j = m0.1 163 j) ∧ (∀ i, i < 10 → m1.1 166 i = nI 1) ∧ (∀ i, i < 6 → m1.1 165 i = nI 1 ∧ m1.1 181 i = nI 0) ∧ ∀ i, i < 16 → m1.1 193 i = -9
theorem c_X7_loop {m0 : vM} {P : Option Value → vSh → vM → Prop} (hp : ∀ m1, Mo m0 m1 → P none SH m1) : vJ mX7_init 1 24 197 none 271 [(0, .ref 163), (1, .int (nI 0))] [] 197 SH m0 P := by
  refine loop_up (Q := fun i => ∀ mm : vM, (∀ a, a ≠ 166 → mm.1 a = m0.1 a) → (∀ j, j < i → mm.1 166 j = nI 1) → vJ mX7_init 1 24 197 none 271 [(0, .ref 163), (1, .int (nI i))] [] 197 SH mm P) (n := 10) ?_ (fun i hi ih => ?_) 0 (Nat.zero_le _) m0 (fun _ _ => rfl) (fun j hj => absurd hj (Nat.not_lt_zero _))
  · intro mm g1 g2
    refine vJ.iload_n dX7_init_271 rfl rfl ?_
    refine vJ.bipush dX7_init_272 (v := 10) rfl ?_
    refine vJ.icmp_ge (tgt := 290) dX7_init_274 (by decide) (fun _ => ?_) (fun h => absurd (by decide) h)
    refine vJ.aload_n dX7_init_290 rfl rfl ?_
    refine vJ.iconst dX7_init_291 ci_1 ?_
    refine vJ.iconst dX7_init_292 ci_1 ?_
    refine vJ.iconst dX7_init_293 ci_0 ?_
    refine vJ.callV (ci := 7) (N := 41) (b := 163) (Yc := mX7_begin) (frc := 0) (loc := 0) (as := [.int 1, .int 1, .int 0]) (st := []) dX7_init_294 rfl sh_163 (by decide) rfl ml_RX7_111 im_yX7_begin se_yX7_begin co_X7_begin in_TableSetterModel pl_X7_begin (by decide) (by decide) (by decide) ?_
    refine Ev.gv (c_X7_begin (P := Mo m0) (fun m1 q1 q2 q3 q4 => ?_)) (fun m1 hM => vJ.vreturn dX7_init_297 rfl rfl (hp m1 hM))
    have h163 : ∀ j, m1.1 163 j = if j = 32 then 0 else if j = 18 then -9 else if j = 7 then 0 else if j = 4 then 0 else if j = 3 then 1 else if j = 2 then 1 else m0.1 163 j := fun j => by
      rw [q2]
      have step : ∀ (mm : vM) (q : Nat) (v : Int32), (upI mm 163 q v).1 163 j = if j = q then v else mm.1 163 j := fun mm q v => by
        by_cases hq : j = q
        · subst hq; rw [upI_s, if_pos rfl]
        · rw [upI_n _ _ _ _ _ _ (Or.inr hq), if_neg hq]
      simp only [step]
      rw [g1 163 (by decide)]
    refine ⟨fun a z1 z2 z3 z4 z5 => (q1 a z1 z2 z4 z5).trans (g1 a z3), ⟨h163 2, h163 3, h163 4, h163 7, h163 18, h163 32, fun j w1 w2 w3 w4 w5 w6 => ?_⟩, fun i hi => ?_, q3, q4⟩
    · rw [h163 j, if_neg w6, if_neg w5, if_neg w4, if_neg w3, if_neg w2, if_neg w1]
    · rw [q1 166 (by decide) (by decide) (by decide) (by decide)]
      exact g2 i hi
  · intro mm g1 g2
    refine vJ.iload_n dX7_init_271 rfl rfl ?_
    refine vJ.bipush dX7_init_272 (v := 10) rfl ?_
    refine vJ.icmp_ge (tgt := 290) dX7_init_274 (by decide) (fun h => absurd h (nI_ge (b := 10) hi (by decide))) (fun _ => ?_)
    refine vJ.aload_n dX7_init_277 rfl rfl ?_
    refine vJ.getR (ci := 7) (k := 6) (j := 166) dX7_init_278 sh_163 (by decide) rfl inX7 (by decide) rfl fl_RX7_16 ?_
    refine vJ.iload_n dX7_init_281 rfl rfl ?_
    refine vJ.iconst dX7_init_282 ci_1 ?_
    refine vJ.iast dX7_init_283 sh_166 (by decide) (vI hi (by decide)) ?_
    rw [clI i (by omega)]
    refine vJ.iinc dX7_init_284 rfl (v := nI (i + 1)) (ad1I i) (by decide) rfl ?_
    refine vJ.goto (tgt := 271) dX7_init_287 (by decide) ?_
    refine ih _ (fun a ha => (upI_o _ _ _ _ _ ha).trans (g1 a ha)) (fun j hj => ?_)
    rcases Nat.lt_succ_iff_lt_or_eq.mp hj with q | q
    · rw [upI_n _ _ _ _ _ _ (Or.inr (by omega))]; exact g2 j q
    · subst q; rw [upI_s]; rfl
theorem c_X7_init {m : vM} {P : Option Value → vSh → vM → Prop} (hp : ∀ m1, Mo (kM 163 m) m1 → P none SH m1) :
    Ev mX7_init 1 24 197 [.ref 163] 164 (kO 163 SH 13 41 ini7) (kM 163 m) P := by
  refine Ev.of rfl (Nat.le_of_ble_eq_true rfl) ?_
  refine vJ.aload_n dX7_init_0 rfl rfl ?_
  refine vJ.objInit dX7_init_1 ml_RX7_1 im_objectInit co_Object (by decide) (by decide) ?_
  refine vJ.aload_n dX7_init_4 rfl rfl ?_
  refine vJ.bipush dX7_init_5 (v := 7) rfl ?_
  refine vJ.newaI (N := 7) dX7_init_7 (by decide) (by decide) (by decide) ac_int (by omega) (by omega) (by rw [sh_164]) ⟨fa_cons (vrf_ref (by omega)) fa_nil, fa_cons (vrf_ref (by omega)) fa_nil⟩ (vJ.kNew (n2 := 165) rfl (by omega) (by omega) sh_164 ?_)
  refine vJ.kPut (ci := 7) (k := 1) dX7_init_9 (by omega) (by omega) rfl inX7 tyX7 tyX7_ok nmX7 (by decide) rfl rfl rfl fl_RX7_7 (fun _ => ⟨rfl, rfl⟩) ?_
  refine vJ.aload_n dX7_init_12 rfl rfl ?_
  refine vJ.bipush dX7_init_13 (v := 6) rfl ?_
  refine vJ.newaI (N := 6) dX7_init_15 (by decide) (by decide) (by decide) ac_int (by omega) (by omega) (by rw [sh_165]) ⟨fa_cons (vrf_ref (by omega)) fa_nil, fa_cons (vrf_ref (by omega)) fa_nil⟩ (vJ.kNew (n2 := 166) rfl (by omega) (by omega) sh_165 ?_)
  refine vJ.kPut (ci := 7) (k := 5) dX7_init_17 (by omega) (by omega) rfl inX7 tyX7 tyX7_ok nmX7 (by decide) rfl rfl rfl fl_RX7_13 (fun _ => ⟨rfl, rfl⟩) ?_
  refine vJ.aload_n dX7_init_20 rfl rfl ?_
  refine vJ.bipush dX7_init_21 (v := 10) rfl ?_
  refine vJ.newaI (N := 10) dX7_init_23 (by decide) (by decide) (by decide) ac_int (by omega) (by omega) (by rw [sh_166]) ⟨fa_cons (vrf_ref (by omega)) fa_nil, fa_cons (vrf_ref (by omega)) fa_nil⟩ (vJ.kNew (n2 := 167) rfl (by omega) (by omega) sh_166 ?_)
  refine vJ.kPut (ci := 7) (k := 6) dX7_init_25 (by omega) (by omega) rfl inX7 tyX7 tyX7_ok nmX7 (by decide) rfl rfl rfl fl_RX7_16 (fun _ => ⟨rfl, rfl⟩) ?_
  refine vJ.aload_n dX7_init_28 rfl rfl ?_
  refine vJ.bipush dX7_init_29 (v := 40) rfl ?_
  refine vJ.newaI (N := 40) dX7_init_31 (by decide) (by decide) (by decide) ac_int (by omega) (by omega) (by rw [sh_167]) ⟨fa_cons (vrf_ref (by omega)) fa_nil, fa_cons (vrf_ref (by omega)) fa_nil⟩ (vJ.kNew (n2 := 168) rfl (by omega) (by omega) sh_167 ?_)
  refine vJ.kPut (ci := 7) (k := 8) dX7_init_33 (by omega) (by omega) rfl inX7 tyX7 tyX7_ok nmX7 (by decide) rfl rfl rfl fl_RX7_19 (fun _ => ⟨rfl, rfl⟩) ?_
  refine vJ.aload_n dX7_init_36 rfl rfl ?_
  refine vJ.bipush dX7_init_37 (v := 40) rfl ?_
  refine vJ.newaI (N := 40) dX7_init_39 (by decide) (by decide) (by decide) ac_int (by omega) (by omega) (by rw [sh_168]) ⟨fa_cons (vrf_ref (by omega)) fa_nil, fa_cons (vrf_ref (by omega)) fa_nil⟩ (vJ.kNew (n2 := 169) rfl (by omega) (by omega) sh_168 ?_)
  refine vJ.kPut (ci := 7) (k := 9) dX7_init_41 (by omega) (by omega) rfl inX7 tyX7 tyX7_ok nmX7 (by decide) rfl rfl rfl fl_RX7_22 (fun _ => ⟨rfl, rfl⟩) ?_
  refine vJ.aload_n dX7_init_44 rfl rfl ?_
  refine vJ.bipush dX7_init_45 (v := 40) rfl ?_
  refine vJ.newaI (N := 40) dX7_init_47 (by decide) (by decide) (by decide) ac_int (by omega) (by omega) (by rw [sh_169]) ⟨fa_cons (vrf_ref (by omega)) fa_nil, fa_cons (vrf_ref (by omega)) fa_nil⟩ (vJ.kNew (n2 := 170) rfl (by omega) (by omega) sh_169 ?_)
  refine vJ.kPut (ci := 7) (k := 10) dX7_init_49 (by omega) (by omega) rfl inX7 tyX7 tyX7_ok nmX7 (by decide) rfl rfl rfl fl_RX7_25 (fun _ => ⟨rfl, rfl⟩) ?_
  refine vJ.aload_n dX7_init_52 rfl rfl ?_
  refine vJ.bipush dX7_init_53 (v := 40) rfl ?_
  refine vJ.newaI (N := 40) dX7_init_55 (by decide) (by decide) (by decide) ac_int (by omega) (by omega) (by rw [sh_170]) ⟨fa_cons (vrf_ref (by omega)) fa_nil, fa_cons (vrf_ref (by omega)) fa_nil⟩ (vJ.kNew (n2 := 171) rfl (by omega) (by omega) sh_170 ?_)
  refine vJ.kPut (ci := 7) (k := 11) dX7_init_57 (by omega) (by omega) rfl inX7 tyX7 tyX7_ok nmX7 (by decide) rfl rfl rfl fl_RX7_28 (fun _ => ⟨rfl, rfl⟩) ?_
  refine vJ.aload_n dX7_init_60 rfl rfl ?_
  refine vJ.bipush dX7_init_61 (v := 40) rfl ?_
  refine vJ.newaI (N := 40) dX7_init_63 (by decide) (by decide) (by decide) ac_int (by omega) (by omega) (by rw [sh_171]) ⟨fa_cons (vrf_ref (by omega)) fa_nil, fa_cons (vrf_ref (by omega)) fa_nil⟩ (vJ.kNew (n2 := 172) rfl (by omega) (by omega) sh_171 ?_)
  refine vJ.kPut (ci := 7) (k := 12) dX7_init_65 (by omega) (by omega) rfl inX7 tyX7 tyX7_ok nmX7 (by decide) rfl rfl rfl fl_RX7_31 (fun _ => ⟨rfl, rfl⟩) ?_
  refine vJ.aload_n dX7_init_68 rfl rfl ?_
  refine vJ.bipush dX7_init_69 (v := 40) rfl ?_
  refine vJ.newaZ (N := 40) dX7_init_71 (by decide) (by decide) (by decide) ac_boolean (by omega) (by omega) (by rw [sh_172]) ⟨fa_cons (vrf_ref (by omega)) fa_nil, fa_cons (vrf_ref (by omega)) fa_nil⟩ (vJ.kNew (n2 := 173) rfl (by omega) (by omega) sh_172 ?_)
  refine vJ.kPut (ci := 7) (k := 13) dX7_init_73 (by omega) (by omega) rfl inX7 tyX7 tyX7_ok nmX7 (by decide) rfl rfl rfl fl_RX7_34 (fun _ => ⟨rfl, rfl⟩) ?_
  refine vJ.aload_n dX7_init_76 rfl rfl ?_
  refine vJ.bipush dX7_init_77 (v := 40) rfl ?_
  refine vJ.newaI (N := 40) dX7_init_79 (by decide) (by decide) (by decide) ac_int (by omega) (by omega) (by rw [sh_173]) ⟨fa_cons (vrf_ref (by omega)) fa_nil, fa_cons (vrf_ref (by omega)) fa_nil⟩ (vJ.kNew (n2 := 174) rfl (by omega) (by omega) sh_173 ?_)
  refine vJ.kPut (ci := 7) (k := 14) dX7_init_81 (by omega) (by omega) rfl inX7 tyX7 tyX7_ok nmX7 (by decide) rfl rfl rfl fl_RX7_38 (fun _ => ⟨rfl, rfl⟩) ?_
  refine vJ.aload_n dX7_init_84 rfl rfl ?_
  refine vJ.sipush dX7_init_85 (v := 480) rfl ?_
  refine vJ.newaI (N := 480) dX7_init_88 (by decide) (by decide) (by decide) ac_int (by omega) (by omega) (by rw [sh_174]) ⟨fa_cons (vrf_ref (by omega)) fa_nil, fa_cons (vrf_ref (by omega)) fa_nil⟩ (vJ.kNew (n2 := 175) rfl (by omega) (by omega) sh_174 ?_)
  refine vJ.kPut (ci := 7) (k := 15) dX7_init_90 (by omega) (by omega) rfl inX7 tyX7 tyX7_ok nmX7 (by decide) rfl rfl rfl fl_RX7_41 (fun _ => ⟨rfl, rfl⟩) ?_
  refine vJ.aload_n dX7_init_93 rfl rfl ?_
  refine vJ.bipush dX7_init_94 (v := 40) rfl ?_
  refine vJ.newaI (N := 40) dX7_init_96 (by decide) (by decide) (by decide) ac_int (by omega) (by omega) (by rw [sh_175]) ⟨fa_cons (vrf_ref (by omega)) fa_nil, fa_cons (vrf_ref (by omega)) fa_nil⟩ (vJ.kNew (n2 := 176) rfl (by omega) (by omega) sh_175 ?_)
  refine vJ.kPut (ci := 7) (k := 16) dX7_init_98 (by omega) (by omega) rfl inX7 tyX7 tyX7_ok nmX7 (by decide) rfl rfl rfl fl_RX7_44 (fun _ => ⟨rfl, rfl⟩) ?_
  refine vJ.aload_n dX7_init_101 rfl rfl ?_
  refine vJ.bipush dX7_init_102 (v := 40) rfl ?_
  refine vJ.newaI (N := 40) dX7_init_104 (by decide) (by decide) (by decide) ac_int (by omega) (by omega) (by rw [sh_176]) ⟨fa_cons (vrf_ref (by omega)) fa_nil, fa_cons (vrf_ref (by omega)) fa_nil⟩ (vJ.kNew (n2 := 177) rfl (by omega) (by omega) sh_176 ?_)
  refine vJ.kPut (ci := 7) (k := 17) dX7_init_106 (by omega) (by omega) rfl inX7 tyX7 tyX7_ok nmX7 (by decide) rfl rfl rfl fl_RX7_47 (fun _ => ⟨rfl, rfl⟩) ?_
  refine vJ.aload_n dX7_init_109 rfl rfl ?_
  refine vJ.bipush dX7_init_110 (v := 12) rfl ?_
  refine vJ.newaI (N := 12) dX7_init_112 (by decide) (by decide) (by decide) ac_int (by omega) (by omega) (by rw [sh_177]) ⟨fa_cons (vrf_ref (by omega)) fa_nil, fa_cons (vrf_ref (by omega)) fa_nil⟩ (vJ.kNew (n2 := 178) rfl (by omega) (by omega) sh_177 ?_)
  refine vJ.kPut (ci := 7) (k := 19) dX7_init_114 (by omega) (by omega) rfl inX7 tyX7 tyX7_ok nmX7 (by decide) rfl rfl rfl fl_RX7_50 (fun _ => ⟨rfl, rfl⟩) ?_
  refine vJ.aload_n dX7_init_117 rfl rfl ?_
  refine vJ.bipush dX7_init_118 (v := 6) rfl ?_
  refine vJ.newaI (N := 6) dX7_init_120 (by decide) (by decide) (by decide) ac_int (by omega) (by omega) (by rw [sh_178]) ⟨fa_cons (vrf_ref (by omega)) fa_nil, fa_cons (vrf_ref (by omega)) fa_nil⟩ (vJ.kNew (n2 := 179) rfl (by omega) (by omega) sh_178 ?_)
  refine vJ.kPut (ci := 7) (k := 20) dX7_init_122 (by omega) (by omega) rfl inX7 tyX7 tyX7_ok nmX7 (by decide) rfl rfl rfl fl_RX7_53 (fun _ => ⟨rfl, rfl⟩) ?_
  refine vJ.aload_n dX7_init_125 rfl rfl ?_
  refine vJ.bipush dX7_init_126 (v := 6) rfl ?_
  refine vJ.newaI (N := 6) dX7_init_128 (by decide) (by decide) (by decide) ac_int (by omega) (by omega) (by rw [sh_179]) ⟨fa_cons (vrf_ref (by omega)) fa_nil, fa_cons (vrf_ref (by omega)) fa_nil⟩ (vJ.kNew (n2 := 180) rfl (by omega) (by omega) sh_179 ?_)
  refine vJ.kPut (ci := 7) (k := 21) dX7_init_130 (by omega) (by omega) rfl inX7 tyX7 tyX7_ok nmX7 (by decide) rfl rfl rfl fl_RX7_56 (fun _ => ⟨rfl, rfl⟩) ?_
  refine vJ.aload_n dX7_init_133 rfl rfl ?_
  refine vJ.bipush dX7_init_134 (v := 6) rfl ?_
  refine vJ.newaI (N := 6) dX7_init_136 (by decide) (by decide) (by decide) ac_int (by omega) (by omega) (by rw [sh_180]) ⟨fa_cons (vrf_ref (by omega)) fa_nil, fa_cons (vrf_ref (by omega)) fa_nil⟩ (vJ.kNew (n2 := 181) rfl (by omega) (by omega) sh_180 ?_)
  refine vJ.kPut (ci := 7) (k := 22) dX7_init_138 (by omega) (by omega) rfl inX7 tyX7 tyX7_ok nmX7 (by decide) rfl rfl rfl fl_RX7_59 (fun _ => ⟨rfl, rfl⟩) ?_
  refine vJ.aload_n dX7_init_141 rfl rfl ?_
  refine vJ.bipush dX7_init_142 (v := 6) rfl ?_
  refine vJ.newaI (N := 6) dX7_init_144 (by decide) (by decide) (by decide) ac_int (by omega) (by omega) (by rw [sh_181]) ⟨fa_cons (vrf_ref (by omega)) fa_nil, fa_cons (vrf_ref (by omega)) fa_nil⟩ (vJ.kNew (n2 := 182) rfl (by omega) (by omega) sh_181 ?_)
  refine vJ.kPut (ci := 7) (k := 23) dX7_init_146 (by omega) (by omega) rfl inX7 tyX7 tyX7_ok nmX7 (by decide) rfl rfl rfl fl_RX7_62 (fun _ => ⟨rfl, rfl⟩) ?_
  refine vJ.aload_n dX7_init_149 rfl rfl ?_
  refine vJ.bipush dX7_init_150 (v := 6) rfl ?_
  refine vJ.newaI (N := 6) dX7_init_152 (by decide) (by decide) (by decide) ac_int (by omega) (by omega) (by rw [sh_182]) ⟨fa_cons (vrf_ref (by omega)) fa_nil, fa_cons (vrf_ref (by omega)) fa_nil⟩ (vJ.kNew (n2 := 183) rfl (by omega) (by omega) sh_182 ?_)
  refine vJ.kPut (ci := 7) (k := 24) dX7_init_154 (by omega) (by omega) rfl inX7 tyX7 tyX7_ok nmX7 (by decide) rfl rfl rfl fl_RX7_65 (fun _ => ⟨rfl, rfl⟩) ?_
  refine vJ.aload_n dX7_init_157 rfl rfl ?_
  refine vJ.bipush dX7_init_158 (v := 6) rfl ?_
  refine vJ.newaI (N := 6) dX7_init_160 (by decide) (by decide) (by decide) ac_int (by omega) (by omega) (by rw [sh_183]) ⟨fa_cons (vrf_ref (by omega)) fa_nil, fa_cons (vrf_ref (by omega)) fa_nil⟩ (vJ.kNew (n2 := 184) rfl (by omega) (by omega) sh_183 ?_)
  refine vJ.kPut (ci := 7) (k := 25) dX7_init_162 (by omega) (by omega) rfl inX7 tyX7 tyX7_ok nmX7 (by decide) rfl rfl rfl fl_RX7_68 (fun _ => ⟨rfl, rfl⟩) ?_
  refine vJ.aload_n dX7_init_165 rfl rfl ?_
  refine vJ.bipush dX7_init_166 (v := 6) rfl ?_
  refine vJ.newaI (N := 6) dX7_init_168 (by decide) (by decide) (by decide) ac_int (by omega) (by omega) (by rw [sh_184]) ⟨fa_cons (vrf_ref (by omega)) fa_nil, fa_cons (vrf_ref (by omega)) fa_nil⟩ (vJ.kNew (n2 := 185) rfl (by omega) (by omega) sh_184 ?_)
  refine vJ.kPut (ci := 7) (k := 26) dX7_init_170 (by omega) (by omega) rfl inX7 tyX7 tyX7_ok nmX7 (by decide) rfl rfl rfl fl_RX7_71 (fun _ => ⟨rfl, rfl⟩) ?_
  refine vJ.aload_n dX7_init_173 rfl rfl ?_
  refine vJ.bipush dX7_init_174 (v := 16) rfl ?_
  refine vJ.newaI (N := 16) dX7_init_176 (by decide) (by decide) (by decide) ac_int (by omega) (by omega) (by rw [sh_185]) ⟨fa_cons (vrf_ref (by omega)) fa_nil, fa_cons (vrf_ref (by omega)) fa_nil⟩ (vJ.kNew (n2 := 186) rfl (by omega) (by omega) sh_185 ?_)
  refine vJ.kPut (ci := 7) (k := 27) dX7_init_178 (by omega) (by omega) rfl inX7 tyX7 tyX7_ok nmX7 (by decide) rfl rfl rfl fl_RX7_74 (fun _ => ⟨rfl, rfl⟩) ?_
  refine vJ.aload_n dX7_init_181 rfl rfl ?_
  refine vJ.bipush dX7_init_182 (v := 16) rfl ?_
  refine vJ.newaI (N := 16) dX7_init_184 (by decide) (by decide) (by decide) ac_int (by omega) (by omega) (by rw [sh_186]) ⟨fa_cons (vrf_ref (by omega)) fa_nil, fa_cons (vrf_ref (by omega)) fa_nil⟩ (vJ.kNew (n2 := 187) rfl (by omega) (by omega) sh_186 ?_)
  refine vJ.kPut (ci := 7) (k := 28) dX7_init_186 (by omega) (by omega) rfl inX7 tyX7 tyX7_ok nmX7 (by decide) rfl rfl rfl fl_RX7_77 (fun _ => ⟨rfl, rfl⟩) ?_
  refine vJ.aload_n dX7_init_189 rfl rfl ?_
  refine vJ.bipush dX7_init_190 (v := 6) rfl ?_
  refine vJ.newaI (N := 6) dX7_init_192 (by decide) (by decide) (by decide) ac_int (by omega) (by omega) (by rw [sh_187]) ⟨fa_cons (vrf_ref (by omega)) fa_nil, fa_cons (vrf_ref (by omega)) fa_nil⟩ (vJ.kNew (n2 := 188) rfl (by omega) (by omega) sh_187 ?_)
  refine vJ.kPut (ci := 7) (k := 30) dX7_init_194 (by omega) (by omega) rfl inX7 tyX7 tyX7_ok nmX7 (by decide) rfl rfl rfl fl_RX7_80 (fun _ => ⟨rfl, rfl⟩) ?_
  refine vJ.aload_n dX7_init_197 rfl rfl ?_
  refine vJ.bipush dX7_init_198 (v := 6) rfl ?_
  refine vJ.newaI (N := 6) dX7_init_200 (by decide) (by decide) (by decide) ac_int (by omega) (by omega) (by rw [sh_188]) ⟨fa_cons (vrf_ref (by omega)) fa_nil, fa_cons (vrf_ref (by omega)) fa_nil⟩ (vJ.kNew (n2 := 189) rfl (by omega) (by omega) sh_188 ?_)
  refine vJ.kPut (ci := 7) (k := 31) dX7_init_202 (by omega) (by omega) rfl inX7 tyX7 tyX7_ok nmX7 (by decide) rfl rfl rfl fl_RX7_83 (fun _ => ⟨rfl, rfl⟩) ?_
  refine vJ.aload_n dX7_init_205 rfl rfl ?_
  refine vJ.bipush dX7_init_206 (v := 16) rfl ?_
  refine vJ.newaI (N := 16) dX7_init_208 (by decide) (by decide) (by decide) ac_int (by omega) (by omega) (by rw [sh_189]) ⟨fa_cons (vrf_ref (by omega)) fa_nil, fa_cons (vrf_ref (by omega)) fa_nil⟩ (vJ.kNew (n2 := 190) rfl (by omega) (by omega) sh_189 ?_)
  refine vJ.kPut (ci := 7) (k := 33) dX7_init_210 (by omega) (by omega) rfl inX7 tyX7 tyX7_ok nmX7 (by decide) rfl rfl rfl fl_RX7_86 (fun _ => ⟨rfl, rfl⟩) ?_
  refine vJ.aload_n dX7_init_213 rfl rfl ?_
  refine vJ.bipush dX7_init_214 (v := 16) rfl ?_
  refine vJ.newaI (N := 16) dX7_init_216 (by decide) (by decide) (by decide) ac_int (by omega) (by omega) (by rw [sh_190]) ⟨fa_cons (vrf_ref (by omega)) fa_nil, fa_cons (vrf_ref (by omega)) fa_nil⟩ (vJ.kNew (n2 := 191) rfl (by omega) (by omega) sh_190 ?_)
  refine vJ.kPut (ci := 7) (k := 34) dX7_init_218 (by omega) (by omega) rfl inX7 tyX7 tyX7_ok nmX7 (by decide) rfl rfl rfl fl_RX7_89 (fun _ => ⟨rfl, rfl⟩) ?_
  refine vJ.aload_n dX7_init_221 rfl rfl ?_
  refine vJ.bipush dX7_init_222 (v := 16) rfl ?_
  refine vJ.newaI (N := 16) dX7_init_224 (by decide) (by decide) (by decide) ac_int (by omega) (by omega) (by rw [sh_191]) ⟨fa_cons (vrf_ref (by omega)) fa_nil, fa_cons (vrf_ref (by omega)) fa_nil⟩ (vJ.kNew (n2 := 192) rfl (by omega) (by omega) sh_191 ?_)
  refine vJ.kPut (ci := 7) (k := 35) dX7_init_226 (by omega) (by omega) rfl inX7 tyX7 tyX7_ok nmX7 (by decide) rfl rfl rfl fl_RX7_92 (fun _ => ⟨rfl, rfl⟩) ?_
  refine vJ.aload_n dX7_init_229 rfl rfl ?_
  refine vJ.bipush dX7_init_230 (v := 16) rfl ?_
  refine vJ.newaI (N := 16) dX7_init_232 (by decide) (by decide) (by decide) ac_int (by omega) (by omega) (by rw [sh_192]) ⟨fa_cons (vrf_ref (by omega)) fa_nil, fa_cons (vrf_ref (by omega)) fa_nil⟩ (vJ.kNew (n2 := 193) rfl (by omega) (by omega) sh_192 ?_)
  refine vJ.kPut (ci := 7) (k := 36) dX7_init_234 (by omega) (by omega) rfl inX7 tyX7 tyX7_ok nmX7 (by decide) rfl rfl rfl fl_RX7_95 (fun _ => ⟨rfl, rfl⟩) ?_
  refine vJ.aload_n dX7_init_237 rfl rfl ?_
  refine vJ.bipush dX7_init_238 (v := 16) rfl ?_
  refine vJ.newaI (N := 16) dX7_init_240 (by decide) (by decide) (by decide) ac_int (by omega) (by omega) (by rw [sh_193]) ⟨fa_cons (vrf_ref (by omega)) fa_nil, fa_cons (vrf_ref (by omega)) fa_nil⟩ (vJ.kNew (n2 := 194) rfl (by omega) (by omega) sh_193 ?_)
  refine vJ.kPut (ci := 7) (k := 37) dX7_init_242 (by omega) (by omega) rfl inX7 tyX7 tyX7_ok nmX7 (by decide) rfl rfl rfl fl_RX7_98 (fun _ => ⟨rfl, rfl⟩) ?_
  refine vJ.aload_n dX7_init_245 rfl rfl ?_
  refine vJ.bipush dX7_init_246 (v := 17) rfl ?_
  refine vJ.newaI (N := 17) dX7_init_248 (by decide) (by decide) (by decide) ac_int (by omega) (by omega) (by rw [sh_194]) ⟨fa_cons (vrf_ref (by omega)) fa_nil, fa_cons (vrf_ref (by omega)) fa_nil⟩ (vJ.kNew (n2 := 195) rfl (by omega) (by omega) sh_194 ?_)
  refine vJ.kPut (ci := 7) (k := 38) dX7_init_250 (by omega) (by omega) rfl inX7 tyX7 tyX7_ok nmX7 (by decide) rfl rfl rfl fl_RX7_101 (fun _ => ⟨rfl, rfl⟩) ?_
  refine vJ.aload_n dX7_init_253 rfl rfl ?_
  refine vJ.bipush dX7_init_254 (v := 17) rfl ?_
  refine vJ.newaJ (N := 17) dX7_init_256 (by decide) (by decide) (by decide) ac_long (by omega) (by omega) (by rw [sh_195]) ⟨fa_cons (vrf_ref (by omega)) fa_nil, fa_cons (vrf_ref (by omega)) fa_nil⟩ (vJ.kNew (n2 := 196) rfl (by omega) (by omega) sh_195 ?_)
  refine vJ.kPut (ci := 7) (k := 39) dX7_init_258 (by omega) (by omega) rfl inX7 tyX7 tyX7_ok nmX7 (by decide) rfl rfl rfl fl_RX7_104 (fun _ => ⟨rfl, rfl⟩) ?_
  refine vJ.aload_n dX7_init_261 rfl rfl ?_
  refine vJ.bipush dX7_init_262 (v := 17) rfl ?_
  refine vJ.newaI (N := 17) dX7_init_264 (by decide) (by decide) (by decide) ac_int (by omega) (by omega) (by rw [sh_196]) ⟨fa_cons (vrf_ref (by omega)) fa_nil, fa_cons (vrf_ref (by omega)) fa_nil⟩ (vJ.kNew (n2 := 197) rfl (by omega) (by omega) sh_196 ?_)
  refine vJ.kPut (ci := 7) (k := 40) dX7_init_266 (by omega) (by omega) rfl inX7 tyX7 tyX7_ok nmX7 (by decide) rfl rfl rfl fl_RX7_108 (fun _ => ⟨rfl, rfl⟩) ?_
  refine vJ.iconst dX7_init_269 ci_0 ?_
  refine vJ.istore_n (ls2 := [(0, .ref 163), (1, .int 0)]) dX7_init_270 rfl (by decide) rfl ?_
  rw [kO_kT (sh_163.trans ?_), kT_SH]
  · exact c_X7_loop hp
  · refine congrArg (fun q => (13, 41, q)) (funext fun j => ?_)
    match j with
    | 0 => rfl
    | 1 => rfl
    | 2 => rfl
    | 3 => rfl
    | 4 => rfl
    | 5 => rfl
    | 6 => rfl
    | 7 => rfl
    | 8 => rfl
    | 9 => rfl
    | 10 => rfl
    | 11 => rfl
    | 12 => rfl
    | 13 => rfl
    | 14 => rfl
    | 15 => rfl
    | 16 => rfl
    | 17 => rfl
    | 18 => rfl
    | 19 => rfl
    | 20 => rfl
    | 21 => rfl
    | 22 => rfl
    | 23 => rfl
    | 24 => rfl
    | 25 => rfl
    | 26 => rfl
    | 27 => rfl
    | 28 => rfl
    | 29 => rfl
    | 30 => rfl
    | 31 => rfl
    | 32 => rfl
    | 33 => rfl
    | 34 => rfl
    | 35 => rfl
    | 36 => rfl
    | 37 => rfl
    | 38 => rfl
    | 39 => rfl
    | 40 => rfl
    | j + 41 => rfl
