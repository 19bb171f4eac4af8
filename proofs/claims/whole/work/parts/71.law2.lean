theorem nI_lt_sub6 {L k : Nat} (hL : L ≤ 3072) (hk : k ≤ L) : (nI L - nI 6 < nI k) = (L < k + 6) := by
  rw [Int32.lt_iff_toInt_lt, pk_sub_toInt (by omega) (by omega), nI_toInt (by omega)]
  exact propext (by omega)
theorem sw_in {v : Int32} (h : ¬ (v.toInt < 0 ∨ 30 < v.toInt)) : ∃ i, i < 31 ∧ v = nI i := by
  refine ⟨v.toInt.toNat, by omega, ?_⟩
  apply Int32.toInt_inj.mp
  rw [nI_toInt (by omega)]
  omega
/-- the switch: any number leads to a case, or past all of them -/
theorem law_sw {L k : Nat} {xs : Nat → Int32} {m : vM} {P : Option Value → vSh → vM → Prop} {v : Int32} (hL : L ≤ 3072) (hk : k + 6 ≤ L) (hI : Inv m) (back : ∀ m1, Inv m1 → JL L xs k 1096 m1 P) : vJ mL_law 8 294 197 (some (L, xs)) 33 (lsL k) [.int v] 197 SH m P := by
  by_cases h : v.toInt < 0 ∨ 30 < v.toInt
  · exact vJ.tabOut (tgt := 1096) dL_law_33 h (by decide) (back m hI)
  · obtain ⟨i, hi, rfl⟩ := sw_in h
    match i, hi with
    | 0, _ => exact vJ.tabIn (tgt := 172) dL_law_33 (by decide) (by decide) rfl (by decide) (law_0 hL hk hI back)
    | 1, _ => exact vJ.tabIn (tgt := 215) dL_law_33 (by decide) (by decide) rfl (by decide) (law_1 hL hk hI back)
    | 2, _ => exact vJ.tabIn (tgt := 248) dL_law_33 (by decide) (by decide) rfl (by decide) (law_2 hL hk hI back)
    | 3, _ => exact vJ.tabIn (tgt := 281) dL_law_33 (by decide) (by decide) rfl (by decide) (law_3 hL hk hI back)
    | 4, _ => exact vJ.tabIn (tgt := 344) dL_law_33 (by decide) (by decide) rfl (by decide) (law_4 hL hk hI back)
    | 5, _ => exact vJ.tabIn (tgt := 357) dL_law_33 (by decide) (by decide) rfl (by decide) (law_5 hL hk hI back)
    | 6, _ => exact vJ.tabIn (tgt := 380) dL_law_33 (by decide) (by decide) rfl (by decide) (law_6 hL hk hI back)
    | 7, _ => exact vJ.tabIn (tgt := 413) dL_law_33 (by decide) (by decide) rfl (by decide) (law_7 hL hk hI back)
    | 8, _ => exact vJ.tabIn (tgt := 446) dL_law_33 (by decide) (by decide) rfl (by decide) (law_8 hL hk hI back)
    | 9, _ => exact vJ.tabIn (tgt := 479) dL_law_33 (by decide) (by decide) rfl (by decide) (law_9 hL hk hI back)
    | 10, _ => exact vJ.tabIn (tgt := 512) dL_law_33 (by decide) (by decide) rfl (by decide) (law_10 hL hk hI back)
    | 11, _ => exact vJ.tabIn (tgt := 555) dL_law_33 (by decide) (by decide) rfl (by decide) (law_11 hL hk hI back)
    | 12, _ => exact vJ.tabIn (tgt := 618) dL_law_33 (by decide) (by decide) rfl (by decide) (law_12 hL hk hI back)
    | 13, _ => exact vJ.tabIn (tgt := 641) dL_law_33 (by decide) (by decide) rfl (by decide) (law_13 hL hk hI back)
    | 14, _ => exact vJ.tabIn (tgt := 674) dL_law_33 (by decide) (by decide) rfl (by decide) (law_14 hL hk hI back)
    | 15, _ => exact vJ.tabIn (tgt := 707) dL_law_33 (by decide) (by decide) rfl (by decide) (law_15 hL hk hI back)
    | 16, _ => exact vJ.tabIn (tgt := 740) dL_law_33 (by decide) (by decide) rfl (by decide) (law_16 hL hk hI back)
    | 17, _ => exact vJ.tabIn (tgt := 773) dL_law_33 (by decide) (by decide) rfl (by decide) (law_17 hL hk hI back)
    | 18, _ => exact vJ.tabIn (tgt := 806) dL_law_33 (by decide) (by decide) rfl (by decide) (law_18 hL hk hI back)
    | 19, _ => exact vJ.tabIn (tgt := 829) dL_law_33 (by decide) (by decide) rfl (by decide) (law_19 hL hk hI back)
    | 20, _ => exact vJ.tabIn (tgt := 862) dL_law_33 (by decide) (by decide) rfl (by decide) (law_20 hL hk hI back)
    | 21, _ => exact vJ.tabIn (tgt := 875) dL_law_33 (by decide) (by decide) rfl (by decide) (law_21 hL hk hI back)
    | 22, _ => exact vJ.tabIn (tgt := 898) dL_law_33 (by decide) (by decide) rfl (by decide) (law_22 hL hk hI back)
    | 23, _ => exact vJ.tabIn (tgt := 921) dL_law_33 (by decide) (by decide) rfl (by decide) (law_23 hL hk hI back)
    | 24, _ => exact vJ.tabIn (tgt := 944) dL_law_33 (by decide) (by decide) rfl (by decide) (law_24 hL hk hI back)
    | 25, _ => exact vJ.tabIn (tgt := 977) dL_law_33 (by decide) (by decide) rfl (by decide) (law_25 hL hk hI back)
    | 26, _ => exact vJ.tabIn (tgt := 1000) dL_law_33 (by decide) (by decide) rfl (by decide) (law_26 hL hk hI back)
    | 27, _ => exact vJ.tabIn (tgt := 1023) dL_law_33 (by decide) (by decide) rfl (by decide) (law_27 hL hk hI back)
    | 28, _ => exact vJ.tabIn (tgt := 1046) dL_law_33 (by decide) (by decide) rfl (by decide) (law_28 hL hk hI back)
    | 29, _ => exact vJ.tabIn (tgt := 1059) dL_law_33 (by decide) (by decide) rfl (by decide) (law_29 hL hk hI back)
    | 30, _ => exact vJ.tabIn (tgt := 1082) dL_law_33 (by decide) (by decide) rfl (by decide) (law_30 hL hk hI back)
    | i + 31, h => exact absurd h (by omega)
/-- the loop: from any place of the script that is not behind its end -/
theorem law_loop {L : Nat} {xs : Nat → Int32} {P : Option Value → vSh → vM → Prop} (hL : L ≤ 3072) (hp : ∀ m, P (some (.int 1)) SH m) : ∀ (f k : Nat) (m : vM), L < k + f → k ≤ L → Inv m → JL L xs k 18 m P := by
  intro f
  induction f with
  | zero => intro k m h1 h2; omega
  | succ f ih =>
    intro k m h1 h2 hI
    unfold JL
    refine vJ.iload_n dL_law_18 rfl rfl ?_
    refine vJ.aload_n dL_law_19 rfl rfl ?_
    refine vJ.slen rfl dL_law_20 ?_
    refine vJ.bipush dL_law_21 (v := nI 6) rfl ?_
    refine vJ.isub dL_law_23 ?_
    refine vJ.icmp_gt (tgt := 1102) dL_law_24 (by decide) (fun _ => ?_) (fun hc => ?_)
    · refine vJ.iconst dL_law_1102 ci_1 ?_
      exact vJ.ireturn (ty := .boolean) dL_law_1103 rfl narrow_b1 rfl (hp m)
    · have hk : k + 6 ≤ L := by
        have h3 : ¬ (nI L - nI 6 < nI k) := hc
        rw [nI_lt_sub6 hL h2] at h3
        omega
      refine vJ.aload_n dL_law_27 rfl rfl ?_
      refine vJ.iload_n dL_law_28 rfl rfl ?_
      refine vJ.sld rfl dL_law_29 (vI (by omega) (by omega)) ?_
      refine vJ.bipush dL_law_30 (v := 31) rfl ?_
      refine vJ.iand dL_law_32 ?_
      refine law_sw hL hk hI (fun m1 hI1 => ?_)
      unfold JL
      refine vJ.iinc dL_law_1096 rfl (v := nI (k + 6)) (adI k 6) (by decide) rfl ?_
      refine vJ.goto (tgt := 18) dL_law_1099 (by decide) ?_
      exact ih (k + 6) m1 (by omega) hk hI1
/-- what both sides hold at first -/
theorem start_inv {m m1 : vM} (h : Mo (kM 163 (memC m)) m1) : Inv m1 := by
  obtain ⟨h0, ⟨a2, a3, a4, a7, a18, a32, aj⟩, h166, h165, h193⟩ := h
  have e : ∀ a, a < 163 → m1.1 a = (memC m).1 a := fun a ha => (h0 a (by omega) (by omega) (by omega) (by omega) (by omega)).trans (kM_i ha)
  have eC : ∀ a, a ≠ 0 → (memC m).1 a = (memC1 m).1 a := fun a ha => by
    unfold memC
    rw [upI_o _ _ _ _ _ ha, upI_o _ _ _ _ _ ha, upI_o _ _ _ _ _ ha]
  have eZ : ∀ a, 125 ≤ a → (memC1 m).1 a = fun _ => 0 := fun a ha => kM_o ha
  have eG : ∀ a, a < 125 → (memC1 m).1 a = (mG (kM 0 m)).1 a := fun a ha => kM_i ha
  have e1 : m1.1 1 = (mG (kM 0 m)).1 1 := ((e 1 (by decide)).trans (eC 1 (by decide))).trans (eG 1 (by decide))
  have e2 : m1.1 2 = (mG (kM 0 m)).1 2 := ((e 2 (by decide)).trans (eC 2 (by decide))).trans (eG 2 (by decide))
  have e3 : m1.1 3 = (mG (kM 0 m)).1 3 := ((e 3 (by decide)).trans (eC 3 (by decide))).trans (eG 3 (by decide))
  have z : ∀ a, 125 ≤ a → a < 163 → m1.1 a = fun _ => 0 := fun a q1 q2 => ((e a q2).trans (eC a (by omega))).trans (eZ a q1)
  have z163 : ∀ j, j ≠ 2 → j ≠ 3 → j ≠ 4 → j ≠ 7 → j ≠ 18 → j ≠ 32 → m1.1 163 j = 0 := fun j q1 q2 q3 q4 q5 q6 => (aj j q1 q2 q3 q4 q5 q6).trans (congrFun (kM_o (b := 163) (k := 163) (Nat.le_refl _)) j)
  have z164 : m1.1 164 = fun _ => 0 := (h0 164 (by decide) (by decide) (by decide) (by decide) (by decide)).trans (kM_o (by decide))
  have i2 : ∀ i, i < 6 → m1.1 2 i = nI 1 := fun i hi => by
    rw [e2]
    unfold mG
    rw [fillA_s _ _ _ _ _ hi]; rfl
  have i3 : ∀ i, i < 10 → m1.1 3 i = nI 1 := fun i hi => by
    rw [e3]
    unfold mG
    rw [fillA_o _ _ _ _ _ (by decide), upI_o _ _ _ _ _ (by decide), upI_o _ _ _ _ _ (by decide), upI_o _ _ _ _ _ (by decide), upI_o _ _ _ _ _ (by decide), fillA_s _ _ _ _ _ hi]; rfl
  have i1 : ∀ j, j < 4 → m1.1 1 j = nI (if j < 2 then 1 else 0) := fun j hj => by
    rw [e1]
    unfold mG
    rw [fillA_o _ _ _ _ _ (by decide)]
    match j, hj with
    | 0, _ => rw [upI_n _ _ _ _ _ _ (Or.inr (by decide)), upI_n _ _ _ _ _ _ (Or.inr (by decide)), upI_n _ _ _ _ _ _ (Or.inr (by decide)), upI_s]; rfl
    | 1, _ => rw [upI_n _ _ _ _ _ _ (Or.inr (by decide)), upI_n _ _ _ _ _ _ (Or.inr (by decide)), upI_s]; rfl
    | 2, _ => rw [upI_n _ _ _ _ _ _ (Or.inr (by decide)), upI_s]; rfl
    | 3, _ => rw [upI_s]; rfl
    | j + 4, h => omega
  have c5 : m1.1 0 5 = 0 := by
    rw [e 0 (by decide)]
    unfold memC
    rw [upI_n _ _ _ _ _ _ (Or.inr (by decide)), upI_n _ _ _ _ _ _ (Or.inr (by decide)), upI_s]
  have c6 : m1.1 0 6 = -9 := by
    rw [e 0 (by decide)]
    unfold memC
    rw [upI_n _ _ _ _ _ _ (Or.inr (by decide)), upI_s]
  have c7 : m1.1 0 7 = 0 := by
    rw [e 0 (by decide)]
    unfold memC
    rw [upI_s]
  have d0 : m1.1 163 0 = 0 := z163 0 (by decide) (by decide) (by decide) (by decide) (by decide) (by decide)
  have d29 : m1.1 163 29 = 0 := z163 29 (by decide) (by decide) (by decide) (by decide) (by decide) (by decide)
  have hF : Fresh m1 m1 1 1 0 := by
    refine ⟨⟨i1 0 (by decide), i1 1 (by decide), i1 2 (by decide), i1 3 (by decide)⟩, ⟨a2, a3, a4, a7⟩, fun i hi => ⟨i2 i hi, (h165 i hi).1⟩, fun i _ => ⟨rfl, rfl⟩, ⟨rfl, rfl, rfl, rfl⟩, fun f => ⟨rfl, rfl⟩, c6.trans a18.symm, fun i hi => ⟨?_, (h165 i hi).2⟩, ?_, a32, h193⟩
    · rw [z 130 (by decide) (by decide)]; rfl
    · rw [z 139 (by decide) (by decide)]; rfl
  refine (hF.inv (T := fun _ _ => 1) ⟨by decide, by decide⟩ ⟨by decide, by decide⟩ (by decide) (fun i hi => ⟨i3 i hi, h166 i hi⟩) (fun i _ => ⟨by decide, by decide⟩) ⟨c5.trans d0.symm, fun f _ _ => ?_, c7.trans d29.symm⟩).toI
  rw [z 162 (by decide) (by decide), z164]
/-- the law's body, from its first instruction -/
theorem law_all {L : Nat} {xs : Nat → Int32} {sh : vSh} {m : vM} {P : Option Value → vSh → vM → Prop} (hL : L ≤ 3072) (hp : ∀ m, P (some (.int 1)) SH m) : vJ mL_law 8 294 197 (some (L, xs)) 0 [(0, .ref vsN)] [] 0 sh m P := by
  refine vJ.new (ci := 6) dL_law_0 rfl inX6 tyX6 tyX6_ok ini6 ini6_ok ini6_le cl_RL_7 it_RX6 in_TableSetter (by omega) (by omega) (by rw [sh_0]) ⟨fa_cons vrf_sN fa_nil, fa_nil⟩ (vJ.kNewO (n2 := 1) rfl ?_)
  refine vJ.dup dL_law_3 rfl ?_
  refine vJ.callI (Yc := mX6_init) (frc := 3) (loc := 67) (n2 := 163) (b := 0) (as := []) (st := [.ref 0]) dL_law_4 rfl ml_RL_9 im_yX6_init rfl rfl co_X6_init in_TableSetter pl_X6_init (by decide) (by decide) (by decide) (by decide) (by decide) ⟨fa_cons vrf_sN fa_nil, fa_cons (vrf_ref (by omega)) fa_nil⟩ ?_
  refine c_X6_init ?_
  show vJ _ _ _ _ _ 7 _ [.ref 0] 163 _ _ _
  refine vJ.astore_n (ls2 := [(0, .ref vsN), (1, .ref 0)]) dL_law_7 rfl (by decide) rfl ?_
  refine vJ.new (ci := 7) dL_law_8 rfl inX7 tyX7 tyX7_ok ini7 ini7_ok ini7_le cl_RL_10 it_RX7 in_TableSetterModel (by omega) (by omega) (by rw [sh_163]) ⟨fa_cons vrf_sN (fa_cons (vrf_ref (by omega)) fa_nil), fa_nil⟩ (vJ.kNewO (n2 := 164) rfl ?_)
  refine vJ.dup dL_law_11 rfl ?_
  refine vJ.callI (Yc := mX7_init) (frc := 1) (loc := 24) (n2 := 197) (b := 163) (as := []) (st := [.ref 163]) dL_law_12 rfl ml_RL_12 im_yX7_init rfl rfl co_X7_init in_TableSetterModel pl_X7_init (by decide) (by decide) (by decide) (by decide) (by decide) ⟨fa_cons vrf_sN (fa_cons (vrf_ref (by omega)) fa_nil), fa_cons (vrf_ref (by omega)) fa_nil⟩ ?_
  refine c_X7_init (fun m1 hM => ?_)
  show vJ _ _ _ _ _ 15 _ [.ref 163] 197 _ _ _
  refine vJ.astore_n (ls2 := [(0, .ref vsN), (1, .ref 0), (2, .ref 163)]) dL_law_15 rfl (by decide) rfl ?_
  refine vJ.iconst dL_law_16 ci_0 ?_
  refine vJ.istore_n (ls2 := lsL 0) dL_law_17 rfl (by decide) rfl ?_
  exact law_loop hL hp (L + 1) 0 m1 (by omega) (Nat.zero_le _) (start_inv hM)

