/-! L and B, laid -/
def LT (T : tT) (c : Nat) : Nat := widF T 0 (T 163 3) c
def B0 (T : tT) (c : Nat) : Nat := widF T 1 (T 163 3) c
def BT (T : tT) (c : Nat) : Nat := if B0 T c < LT T c then LT T c else B0 T c
section CM
variable {m : vM} {T : tT}
theorem LT_bd (hV : Vw m T) (c : Nat) : LT T c ≤ 1542 ∧ (T 163 3 ≤ c → LT T c = 0) := by
  have h := widF_bd hV (what := 0) (T 163 3) c
  have hC := hV.C
  unfold LT
  exact ⟨by have := h.1; omega, h.2⟩
theorem BT_bd (hV : Vw m T) (c : Nat) : BT T c ≤ 1542 ∧ LT T c ≤ BT T c ∧ (T 163 3 ≤ c → BT T c = 0) := by
  have h := widF_bd hV (what := 1) (T 163 3) c
  have h2 := LT_bd hV c
  have hC := hV.C
  have e : B0 T c = widF T 1 (T 163 3) c := rfl
  unfold BT
  rw [← e] at h
  split
  · exact ⟨h2.1, Nat.le_refl _, h2.2⟩
  · exact ⟨by have := h.1; omega, by omega, h.2⟩
theorem c_X5_addTo (hV : Vw m T) {a b : Nat} {A B : Nat → Nat} (ha : SH a = (0, 6, vz)) (hwa : a < 197) (hb : SH b = (0, 6, vz)) (hwb : b < 197) (hab : a ≠ b) (h1 : a ≠ 1) (hA : ∀ c, c < 6 → m.1 a c = nI (A c)) (hB : ∀ c, c < 6 → m.1 b c = nI (B c)) {P : vM → Prop}
    (hp : ∀ m1, butL [a] m m1 → (∀ c, c < 6 → m1.1 a c = nI (if c < T 163 3 then A c + B c else A c)) → P m1) : EI_X5_addTo a 6 b 6 m P := by
  have hC := hV.C
  refine f_X5_addTo (b_X5_addTo_0 ha hwa hb hwb ?_)
  unfold wp_X5_addTo_0
  refine loop_up (Q := fun i => ∀ mm : vM, butL [a] m mm → (∀ c, c < 6 → mm.1 a c = nI (if c < i then A c + B c else A c)) → J_X5_addTo_2 a 6 b 6 (nI i) mm P) (n := T 163 3) ?_ (fun i hi ih => ?_) 0 (Nat.zero_le _) m butL.rfl' (fun c hc => by rw [if_neg (Nat.not_lt_zero _)]; exact hA c hc)
  · intro mm hb9 hg
    refine b_X5_addTo_2 ha hwa hb hwb ?_
    unfold wp_X5_addTo_2
    rw [show mm.1 1 1 = m.1 1 1 by rw [hb9.1 1 (by simp only [List.mem_singleton]; omega)], hV.xC]
    exact ⟨fun _ => hp mm hb9 hg, fun h => absurd (nI_le (Nat.le_refl _) (by omega)) h⟩
  · intro mm hb9 hg
    refine b_X5_addTo_2 ha hwa hb hwb ?_
    unfold wp_X5_addTo_2
    have hv : vp_in (nI i) 6 := vI (by omega) (by omega)
    rw [show mm.1 1 1 = m.1 1 1 by rw [hb9.1 1 (by simp only [List.mem_singleton]; omega)], hV.xC, clI i (by omega), hg i (by omega), if_neg (Nat.lt_irrefl _), show mm.1 b i = m.1 b i by rw [hb9.1 b (by simp only [List.mem_singleton]; omega)], hB i (by omega), adI, ad1I]
    refine ⟨fun h => absurd h (nI_ge hi (by omega)), fun _ => ⟨fun h => absurd h (nI_ge (b := 6) (by omega) (by omega)), fun _ => ⟨fun h => absurd h (nI_ge (b := 6) (by omega) (by omega)), fun _ => ⟨hv, hv, hv, ?_⟩⟩⟩⟩
    rintro _ rfl
    refine ih _ (butL_upI hb9 (List.mem_singleton.mpr rfl)) (fun c hc => ?_)
    by_cases hci : c = i
    · subst hci
      rw [upI_s, if_pos (show c < c + 1 by omega)]
    · rw [upI_n _ _ _ _ _ _ (Or.inr hci), hg c hc]
      by_cases hlt2 : c < i
      · rw [if_pos hlt2, if_pos (by omega)]
      · rw [if_neg hlt2, if_neg (by omega)]
theorem c_X5_measureFor (hV : Vw m T) {a what : Nat} (hz : 131 ≤ a ∧ a ≤ 132) (hwh : what ≤ 1) {P : vM → Prop}
    (hp : ∀ m1, butL [a, 134, 135, 136] m m1 → (∀ c, c < 6 → m1.1 a c = nI (widF T what (T 163 3) c)) → P m1) : EI_X5_measureFor (nI what) a 6 m P := by
  have hC := hV.C
  have h40 := hV.E40
  have ha : SH a = (0, 6, vz) := by
    rcases (by omega : a = 131 ∨ a = 132) with rfl | rfl
    · exact sh_131
    · exact sh_132
  have hsc : ∀ b ∈ [a, 134, 135, 136], ∀ j, scr b j = true := by
    intro b hb j
    simp only [List.mem_cons, List.not_mem_nil, or_false] at hb
    rcases (by omega : b = 131 ∨ b = 132 ∨ b = 134 ∨ b = 135 ∨ b = 136) with rfl | rfl | rfl | rfl | rfl <;> rfl
  have hmem : a ∈ [a, 134, 135, 136] := List.mem_cons_self
  have hmem6 : 136 ∈ [a, 134, 135, 136] := by simp
  refine f_X5_measureFor (b_X5_measureFor_0 ha (by omega) ?_)
  unfold wp_X5_measureFor_0
  rintro m1 em1
  have hb1 : butL [a, 134, 135, 136] m m1 := by rw [em1]; exact butL_upA butL.rfl' hmem
  have hV1 : Vw m1 T := hV.agr (hb1.agr hsc)
  refine loop_up (Q := fun s => ∀ mm : vM, Vw mm T → butL [a, 134, 135, 136] m mm → (∀ c, c < 6 → mm.1 a c = nI (widF T what s c)) → J_X5_measureFor_7 (nI what) a 6 (nI (s + 1)) mm P) (n := T 163 3) ?_ (fun s hs ih => ?_) 0 (Nat.zero_le _) m1 hV1 hb1 (fun c hc => by rw [em1, fillA_s _ _ _ _ _ hc]; rfl)
  · intro mm hVm hbm hg
    refine b_X5_measureFor_7 ha (by omega) ?_
    unfold wp_X5_measureFor_7
    rw [hVm.xC]
    exact ⟨fun _ => hp mm hbm hg, fun h => absurd (nI_lt (by omega) (by omega)) h⟩
  · intro mm hVm hbm hg
    refine b_X5_measureFor_7 ha (by omega) ?_
    unfold wp_X5_measureFor_7
    rw [hVm.xC]
    refine ⟨fun h => absurd h (nI_nlt (by omega) (by omega)), fun _ => ?_⟩
    rintro m2 em2
    have hb2 : butL [a, 134, 135, 136] m m2 := by rw [em2]; exact butL_upA hbm hmem6
    have hV2 : Vw m2 T := hVm.agr (by rw [em2]; exact agr_fill (fun _ => rfl))
    refine loop_up (Q := fun k => ∀ mk : vM, Vw mk T → butL [a, 134, 135, 136] m mk → (∀ c, c < 6 → mk.1 a c = nI (widF T what s c)) → (∀ c, c < 6 → mk.1 136 c = nI (growF T what (widF T what s) (s + 1) k c)) → J_X5_measureFor_29 (nI what) a 6 (nI (s + 1)) (nI k) mk P) (n := T 163 7) ?_ (fun k hk ihk => ?_) 0 (Nat.zero_le _) m2 hV2 hb2 (fun c hc => by rw [em2, fillA_o _ _ _ _ _ (by omega)]; exact hg c hc) (fun c hc => by rw [em2, fillA_s _ _ _ _ _ hc]; rfl)
    · intro mk hVk hbk hga hgg
      refine b_X5_measureFor_29 ha (by omega) ?_
      unfold wp_X5_measureFor_29
      rw [hVk.xE, ad1I]
      refine ⟨fun _ => ?_, fun h => absurd (nI_le (Nat.le_refl _) (by omega)) h⟩
      refine c_X5_addTo hVk ha (by omega) sh_136 (by decide) (by omega) (by omega) hga hgg (fun m3 hb3 hg3 => ?_)
      have hb3' : butL [a, 134, 135, 136] mk m3 := hb3.mono (by intro b hb; rw [List.mem_singleton] at hb; subst hb; exact hmem)
      refine ih m3 (hVk.agr (hb3'.agr hsc)) (hbk.trans hb3') (fun c hc => ?_)
      rw [hg3 c hc]
      have hgb := growF_bd hV (what := what) (b := widF T what s) (s := s + 1) (by omega) (T 163 7) (Nat.le_refl _) c
      show _ = nI (widF T what s c + growF T what (widF T what s) (s + 1) (T 163 7) c)
      by_cases hcC : c < T 163 3
      · rw [if_pos hcC]
      · rw [if_neg hcC, hgb.2 (by omega)]; rfl
    · intro mk hVk hbk hga hgg
      refine b_X5_measureFor_29 ha (by omega) ?_
      unfold wp_X5_measureFor_29
      rw [hVk.xE, ad1I, ad1I]
      refine ⟨fun h => absurd h (nI_ge hk (by omega)), fun _ => ?_⟩
      obtain ⟨d1, d2, d3, d4, d5, d6, d7, -⟩ := hV.cell hk
      have eg : ∀ c, growF T what (widF T what s) (s + 1) (k + 1) c = if T 172 k = 0 ∧ T 171 k = s + 1 then upG T (growF T what (widF T what s) (s + 1) k) (wantT T k what - spanN (T 163 4) (widF T what s) (T 169 k) (s + 1)) (T 169 k) (s + 1) c else growF T what (widF T what s) (s + 1) k c := fun _ => rfl
      refine c_X1_present hVk hk (fun hgn => ⟨fun h => (by cases h), fun i2 hi2 h => ?_⟩) (fun hgn => ⟨fun _ => ?_, fun i2 _ h => (by cases h)⟩)
      · cases h
        rw [(hVk.xc hk).2.2.2.2.1, eqI (by omega) (by omega)]
        refine ⟨fun hsk => ?_, fun hsk => ihk mk hVk hbk hga (fun c hc => by rw [eg c, if_neg (fun z => hsk z.2)]; exact hgg c hc)⟩
        have hC' := hV.C
        refine c_X0_wanted hVk hk hwh ?_
        refine c_X1_spanOf hVk hk ha (by omega) (by omega) (fun j hj => hga _ (by omega)) ?_
        have hw := wantT_le hV hk (what := what)
        have hsp : spanN (T 163 4) (widF T what s) (T 169 k) (T 171 k) ≤ 15 + 1542 * 6 := spanN_bd hV.g (by omega) (fun j _ => by have := (widF_bd hV (what := what) s (T 169 k + j)).1; omega)
        refine c_X5_noteLack hVk hk hw (by omega) (fun c hc => ⟨hgg c hc, by have := (growF_bd hV (what := what) (b := widF T what s) (s := s + 1) (by omega) k (by omega) c).1; omega⟩) (fun m3 hb3 hg3 => ?_)
        have hb3' : butL [a, 134, 135, 136] mk m3 := hb3.mono (by intro b hb; simp only [List.mem_cons, List.not_mem_nil, or_false] at hb ⊢; omega)
        refine ihk m3 (hVk.agr (hb3'.agr hsc)) (hbk.trans hb3') (fun c hc => ?_) (fun c hc => ?_)
        · rw [hb3.1 a (by simp only [List.mem_cons, List.not_mem_nil, or_false]; omega)]; exact hga c hc
        · rw [hg3 c hc, eg c, if_pos ⟨hgn, hsk⟩, hsk]
      · exact ihk mk hVk hbk hga (fun c hc => by rw [eg c, if_neg (fun z => hgn z.1)]; exact hgg c hc)
theorem c_X7_layWidths (hV : Vw m T) {a what : Nat} (hz : 182 ≤ a ∧ a ≤ 183) (hwh : what ≤ 1) {P : vM → Prop}
    (hp : ∀ m1, butL [a, 178, 179, 180, 184] m m1 → (∀ c, c < T 163 3 → m1.1 a c = nI (widF T what (T 163 3) c)) → P m1) : EI_X7_layWidths (nI what) a 6 m P := by
  have hC := hV.C
  have h40 := hV.E40
  have ha : SH a = (0, 6, vz) := by
    rcases (by omega : a = 182 ∨ a = 183) with rfl | rfl
    · exact sh_182
    · exact sh_183
  have hsc : ∀ b ∈ [a, 178, 179, 180, 184], ∀ j, scr b j = true := by
    intro b hb j
    simp only [List.mem_cons, List.not_mem_nil, or_false] at hb
    rcases (by omega : b = 182 ∨ b = 183 ∨ b = 178 ∨ b = 179 ∨ b = 180 ∨ b = 184) with rfl | rfl | rfl | rfl | rfl | rfl <;> rfl
  have hmem : a ∈ [a, 178, 179, 180, 184] := List.mem_cons_self
  have hmem4 : 184 ∈ [a, 178, 179, 180, 184] := by simp
  have VU : ∀ {mm : vM} {b j : Nat} {v : Int32}, Vw mm T → b ∈ [a, 178, 179, 180, 184] → Vw (upI mm b j v) T := fun hVm hb => hVm.agr (agr_upI (hsc _ hb _))
  refine f_X7_layWidths (b_X7_layWidths_0 ha (by omega) ?_)
  unfold wp_X7_layWidths_0
  have stage : ∀ mm : vM, Vw mm T → butL [a, 178, 179, 180, 184] m mm → (∀ c, c < T 163 3 → mm.1 a c = nI (widF T what 0 c)) → J_X7_layWidths_22 (nI what) a 6 (nI (0 + 1)) mm P := by
    refine loop_up (Q := fun s => ∀ mm : vM, Vw mm T → butL [a, 178, 179, 180, 184] m mm → (∀ c, c < T 163 3 → mm.1 a c = nI (widF T what s c)) → J_X7_layWidths_22 (nI what) a 6 (nI (s + 1)) mm P) (n := T 163 3) ?_ (fun s hs ih => ?_) 0 (Nat.zero_le _)
    · intro mm hVm hbm hg
      refine b_X7_layWidths_22 ha (by omega) ?_
      unfold wp_X7_layWidths_22
      rw [hVm.mC]
      exact ⟨fun _ => hp mm hbm hg, fun h => absurd (nI_lt (by omega) (by omega)) h⟩
    · intro mm hVm hbm hg
      refine b_X7_layWidths_22 ha (by omega) ?_
      unfold wp_X7_layWidths_22
      rw [hVm.mC]
      refine ⟨fun h => absurd h (nI_nlt (by omega) (by omega)), fun _ => ?_⟩
      refine loop_up (Q := fun i => ∀ mm : vM, Vw mm T → butL [a, 178, 179, 180, 184] m mm → (∀ c, c < T 163 3 → mm.1 a c = nI (widF T what s c)) → (∀ c, c < i → mm.1 184 c = nI 0) → J_X7_layWidths_33 (nI what) a 6 (nI (s + 1)) (nI i) mm P) (n := T 163 3) ?_ (fun i hi ihi => ?_) 0 (Nat.zero_le _) mm hVm hbm hg (fun c hc => absurd hc (Nat.not_lt_zero _))
      · intro mz hVz hbz hgz hz0
        refine b_X7_layWidths_33 ha (by omega) ?_
        unfold wp_X7_layWidths_33
        rw [hVz.mC]
        refine ⟨fun _ => ?_, fun h => absurd (nI_le (Nat.le_refl _) (by omega)) h⟩
        refine loop_up (Q := fun k => ∀ mk : vM, Vw mk T → butL [a, 178, 179, 180, 184] m mk → (∀ c, c < T 163 3 → mk.1 a c = nI (widF T what s c)) → (∀ c, c < T 163 3 → mk.1 184 c = nI (growF T what (widF T what s) (s + 1) k c)) → J_X7_layWidths_59 (nI what) a 6 (nI (s + 1)) (nI k) mk P) (n := T 163 7) ?_ (fun k hk ihk => ?_) 0 (Nat.zero_le _) mz hVz hbz hgz hz0
        · intro mk hVk hbk hga hgg
          refine b_X7_layWidths_59 ha (by omega) ?_
          unfold wp_X7_layWidths_59
          rw [hVk.mE]
          refine ⟨fun _ => ?_, fun h => absurd (nI_le (Nat.le_refl _) (by omega)) h⟩
          refine loop_up (Q := fun i => ∀ mm : vM, Vw mm T → butL [a, 178, 179, 180, 184] m mm → mm.1 184 = mk.1 184 → (∀ c, c < T 163 3 → mm.1 a c = nI (if c < i then widF T what (s + 1) c else widF T what s c)) → J_X7_layWidths_131 (nI what) a 6 (nI (s + 1)) (nI i) mm P) (n := T 163 3) ?_ (fun i hi ihi => ?_) 0 (Nat.zero_le _) mk hVk hbk rfl (fun c hc => by rw [if_neg (Nat.not_lt_zero _)]; exact hga c hc)
          · intro mm hVm hbm he hg
            refine b_X7_layWidths_131 ha (by omega) ?_
            unfold wp_X7_layWidths_131
            rw [hVm.mC, ad1I]
            refine ⟨fun _ => ih mm hVm hbm (fun c hc => by rw [hg c hc, if_pos hc]), fun h => absurd (nI_le (Nat.le_refl _) (by omega)) h⟩
          · intro mm hVm hbm he hg
            refine b_X7_layWidths_131 ha (by omega) ?_
            unfold wp_X7_layWidths_131
            have hv : vp_in (nI i) 6 := vI (by omega) (by omega)
            rw [hVm.mC, clI i (by omega), hg i hi, if_neg (Nat.lt_irrefl _), he, hgg i hi, adI]
            simp only [ad1I]
            refine ⟨fun h => absurd h (nI_ge hi (by omega)), fun _ => ⟨hv, hv, hv, ?_⟩⟩
            rintro _ rfl
            refine ihi _ (VU hVm hmem) (butL_upI hbm hmem) (by rw [upI_o _ _ _ _ _ (by omega)]; exact he) (fun c hc => ?_)
            by_cases hci : c = i
            · subst hci
              rw [upI_s, if_pos (show c < c + 1 by omega)]; rfl
            · rw [upI_n _ _ _ _ _ _ (Or.inr hci), hg c hc]
              by_cases hlt2 : c < i
              · rw [if_pos hlt2, if_pos (by omega)]
              · rw [if_neg hlt2, if_neg (by omega)]
        · intro mk hVk hbk hga hgg
          refine b_X7_layWidths_59 ha (by omega) ?_
          unfold wp_X7_layWidths_59
          obtain ⟨d1, d2, d3, d4, d5, d6, d7, -⟩ := hV.cell hk
          have hv : vp_in (nI k) 40 := vI (by omega) (by omega)
          have eg : ∀ c, growF T what (widF T what s) (s + 1) (k + 1) c = if T 172 k = 0 ∧ T 171 k = s + 1 then upG T (growF T what (widF T what s) (s + 1) k) (wantT T k what - spanN (T 163 4) (widF T what s) (T 169 k) (s + 1)) (T 169 k) (s + 1) c else growF T what (widF T what s) (s + 1) k c := fun _ => rfl
          rw [hVk.mE, clI k (by omega), (hVk.mc hk).2.2.2.2.2.2.2.2.1, (hVk.mc hk).2.2.2.2.1, eq0I (by omega), eqI (a := T 171 k) (by omega) (by omega)]
          simp only [ad1I]
          refine ⟨fun h => absurd h (nI_ge hk (by omega)), fun _ => ⟨hv, fun hgn => ⟨hv, fun hsk => ?_, fun hsk => ?_⟩, fun hgn => ?_⟩⟩
          · refine c_X7_wantOf hVk hk hwh ⟨hv, ?_⟩
            rw [(hVk.mc hk).2.2.1]
            have hsp : spanN (T 163 4) (widF T what s) (T 169 k) (s + 1) ≤ 15 + 1542 * 6 := spanN_bd hV.g (by omega) (fun j _ => by have := (widF_bd hV (what := what) s (T 169 k + j)).1; omega)
            refine c_X7_widthOver hVk (b := widF T what s) ha (by omega) (by omega) (by omega) (fun j hj => hga _ (by omega)) ⟨hv, ?_⟩
            rw [(hVk.mc hk).2.2.1]
            have hw := wantT_le hV hk (what := what)
            refine c_X7_lacks hVk (by omega) (by omega) hw (by omega) (fun c hc => ⟨hgg c hc, by have := (growF_bd hV (what := what) (b := widF T what s) (s := s + 1) (by omega) k (by omega) c).1; omega⟩) (fun m3 hb3 hg3 => ?_)
            have hb3' : butL [a, 178, 179, 180, 184] mk m3 := hb3.mono (by intro b hb; simp only [List.mem_cons, List.not_mem_nil, or_false] at hb ⊢; omega)
            refine ihk m3 (hVk.agr (hb3'.agr hsc)) (hbk.trans hb3') (fun c hc => ?_) (fun c hc => ?_)
            · rw [hb3.1 a (by simp only [List.mem_cons, List.not_mem_nil, or_false]; omega)]; exact hga c hc
            · rw [hg3 c hc, eg c, if_pos ⟨hgn, hsk⟩]
          · exact ihk mk hVk hbk hga (fun c hc => by rw [eg c, if_neg (fun z => hsk z.2)]; exact hgg c hc)
          · exact ihk mk hVk hbk hga (fun c hc => by rw [eg c, if_neg (fun z => hgn z.1)]; exact hgg c hc)
      · intro mz hVz hbz hgz hz0
        refine b_X7_layWidths_33 ha (by omega) ?_
        unfold wp_X7_layWidths_33
        rw [hVz.mC, clI i (by omega)]
        simp only [ad1I]
        refine ⟨fun h => absurd h (nI_ge hi (by omega)), fun _ => ⟨vI (by omega) (by omega), ?_⟩⟩
        rintro _ rfl
        refine ihi _ (VU hVz hmem4) (butL_upI hbz hmem4) (fun c hc => by rw [upI_o _ _ _ _ _ (by omega)]; exact hgz c hc) (fun c hc => ?_)
        rcases Nat.lt_succ_iff_lt_or_eq.mp hc with q | q
        · rw [upI_n _ _ _ _ _ _ (Or.inr (by omega))]; exact hz0 c q
        · subst q; rw [upI_s]; rfl
  refine loop_up (Q := fun i => ∀ mm : vM, Vw mm T → butL [a, 178, 179, 180, 184] m mm → (∀ c, c < i → mm.1 a c = nI 0) → J_X7_layWidths_2 (nI what) a 6 (nI i) mm P) (n := T 163 3) ?_ (fun i hi ihi => ?_) 0 (Nat.zero_le _) m hV butL.rfl' (fun c hc => absurd hc (Nat.not_lt_zero _))
  · intro mm hVm hbm hg
    refine b_X7_layWidths_2 ha (by omega) ?_
    unfold wp_X7_layWidths_2
    rw [hVm.mC]
    exact ⟨fun _ => stage mm hVm hbm hg, fun h => absurd (nI_le (Nat.le_refl _) (by omega)) h⟩
  · intro mm hVm hbm hg
    refine b_X7_layWidths_2 ha (by omega) ?_
    unfold wp_X7_layWidths_2
    rw [hVm.mC, clI i (by omega), ad1I]
    refine ⟨fun h => absurd h (nI_ge hi (by omega)), fun _ => ⟨vI (by omega) (by omega), ?_⟩⟩
    rintro _ rfl
    refine ihi _ (VU hVm hmem) (butL_upI hbm hmem) (fun c hc => ?_)
    rcases Nat.lt_succ_iff_lt_or_eq.mp hc with q | q
    · rw [upI_n _ _ _ _ _ _ (Or.inr (by omega))]; exact hg c q
    · subst q; rw [upI_s]; rfl
end CM
