/-! a cell is made: its letters and its lines behind it -/
theorem k_X0_init {i : Nat} {sh : vSh} {m : vM} {P : Option Value → vSh → vM → Prop} {cs : Nat → Nat} (hi : i < 40) (hs : sh (cA i) = (6, 11, cs))
    (hp : P none (upS (upS (upS (upS sh (cA i + 1) (0, 12, vz)) (cA i) (setC (6, 11, cs) 9 (cA i + 1 + 2))) (cA i + 2) (0, 252, vz)) (cA i) (setC (setC (6, 11, cs) 9 (cA i + 1 + 2)) 10 (cA i + 2 + 2))) (upZ (upZ m (cA i + 1)) (cA i + 2))) :
    Ev mX0_init 1 14 (cA i + 3) [.ref (cA i)] (cA i + 1) sh m P := by
  have hc : cA i + 3 < 1000 := by unfold cA; omega
  refine Ev.of rfl (Nat.le_of_ble_eq_true rfl) ?_
  refine vJ.aload_n dX0_init_0 rfl rfl ?_
  refine vJ.objInit dX0_init_1 ml_RX0_3 im_objectInit co_Object (by decide) (by decide) ?_
  refine vJ.aload_n dX0_init_4 rfl rfl ?_
  refine vJ.bipush dX0_init_5 (v := 12) rfl ?_
  refine vJ.newaI (N := 12) dX0_init_7 (by decide) (by decide) (by decide) ac_int (by omega) (by omega) (by rw [sh_L hi]) ?_ ?_
  · exact ⟨fa_cons (vrf_ref (by omega)) fa_nil, fa_cons (vrf_ref (by omega)) fa_nil⟩
  refine vJ.putF (ci := 0) (k := 9) dX0_init_9 (cs := cs) (by rw [show upS sh (cA i + 1) (0, 12, vz) (cA i) = sh (cA i) from if_neg (by omega)]; exact hs) (by omega) (by omega) rfl inX0 tyX0 tyX0_ok nmX0 (by decide) rfl rfl rfl fl_RX0_9 (fun _ => ⟨rfl, rfl⟩) ?_
  have e1 : upS sh (cA i + 1) (0, 12, vz) (cA i) = (6, 11, cs) := (if_neg (by omega)).trans hs
  rw [e1]
  refine vJ.aload_n dX0_init_12 rfl rfl ?_
  refine vJ.sipush dX0_init_13 (v := 252) rfl ?_
  refine vJ.newaI (N := 252) dX0_init_16 (by decide) (by decide) (by decide) ac_int (by omega) (by omega) (by rw [sh_K hi]) ?_ ?_
  · exact ⟨fa_cons (vrf_ref (by omega)) fa_nil, fa_cons (vrf_ref (by omega)) fa_nil⟩
  have e2 : upS (upS (upS sh (cA i + 1) (0, 12, vz)) (cA i) (setC (6, 11, cs) 9 (cA i + 1 + 2))) (cA i + 2) (0, 252, vz) (cA i) = setC (6, 11, cs) 9 (cA i + 1 + 2) := (if_neg (by omega)).trans (if_pos rfl)
  refine vJ.putF (ci := 0) (N := 11) (cs := fun j => if j = 9 then cA i + 1 + 2 else cs j) (k := 10) dX0_init_18 e2 (by omega) (by omega) rfl inX0 tyX0 tyX0_ok nmX0 (by decide) rfl rfl rfl fl_RX0_15 (fun _ => ⟨rfl, rfl⟩) ?_
  rw [e2]
  exact vJ.vreturn dX0_init_21 rfl rfl hp
theorem c_X0_init {i : Nat} {sh : vSh} {m : vM} {P : Option Value → vSh → vM → Prop} {cs : Nat → Nat} (hi : i < 40) (hs : sh (cA i) = (6, 11, cs)) (hcs : ∀ j, j ≠ 9 → j ≠ 10 → cs j = 0)
    (hp : ∀ sh' m', (∀ k, k < cA i → sh' k = sh k ∧ m'.1 k = m.1 k ∧ m'.2 k = m.2 k) → (∀ j, j < 3 → sh' (cA i + j) = SH (cA i + j)) → m'.1 (cA i) = m.1 (cA i) → (∀ j, m'.1 (cA i + 1) j = 0) → (∀ j, m'.1 (cA i + 2) j = 0) → P none sh' m') :
    Ev mX0_init 1 14 (cA i + 3) [.ref (cA i)] (cA i + 1) sh m P := by
  refine k_X0_init hi hs (hp _ _ (fun k hk => ⟨?_, ?_, ?_⟩) (fun j hj => ?_) ?_ (fun j => ?_) (fun j => ?_))
  · unfold upS
    rw [if_neg (by omega), if_neg (by omega), if_neg (by omega), if_neg (by omega)]
  · unfold upZ
    show (if k = cA i + 2 then _ else if k = cA i + 1 then _ else m.1 k) = m.1 k
    rw [if_neg (by omega), if_neg (by omega)]
  · unfold upZ
    show (if k = cA i + 2 then _ else if k = cA i + 1 then _ else m.2 k) = m.2 k
    rw [if_neg (by omega), if_neg (by omega)]
  · unfold upS
    rcases Nat.lt_or_ge j 1 with h | h
    · obtain rfl : j = 0 := by omega
      rw [Nat.add_zero, if_pos rfl, sh_C hi]
      show (6, 11, _) = (6, 11, csC i)
      congr 2
      funext q
      show (if q = 10 then cA i + 2 + 2 else if q = 9 then cA i + 1 + 2 else cs q) = if q = 9 then cA i + 3 else if q = 10 then cA i + 4 else 0
      by_cases h10 : q = 10
      · rw [if_pos h10, if_neg (by omega), if_pos h10]
      · by_cases h9 : q = 9
        · rw [if_neg h10, if_pos h9, if_pos h9]
        · rw [if_neg h10, if_neg h9, if_neg h9, if_neg h10, hcs q h9 h10]
    · rcases Nat.lt_or_ge j 2 with h2 | h2
      · obtain rfl : j = 1 := by omega
        rw [if_neg (by omega), if_neg (by omega), if_neg (by omega), if_pos rfl, sh_L hi]
      · obtain rfl : j = 2 := by omega
        rw [if_neg (by omega), if_pos rfl, sh_K hi]
  · unfold upZ
    show (if cA i = cA i + 2 then _ else if cA i = cA i + 1 then _ else m.1 (cA i)) = m.1 (cA i)
    rw [if_neg (by omega), if_neg (by omega)]
  · unfold upZ
    show (if cA i + 1 = cA i + 2 then _ else if cA i + 1 = cA i + 1 then fun _ => 0 else m.1 (cA i + 1)) j = 0
    rw [if_neg (by omega), if_pos rfl]
  · unfold upZ
    show (if cA i + 2 = cA i + 2 then fun _ => 0 else _) j = 0
    rw [if_pos rfl]
