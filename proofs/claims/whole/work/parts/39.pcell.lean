def seen (T : tT) (r c w d e k : Nat) : Prop := ∃ r' c', ((r' < d ∧ c' < w) ∨ (r' = d ∧ c' < e)) ∧ onT T k (r + r') (c + c')
section PCELL
variable {m m1 : vM} {T : tT}
theorem seen_row {r c w d k : Nat} : seen T r c w d w k ↔ seen T r c w (d + 1) 0 k := by
  unfold seen
  constructor
  · rintro ⟨r', c', h, ho⟩
    exact ⟨r', c', by omega, ho⟩
  · rintro ⟨r', c', h, ho⟩
    exact ⟨r', c', by omega, ho⟩
theorem seen_col {r c w d e k : Nat} : (seen T r c w d e k ∨ onT T k (r + d) (c + e)) ↔ seen T r c w d (e + 1) k := by
  unfold seen
  constructor
  · rintro (⟨r', c', h, ho⟩ | ho)
    · exact ⟨r', c', by omega, ho⟩
    · exact ⟨d, e, by omega, ho⟩
  · rintro ⟨r', c', h, ho⟩
    by_cases z : r' = d ∧ c' = e
    · obtain ⟨rfl, rfl⟩ := z
      exact Or.inr ho
    · exact Or.inl ⟨r', c', by omega, ho⟩
theorem seen_all {r c h w k : Nat} (hV : Vw m T) (hk : k < T 163 7) (hh : 1 ≤ h) (hw : 1 ≤ w) : seen T r c w h 0 k ↔ (T 172 k = 0 ∧ ovl T k r c h w) := by
  obtain ⟨d1, d2, d3, d4, d5, d6, d7, -⟩ := hV.cell hk
  unfold seen onT lies ovl
  constructor
  · rintro ⟨r', c', z, ho⟩
    omega
  · rintro ⟨z, ho⟩
    refine ⟨T 168 k - r, T 169 k - c, by omega, z, ?_, ?_, ?_⟩
    · by_cases q : r ≤ T 168 k <;> omega
    · by_cases q : c ≤ T 169 k <;> omega
    · by_cases q : c ≤ T 169 k <;> omega
theorem c_X7_cell86 (hV : Vw m T) {x1 : Int32} {r c h w : Nat} (hr : r + h ≤ 16) (hc : c + w ≤ 6) (hh : 1 ≤ h) (hw : 1 ≤ w) {P : Int32 → vM → Prop}
    (hp : ∀ x, Lst (fun k => T 172 k = 0 ∧ ovl T k r c h w) (T 163 7) x → ∀ A B : Int32 → Prop, True → wp_X7_cell_86 x1 (nI r) (nI c) (nI h) (nI w) x (nI (r + h)) m P) : J_X7_cell_86 x1 (nI r) (nI c) (nI h) (nI w) (-9) (nI r) m P := by
  have h40 := hV.E40
  refine loop_up (Q := fun d => ∀ x, Lst (fun k => seen T r c w d 0 k) (T 163 7) x → J_X7_cell_86 x1 (nI r) (nI c) (nI h) (nI w) x (nI (r + d)) m P) (n := h) ?_ (fun d hd ih => ?_) 0 (Nat.zero_le _) (-9) (Or.inr ⟨fun k hk => ?_, rfl⟩)
  · intro x hx
    exact b_X7_cell_86 (hp x (hx.iff (fun k hk => seen_all hV hk hh hw)) (fun _ => True) (fun _ => True) trivial)
  · intro x hx
    refine b_X7_cell_86 ?_
    unfold wp_X7_cell_86
    rw [adI]
    refine ifn (nI_ge (by omega) (by omega)) ?_
    refine loop_up (Q := fun e => ∀ x, Lst (fun k => seen T r c w d e k) (T 163 7) x → J_X7_cell_98 x1 (nI r) (nI c) (nI h) (nI w) x (nI (r + d)) (nI (c + e)) m P) (n := w) ?_ (fun e he ihe => ?_) 0 (Nat.zero_le _) x hx
    · intro y hy
      refine b_X7_cell_98 ?_
      unfold wp_X7_cell_98
      rw [adI, ad1I]
      refine ifs (nI_le (Nat.le_refl _) (by omega)) ?_
      exact ih y (hy.iff (fun k _ => seen_row))
    · intro y hy
      refine b_X7_cell_98 ?_
      unfold wp_X7_cell_98
      rw [adI]
      simp only [ad1I]
      refine ifn (nI_ge (by omega) (by omega)) ?_
      refine c_X7_cellOn hV (by omega) (by omega) (fun v hv => ?_)
      obtain ⟨o1, o2⟩ := Lst.or (by omega) hy hv
      refine ife (fun e9 => ihe y ((o1 e9).iff (fun k _ => seen_col))) (fun e9 => ?_)
      obtain ⟨o3, o4⟩ := o2 e9
      refine ife (fun q9 => ihe v ((o3 q9).iff (fun k _ => seen_col))) (fun q9 => ?_)
      obtain ⟨o5, o6⟩ := o4 q9
      exact ife (fun z => ihe y ((o5 z).iff (fun k _ => seen_col))) (fun z => ihe v ((o6 z).iff (fun k _ => seen_col)))
  · unfold seen
    rintro ⟨r', c', z, _⟩
    omega
theorem lt1 {x : Int32} : x < 1 ∨ ∃ n, 1 ≤ n ∧ n < 2 ^ 31 ∧ x = nI n := by
  rcases int_split x with h | ⟨n, hn, rfl⟩
  · exact Or.inl (neg_lt (n := 1) h (by decide))
  · rcases Nat.eq_zero_or_pos n with h | h
    · subst h; exact Or.inl (by decide)
    · exact Or.inr ⟨n, h, hn, rfl⟩
theorem nlt1 {n : Nat} (h : 1 ≤ n) (hn : n < 2 ^ 31) : ¬ nI n < 1 := nI_nlt (b := 1) (a := n) h hn
theorem lt1_not {x : Int32} (h : x < 1) : ¬ (1 : Int32) ≤ x := by
  rw [Int32.lt_iff_toInt_lt] at h
  rw [Int32.le_iff_toInt_le]
  omega
/-- the clash on the component's side, then on the check's -/
theorem InvT.clash (hI : InvT m T) {x : Int32} : InvT (meetM 6 (upI (tellM 6 (upI m 0 6 x)) 163 18 x)) T := by
  have hE := hI.1.E40
  refine butO.fnd hI ?_ ?_ ?_
  · exact (((((butO.rfl'.upI rfl).upI rfl).upI rfl).upI rfl).upI rfl).upI rfl
  · exact (((((hI.2.1.upI hE (by omega)).upI hE (by omega)).upI hE (by omega)).upI hE (by omega)).upI hE (by omega)).upI hE (by omega)
  · obtain ⟨a1, a2, a3, a4⟩ := hI.2.2.1
    unfold meetM tellM
    refine ⟨?_, fun g x y => ?_, ?_, ?_⟩
    · rw [upI_o _ _ _ _ _ (by decide), upI_o _ _ _ _ _ (by decide), upI_o _ _ _ _ _ (by decide), upI_o _ _ _ _ _ (by decide), upI_s, upI_o _ _ _ _ _ (by decide), upI_s]
    · have e := a2 g x y
      rw [upI_o _ _ _ _ _ (by decide), upI_o _ _ _ _ _ (by decide), upI_o _ _ _ _ _ (by decide)]
      by_cases hg : g = 6
      · subst hg
        rw [upI_s, upI_s, upI_o _ _ _ _ _ (by decide), upI_o _ _ _ _ _ (by decide), upI_o _ _ _ _ _ (by decide), upI_o _ _ _ _ _ (by decide), upI_o _ _ _ _ _ (by decide), e]
      · rw [upI_n _ _ _ _ _ _ (Or.inr hg), upI_n _ _ _ _ _ _ (Or.inr hg), upI_o _ _ _ _ _ (by decide), upI_o _ _ _ _ _ (by decide), upI_o _ _ _ _ _ (by decide), upI_o _ _ _ _ _ (by decide), upI_o _ _ _ _ _ (by decide), upI_o _ _ _ _ _ (by decide), upI_o _ _ _ _ _ (by decide), e]
    · rw [upI_o _ _ _ _ _ (by decide), upI_o _ _ _ _ _ (by decide), upI_o _ _ _ _ _ (by decide), upI_o _ _ _ _ _ (by decide), upI_n _ _ _ _ _ _ (Or.inr (by decide)), upI_s, upI_o _ _ _ _ _ (by decide), upI_n _ _ _ _ _ _ (Or.inr (by decide)), upI_s]
    · rw [upI_o _ _ _ _ _ (by decide), upI_o _ _ _ _ _ (by decide), upI_o _ _ _ _ _ (by decide), upI_o _ _ _ _ _ (by decide), upI_n _ _ _ _ _ _ (Or.inr (by decide)), upI_n _ _ _ _ _ _ (Or.inr (by decide)), upI_o _ _ _ _ _ (by decide), upI_n _ _ _ _ _ _ (Or.inr (by decide)), upI_n _ _ _ _ _ _ (Or.inr (by decide)), upI_o _ _ _ _ _ (by decide), upI_o _ _ _ _ _ (by decide), upI_o _ _ _ _ _ (by decide), a4]
end PCELL
