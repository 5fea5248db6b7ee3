/-! p30: two formulas with the same line answer alike, place by place -/
theorem m_plv {L : List Int} (hb : zbal L) (hl : L.length ≤ 180) (h5 : zpk L ≤ 5) {x y : Int} (hx : 0 ≤ x ∧ x ≤ (L.length : Int)) (hy : 0 ≤ y ∧ y < 6) : ∃ v : Int, (-1000 ≤ v ∧ v ≤ 1000) ∧ ∀ {n : Int} {F : Nat → Int}, zCx 180 n F L → f_L_tryPlace n F x y = some v ∧ f_L_tryPlace0 n F x y = some v := by
  obtain ⟨A, B, e1, e2⟩ := zat (L := L) (x := x) hx
  have hL : L = A ++ B := e1.symm
  obtain ⟨kd, w, P, R, R2, Q, ha⟩ := zar_ex (A := A) (B := B) (by rw [← hL]; exact hb)
  have ho : ∃ o : Int, (A = [] ∧ o = 0) ∨ ∃ A', A = A' ++ [o] := by
    rcases List.eq_nil_or_concat A with h | ⟨A0, m, h⟩
    · exact ⟨0, Or.inl ⟨h, rfl⟩⟩
    · exact ⟨m, Or.inr ⟨A0, by rw [h, List.concat_eq_append]⟩⟩
  obtain ⟨o, ho⟩ := ho
  obtain ⟨⟨g1, g2, g3, g4, g5, g6, g7⟩, -⟩ := zar_chk hb hl h5 hL ha ho
  have h6 : y = 0 ∨ y = 1 ∨ y = 2 ∨ y = 3 ∨ y = 4 ∨ y = 5 := by omega
  rcases h6 with rfl | rfl | rfl | rfl | rfl | rfl
  · exact ⟨_, by omega, fun hC => t_pl (m_pl0 hC hL e2)⟩
  · exact ⟨_, by omega, fun hC => t_pl (m_row hC hL ha e2).1⟩
  · exact ⟨_, by omega, fun hC => t_pl (m_row hC hL ha e2).2.1⟩
  · exact ⟨kd, by omega, fun hC => t_pl (m_row hC hL ha e2).2.2.1⟩
  · exact ⟨w, by omega, fun hC => t_pl (m_row hC hL ha e2).2.2.2⟩
  · exact ⟨_, by omega, fun hC => t_pl (m_pl5 hC hL e2)⟩
section EQ
variable {n ca cn n' ca' cn' : Int} {F Fc F' Fc' : Nat → Int} {L : List Int}
theorem m_eq50 (hC : zCx 180 n F L) (hC' : zCx 180 n' F' L) (hb : zbal L) (h5 : zpk L ≤ 5) {x : Int} (hx : 0 ≤ x ∧ x ≤ (L.length : Int)) {e : Int × Int → Option Int} : ∀ (k fu : Nat) (y : Int), y = 6 - (k : Int) → k ≤ 6 → k < fu → f_L_equal_50 n F n' F' x e fu 1 y = e (1, 6) := by
  intro k
  induction k with
  | zero =>
    intro fu y hy hk hfu
    obtain ⟨fu2, rfl⟩ : ∃ j, fu = j + 1 := ⟨fu - 1, by omega⟩
    rw [f_L_equal_50, z_lt_f (by omega), show y = 6 by omega]
  | succ k ih =>
    intro fu y hy hk hfu
    obtain ⟨fu2, rfl⟩ : ∃ j, fu = j + 1 := ⟨fu - 1, by omega⟩
    obtain ⟨v, hv, hp⟩ := m_plv hb hC.1.2.1 h5 hx (y := y) (by omega)
    have p := (hp hC).2
    have p' := (hp hC').2
    rw [f_L_equal_50]
    simp (disch := omega) only [z_jn, z_lt_t, z_eq_f, p, p', z_bd, z_eq_t]
    exact ih fu2 (y + 1) (by omega) (by omega) (by omega)
theorem m_eq34 (hC : zCx 180 n F L) (hC' : zCx 180 n' F' L) (hb : zbal L) (h5 : zpk L ≤ 5) {e : Int × Int → Option Int} : ∀ (k fu : Nat) (y : Int), y = (L.length : Int) + 1 - (k : Int) → k ≤ L.length + 1 → k < fu → f_L_equal_34 cn n ca Fc F n' F' e fu 1 y = e (1, (L.length : Int) + 1) := by
  have hl := hC.1
  have a1 := (t_ab (cn := cn) (ca := ca) (Fc := Fc) (m_ab1 hC)).2
  intro k
  induction k with
  | zero =>
    intro fu y hy hk hfu
    obtain ⟨fu2, rfl⟩ : ∃ j, fu = j + 1 := ⟨fu - 1, by omega⟩
    rw [f_L_equal_34, a1, z_bd, z_lt_f (by omega), show y = (L.length : Int) + 1 by omega]
  | succ k ih =>
    intro fu y hy hk hfu
    obtain ⟨fu2, rfl⟩ : ∃ j, fu = j + 1 := ⟨fu - 1, by omega⟩
    rw [f_L_equal_34, a1, z_bd, z_lt_t (by omega), z_eq_f (by omega)]
    refine (m_eq50 hC hC' hb h5 (x := y) (by omega) 6 fuel 0 (by omega) (by omega) (by unfold fuel; omega)).trans ?_
    exact ih fu2 (y + 1) (by omega) (by omega) (by omega)
theorem m_equal (hC : zCx 180 n F L) (hC' : zCx 180 n' F' L) (hb : zbal L) (h6 : zcnt L ≤ 60) (h5 : zpk L ≤ 5) : f_L_equal cn n ca Fc F cn' n' ca' Fc' F' = some 1 := by
  have hl := hC.1
  have a0 := (t_ab (cn := cn) (ca := ca) (Fc := Fc) (m_ab0 hC)).1
  have a1 := (t_ab (cn := cn) (ca := ca) (Fc := Fc) (m_ab1 hC)).1
  have b0 := (t_ab (cn := cn') (ca := ca') (Fc := Fc') (m_ab0 hC')).1
  have b1 := (t_ab (cn := cn') (ca := ca') (Fc := Fc') (m_ab1 hC')).1
  unfold f_L_equal
  rw [a0, z_bd, b0, z_bd]
  simp (disch := omega) only [z_jn, z_eq_t, a1, b1, z_bd]
  refine (m_eq34 hC hC' hb h5 (L.length + 1) fuel 0 (by omega) (by omega) (by unfold fuel; omega)).trans ?_
  exact z_gB (Or.inr rfl)
end EQ
