/-! p30: the empty editor's first answers -/
section FI
variable {F : Nat → Int}
theorem m_vert0 (hC : zCx 180 0 F []) : f_X7_moveVertically 0 0 0 F 1 = some (-9, 0, 0) := by
  have rs : f_X3_rowStart 180 0 F 0 = some 0 := c_rowStart hC (A := []) (T := []) rfl (x := 0) rfl
  have kd := m_kd0 (n := 0) (F := F)
  have mk := hC.out (x := 0) (by simp)
  obtain ⟨fu, hfu⟩ : ∃ fu, fuel = fu + 1 := ⟨fuel - 1, by unfold fuel; omega⟩
  have e : f_X0_verticalGoal 0 0 F 1 = some (-9) := by
    unfold f_X0_verticalGoal f_X0_goalInFraction
    rw [hfu]
    simp (disch := omega) only [f_X0_goalInFraction_7, z_lt_f, rs, kd, mk, z_bd, z_jn, z_eq_t, z_eq_f]
  unfold f_X7_moveVertically
  simp (disch := omega) only [e, z_bd, z_jn, z_eq_t]
theorem t_dn {n pr pc ph x y : Int} {a b w : Nat → Int} {z : Int × Int × Int × Int × (Nat → Int) × (Nat → Int) × (Nat → Int)} (h : f_L_tryDrawn0 n pr pc ph F a b w x y = some z) : f_L_tryDrawn n pr pc ph F a b w x y = some z := by
  unfold f_L_tryDrawn0 at h
  unfold f_L_tryDrawn
  cases hX : f_X7_drawn n pr pc ph F a b w x y with
  | none =>
    rw [hX] at h
    exact absurd h (by simp [bd])
  | some r =>
    rw [hX, z_bd] at h
    rw [z_bd]
    by_cases h0 : r.1 = 0
    · rw [z_tg1 h0] at h ⊢
      exact h
    · by_cases h3 : r.1 = 3
      · rw [z_tg1x ⟨h0, h3⟩] at h
        cases h
      · unfold tg1 at h
        rw [if_neg h0, if_neg h3] at h
        cases h
theorem m_drawn00 (hC : zCx 180 0 F []) (pr pc ph : Int) (a b w : Nat → Int) : ∃ (r' c' h' : Int) (a' b' w' : Nat → Int), f_L_tryDrawn 0 pr pc ph F a b w 0 0 = some (63, r', c', h', a', b', w') := by
  have hb : zbal ([] : List Int) := rfl
  have h6 : zcnt ([] : List Int) ≤ 60 := by decide
  have h5 : zpk ([] : List Int) ≤ 5 := by rw [zpk_nil]; omega
  obtain ⟨w', a', b', g1, g2⟩ := c_measure hC hb h6 w a b
  obtain ⟨g, q1, q2, q3⟩ := m_drawn hC h5 hb h6 g2
  rw [zdm_nil] at q1 q3
  obtain ⟨r', c', h', e⟩ := q1 0 0 pr pc ph ⟨Int.le_refl 0, by decide⟩ ⟨Int.le_refl 0, by decide⟩
  have hz : (zis9 (g 0 0) 63 + 0) + 0 = 1 := q3 63 ⟨by omega, by omega, by omega, by omega⟩
  have hg : g 0 0 = 63 := by
    unfold zis9 at hz
    by_cases h : g 0 0 = 63
    · exact h
    · rw [if_neg h] at hz
      cases hz
  have e2 := t_dn e
  have e3 : g 0 (0 - ((0 : Int), (0 : Int), (0 : Int)).2.1) = 63 := hg
  rw [e3] at e2
  refine ⟨r', c', h', a', b', w', ?_⟩
  rw [← e2]
  unfold f_L_tryDrawn f_X7_drawn
  rw [g1, c_measure_id hC hb h6 g2]
/-- no step back, no growth in the empty editor -/
theorem m_grow00 {n ca fr : Int} (hC : zCs n ca fr F [] [] []) (hI : zI [] [] []) : f_L_tryGrow n ca fr F = some (-1003, ca, fr) := by
  obtain ⟨k, h1, -⟩ := zgf_ex hI
  rcases m_grow hI hC h1 with ⟨h2, -⟩ | ⟨A', S', B', ca', fr', k', -, -, -, h3, h4, -⟩
  · exact h2
  · exfalso
    simp only [List.append_nil, List.append_eq_nil_iff] at h4
    exact h3 h4.2.1
end FI
