/-! p30: two editors in the same state are alike -/
section AL
variable {n ca fr cn n' ca' fr' cn' wl wl' : Int} {F Fc F' Fc' a b w br sg a' b' w' br' sg' : Nat → Int} {A S B Lc : List Int}
theorem m_sel (hI : zI A S B) (hC : zCs n ca fr F A S B) : f_X7_selection n ca fr F 0 = some (0, (zni 0 S : Int)) ∧ f_X7_selection n ca fr F 1 = some (0, (zcnt S : Int)) ∧ f_X7_selection n ca fr F 2 = some (0, (A.length : Int)) := by
  have hl := hI.len
  have hfr : fr = (A.length : Int) := hC.2.2
  have e1 := c_rowItems hC.1 (A := A) (S := S) (B := B) rfl hC.2.2 hC.2.1
  have e2 := c_count hC.1 (A := A) (S := S) (B := B) rfl hC.2.2 hC.2.1
  have hb := zni_b S 0
  have hb2 := zcnt_b S
  refine ⟨?_, ?_, ?_⟩
  · unfold f_X7_selection f_X0_selectedOfRow
    simp (disch := omega) only [z_eq_t, e1, z_bd]
  · unfold f_X7_selection f_X0_selectedInAll
    simp (disch := omega) only [z_eq_t, z_eq_f, e2, z_bd]
  · unfold f_X7_selection
    simp (disch := omega) only [z_eq_t, z_eq_f, hfr]
theorem t_sl {x v : Int} (h : f_X7_selection n ca fr F x = some (0, v)) : f_L_trySelection n ca fr F x = some v ∧ f_L_trySelection0 n ca fr F x = some v := by
  unfold f_L_trySelection f_L_trySelection0
  rw [h, z_bd, z_bd]
  exact ⟨z_tg1 rfl, z_tg1 rfl⟩
theorem t_dr0 {k v : Int} {w2 a2 b2 : Nat → Int} (h : f_X7_drawing n F a b w k = some (0, v, a2, b2, w2)) : f_L_tryDrawing0 n F a b w k = some (v, a2, b2, w2) := by
  unfold f_L_tryDrawing0
  rw [h, z_bd]
  exact z_tg1 rfl
theorem m_abv (hI : zI A S B) (hK : zK Lc) (hl9 : Lc.length ≤ 180) {k : Int} (hk : 0 ≤ k ∧ k ≤ 5) : ∃ v : Int, (-1000 ≤ v ∧ v ≤ 1000) ∧ ∀ {n ca fr cn : Int} {F Fc : Nat → Int}, zCs n ca fr F A S B → zCx 180 cn Fc Lc → f_L_tryAbout cn n ca Fc F k = some v ∧ f_L_tryAbout0 cn n ca Fc F k = some v := by
  have hl := hI.len
  have lL : (A ++ (S ++ B)).length = A.length + (S.length + B.length) := by simp
  have h1 := hI.2.1
  have h2 := hI.2.2
  have h3 := zpk_0 (A ++ (S ++ B))
  have h4 := zes_len (A ++ (S ++ B))
  have h5 := hK.2.1
  have h6 : k = 0 ∨ k = 1 ∨ k = 2 ∨ k = 3 ∨ k = 4 ∨ k = 5 := by omega
  rcases h6 with rfl | rfl | rfl | rfl | rfl | rfl
  · exact ⟨_, by omega, fun hC hc => t_ab (m_ab0 hC.1)⟩
  · exact ⟨_, by omega, fun hC hc => t_ab (m_ab1 hC.1)⟩
  · refine ⟨(A.length : Int) + S.length, by omega, fun hC hc => t_ab ?_⟩
    rw [← hC.2.1]
    exact m_ab2
  · exact ⟨_, by omega, fun hC hc => t_ab (m_ab3 hC.1)⟩
  · exact ⟨_, by omega, fun hC hc => t_ab (m_ab4 hC.1)⟩
  · exact ⟨_, by omega, fun hC hc => t_ab (m_ab5 hc)⟩
theorem m_slv (hI : zI A S B) {k : Int} (hk : 0 ≤ k ∧ k ≤ 2) : ∃ v : Int, (-1000 ≤ v ∧ v ≤ 1000) ∧ ∀ {n ca fr : Int} {F : Nat → Int}, zCs n ca fr F A S B → f_L_trySelection n ca fr F k = some v ∧ f_L_trySelection0 n ca fr F k = some v := by
  have hl := hI.len
  have hb := zni_b S 0
  have hb2 := zcnt_b S
  have h6 : k = 0 ∨ k = 1 ∨ k = 2 := by omega
  rcases h6 with rfl | rfl | rfl
  · exact ⟨(zni 0 S : Int), by omega, fun hC => t_sl (m_sel hI hC).1⟩
  · exact ⟨(zcnt S : Int), by omega, fun hC => t_sl (m_sel hI hC).2.1⟩
  · exact ⟨(A.length : Int), by omega, fun hC => t_sl (m_sel hI hC).2.2⟩
theorem m_dwv {L : List Int} (hb : zbal L) (h6 : zcnt L ≤ 60) (hl : L.length ≤ 180) {k : Int} (hk : 0 ≤ k ∧ k ≤ 2) : ∃ v : Int, (-1000 ≤ v ∧ v ≤ 1000) ∧ ∀ {n : Int} {F : Nat → Int} (w a b : Nat → Int), zCx 180 n F L → ∃ a2 b2 w2, f_L_tryDrawing n F a b w k = some (v, a2, b2, w2) ∧ f_L_tryDrawing0 n F a b w k = some (v, a2, b2, w2) := by
  obtain ⟨⟨k1, k2⟩, k3⟩ := zdm_b hb
  obtain ⟨o1, o2, o3⟩ := zdm_o hb
  obtain ⟨f1, f2, f3, f4⟩ := zbf_1 (zdm_o hb)
  have h6' : k = 0 ∨ k = 1 ∨ k = 2 := by omega
  rcases h6' with rfl | rfl | rfl
  · refine ⟨(zbf (zdm L)).1, by omega, fun {n} {F} w a b hC => ?_⟩
    obtain ⟨w2, a2, b2, -, d, -, -⟩ := m_drawing hC hb h6 w a b
    exact ⟨a2, b2, w2, t_dr d, t_dr0 d⟩
  · refine ⟨(zdm L).2.1 + 1 + (zdm L).2.2, by omega, fun {n} {F} w a b hC => ?_⟩
    obtain ⟨w2, a2, b2, -, -, d, -⟩ := m_drawing hC hb h6 w a b
    exact ⟨a2, b2, w2, t_dr d, t_dr0 d⟩
  · refine ⟨(zdm L).2.1, by omega, fun {n} {F} w a b hC => ?_⟩
    obtain ⟨w2, a2, b2, -, -, -, d⟩ := m_drawing hC hb h6 w a b
    exact ⟨a2, b2, w2, t_dr d, t_dr0 d⟩
theorem m_27 (hI : zI A S B) (hK : zK Lc) (hl9 : Lc.length ≤ 180) (hC : zCs n ca fr F A S B) (hC' : zCs n' ca' fr' F' A S B) (hc : zCx 180 cn Fc Lc) (hc' : zCx 180 cn' Fc' Lc) : ∀ (k fu : Nat) (y : Int) (a b w a' b' w' : Nat → Int), y = 6 - (k : Int) → k ≤ 6 → k < fu → ∃ a2 b2 w2 a3 b3 w3 : Nat → Int, ∀ (e : (Nat → Int) × (Nat → Int) × (Nat → Int) × (Nat → Int) × (Nat → Int) × (Nat → Int) × Int × Int → Option (Int × Int × (Nat → Int) × (Nat → Int) × (Nat → Int) × (Nat → Int) × (Nat → Int) × Int × (Nat → Int) × (Nat → Int) × (Nat → Int) × (Nat → Int) × (Nat → Int))), f_L_alike_27 cn n ca fr Fc F cn' n' ca' fr' Fc' F' e fu a b w a' b' w' 1 y = e (a2, b2, w2, a3, b3, w3, 1, 6)
  | k, 0, y, a, b, w, a', b', w', hy, hk, hf => by omega
  | 0, fu + 1, y, a, b, w, a', b', w', hy, hk, hf => by
    have ey : y = 6 := by omega
    subst ey
    refine ⟨a, b, w, a', b', w', fun e => ?_⟩
    simp (disch := omega) only [f_L_alike_27, z_lt_f]
  | k + 1, fu + 1, y, a, b, w, a', b', w', hy, hk, hf => by
    have hl := hI.len
    have lL : (A ++ (S ++ B)).length = A.length + (S.length + B.length) := by simp
    have ht : 0 ≤ y.tmod 3 ∧ y.tmod 3 ≤ 2 := by
      rw [Int.tmod_eq_emod_of_nonneg (by omega)]
      omega
    obtain ⟨v1, p1, p2⟩ := m_abv hI hK hl9 (k := y) (by omega)
    obtain ⟨v2, q1, q2⟩ := m_slv hI ht
    obtain ⟨v3, r1, r2⟩ := m_dwv hI.bal hI.2.1 (by omega) ht
    obtain ⟨a2, b2, w2, -, d1⟩ := r2 w a b hC.1
    obtain ⟨a3, b3, w3, -, d2⟩ := r2 w' a' b' hC'.1
    have s1 := (p2 hC hc).2
    have s2 := (p2 hC' hc').2
    have s3 := (q2 hC).2
    have s4 := (q2 hC').2
    obtain ⟨a4, b4, w4, a5, b5, w5, ih⟩ := m_27 hI hK hl9 hC hC' hc hc' k fu (y + 1) a2 b2 w2 a3 b3 w3 (by omega) (by omega) (by omega)
    refine ⟨a4, b4, w4, a5, b5, w5, fun e => ?_⟩
    simp (disch := omega) only [f_L_alike_27, z_lt_t, z_jn, z_eq_f, z_eq_t, s1, s2, s3, s4, d1, d2, z_bd, z_gR]
    exact ih e
theorem m_alike (hI : zI A S B) (hK : zK Lc) (hC : zCs n ca fr F A S B) (hC' : zCs n' ca' fr' F' A S B) (hc : zCx 180 cn Fc Lc) (hc' : zCx 180 cn' Fc' Lc) : ∃ r, f_L_alike cn n ca fr wl Fc F a b w br sg cn' n' ca' fr' wl' Fc' F' a' b' w' br' sg' = some r ∧ r.1 = 1 := by
  have he := m_equal (cn := cn) (ca := ca) (Fc := Fc) (cn' := cn') (ca' := ca') (Fc' := Fc') hC.1 hC'.1 hI.bal hI.2.1 hI.2.2
  obtain ⟨br2, sg2, l1, -, l9⟩ := m_linLen hC.1 hI.bal hI.2.1 hI.2.2 wl br sg
  obtain ⟨br3, sg3, l2, -, -⟩ := m_linLen hC'.1 hI.bal hI.2.1 hI.2.2 wl' br' sg'
  obtain ⟨a2, b2, w2, a3, b3, w3, g⟩ := m_27 hI hK hc.1.2.1 hC hC' hc hc' 6 fuel 0 a b w a' b' w' rfl (Nat.le_refl _) (by unfold fuel; omega)
  refine ⟨(1, ((ztx (A ++ (S ++ B))).length : Int), a2, b2, w2, br2, sg2, ((ztx (A ++ (S ++ B))).length : Int), a3, b3, w3, br3, sg3), ?_, rfl⟩
  unfold f_L_alike
  simp (disch := omega) only [he, z_bd, z_jn, z_eq_f, z_eq_t, l1, l2]
  exact (g _).trans (z_gB (Or.inr rfl))
end AL
