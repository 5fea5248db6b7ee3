/-! p30: what is refused leaves all as it was -/
section RF
variable {o c n ca fr cn wl : Int} {rS rC rM F Fc a b w br sg : Nat → Int} {rF : Nat → Nat → Int} {A S B Lc : List Int}
theorem n_ab6 : f_L_tryAbout cn n ca Fc F 6 = some (-1002) := by
  have e : f_X7_about cn n ca Fc F 6 = some (1, 0) := by
    unfold f_X7_about
    simp (disch := omega) only [z_eq_f]
  unfold f_L_tryAbout
  rw [e, z_bd]
  exact z_tg1x ⟨(by omega : ¬ (1 : Int) = 0), rfl⟩
theorem n_pl {L : List Int} (hC : zCx 180 n F L) {x y : Int} (hx : (-2147483648 ≤ x ∧ x ≤ 2147483647) ∧ ¬ (0 ≤ x ∧ x ≤ (L.length : Int))) : f_L_tryPlace n F x y = some (-1001) := by
  have h180 := hC.1
  have cp := c_hasPlace h180.1 (by omega) hx.1
  rw [decide_eq_false hx.2, zbi_f] at cp
  have e : f_X7_place n F x y = some (3, 0) := by
    unfold f_X7_place
    simp (disch := omega) only [cp, z_bd, z_eq_t]
  unfold f_L_tryPlace
  rw [e, z_bd]
  exact z_tg2x ⟨(by omega : ¬ (3 : Int) = 0), rfl⟩
theorem n_pl6 {L : List Int} (hC : zCx 180 n F L) : f_L_tryPlace n F 0 6 = some (-1002) := by
  have h180 := hC.1
  have cp := m_pl hC (x := 0) (by omega)
  have rs := c_rowStart hC (A := []) (T := L) rfl (x := 0) rfl
  have e : f_X7_place n F 0 6 = some (1, 0) := by
    unfold f_X7_place
    simp (disch := omega) only [cp, rs, z_bd, z_eq_f]
  unfold f_L_tryPlace
  rw [e, z_bd]
  exact z_tg2y ⟨(by omega : ¬ (1 : Int) = 0), (by omega : ¬ (1 : Int) = 3), rfl⟩
theorem n_sel3 : f_L_trySelection n ca fr F 3 = some (-1002) := by
  have e : f_X7_selection n ca fr F 3 = some (1, 0) := by
    unfold f_X7_selection
    simp (disch := omega) only [z_eq_f]
  unfold f_L_trySelection
  rw [e, z_bd]
  exact z_tg1x ⟨(by omega : ¬ (1 : Int) = 0), rfl⟩
theorem n_lin (hC : zCs n ca fr F A S B) (hI : zI A S B) (wl : Int) (br sg : Nat → Int) {x : Int} (hx : x = -1 ∨ x = ((ztx (A ++ (S ++ B))).length : Int)) : ∃ br' sg', f_L_tryLinearAt n wl F br sg x = some (-1001, ((ztx (A ++ (S ++ B))).length : Int), br', sg') := by
  obtain ⟨br', sg', w1, w2, w3⟩ := c_write hC.1 hI.bal hI.2.1 hI.2.2 wl br sg
  refine ⟨br', sg', ?_⟩
  have e : f_X7_linearAt n wl F br sg x = some (3, 0, ((ztx (A ++ (S ++ B))).length : Int), br', sg') := by
    unfold f_X7_linearAt
    by_cases h : x < 0
    · simp (disch := omega) only [w1, z_bd, z_jn, z_lt_t]
    · simp (disch := omega) only [w1, z_bd, z_jn, z_lt_f]
  unfold f_L_tryLinearAt
  rw [e, z_bd]
  exact z_tg1x ⟨(by omega : ¬ (3 : Int) = 0), rfl⟩
theorem n_moveTo {L : List Int} (hC : zCx 180 n F L) : f_L_tryMoveTo n ca fr ((L.length : Int) + 1) = some (-1001, ca, fr) := by
  have h180 := hC.1
  have cp := c_hasPlace h180.1 (by omega) (x := (L.length : Int) + 1) (by omega)
  rw [decide_eq_false (by omega), zbi_f] at cp
  have e : f_X7_moveTo n ca fr ((L.length : Int) + 1) = some (3, 0, ca, fr) := by
    unfold f_X7_moveTo
    simp (disch := omega) only [cp, z_bd, z_eq_t]
  unfold f_L_tryMoveTo
  rw [e, z_bd]
  exact z_tg1x ⟨(by omega : ¬ (3 : Int) = 0), rfl⟩
theorem n_moveBy : f_L_tryMoveBy n ca fr 201 = some (-1002, ca, fr) := by
  have e : f_X7_moveBy n ca fr 201 = some (1, 0, ca, fr) := by
    unfold f_X7_moveBy
    simp (disch := omega) only [z_jn, z_lt_f, z_lt_t]
  unfold f_L_tryMoveBy
  rw [e, z_bd]
  exact z_tg1x ⟨(by omega : ¬ (1 : Int) = 0), rfl⟩
theorem n_type {x : Int} (hb : -2147483648 ≤ x ∧ x ≤ 2147483647) (hx : zsy x = false) : f_L_tryType o c n ca fr F rS rC rM rF x = some (-1002, o, c, n, ca, fr, F, rS, rC, rM, rF) := by
  have cs := c_sy hb
  rw [hx, zbi_f] at cs
  have e : f_X7_type o c n ca fr F rS rC rM rF x = some (1, 0, o, c, n, ca, fr, F, rS, rC, rM, rF) := by
    unfold f_X7_type
    simp (disch := omega) only [cs, z_bd, z_eq_t]
  unfold f_L_tryType
  rw [e, z_bd]
  exact z_tg2x ⟨(by omega : ¬ (1 : Int) = 0), rfl⟩
theorem n_wrap {k : Int} (hk : (-2147483648 ≤ k ∧ k ≤ 2147483647) ∧ ¬ (1 ≤ k ∧ k ≤ 5)) : f_L_tryWrap o c n ca fr F rS rC rM rF k = some (-1002, o, c, n, ca, fr, F, rS, rC, rM, rF) := by
  have on := c_on_f (m := k) hk
  have e : f_X7_wrap o c n ca fr F rS rC rM rF k = some (1, 0, o, c, n, ca, fr, F, rS, rC, rM, rF) := by
    unfold f_X7_wrap
    simp (disch := omega) only [on, z_bd, z_eq_t]
  unfold f_L_tryWrap
  rw [e, z_bd]
  exact z_tg2x ⟨(by omega : ¬ (1 : Int) = 0), rfl⟩
theorem n_replace : f_L_tryReplace o c n ca fr F rS rC rM rF 97 114 = some (-1002, o, c, F, rS, rC, rM, rF) := by
  have c1 := c_sy (x := 97) (by omega)
  have c2 := c_sy (x := 114) (by omega)
  rw [show zsy 97 = true by decide, zbi_t] at c1
  rw [show zsy 114 = false by decide, zbi_f] at c2
  have e : f_X7_replace o c n ca fr F rS rC rM rF 97 114 = some (1, 0, o, c, F, rS, rC, rM, rF) := by
    unfold f_X7_replace
    simp (disch := omega) only [c1, c2, z_bd, z_jn, z_eq_f, z_eq_t]
  unfold f_L_tryReplace
  rw [e, z_bd]
  exact z_tg1x ⟨(by omega : ¬ (1 : Int) = 0), rfl⟩
theorem n_draw3 {L : List Int} (hC : zCx 180 n F L) (hb : zbal L) (h6 : zcnt L ≤ 60) (w a b : Nat → Int) : ∃ a' b' w', f_L_tryDrawing n F a b w 3 = some (-1002, a', b', w') := by
  obtain ⟨w', a', b', g1, -⟩ := c_measure hC hb h6 w a b
  refine ⟨a', b', w', ?_⟩
  have e : f_X7_drawing n F a b w 3 = some (1, 0, a', b', w') := by
    unfold f_X7_drawing
    rw [g1, z_bd]
    simp (disch := omega) only [z_eq_f]
  unfold f_L_tryDrawing
  rw [e, z_bd]
  exact z_tg1x ⟨(by omega : ¬ (1 : Int) = 0), rfl⟩
theorem n_drawn {L : List Int} (hC : zCx 180 n F L) (hb : zbal L) (h6 : zcnt L ≤ 60) {pr pc ph x y : Int} (w a b : Nat → Int) (h : (x = (zbf (zdm L)).1 ∧ y = 0) ∨ (x = 0 ∧ y = (zdm L).2.1 + 1 + (zdm L).2.2)) : ∃ a' b' w', f_L_tryDrawn n pr pc ph F a b w x y = some (-1001, pr, pc, ph, a', b', w') := by
  have h180 := hC.1
  obtain ⟨w', a', b', g1, g2⟩ := c_measure hC hb h6 w a b
  obtain ⟨h1, h2, h3⟩ := g2 [] L [] (by simp) (Or.inl rfl) (Or.inl rfl) hb trivial
  obtain ⟨⟨v1, v2⟩, v3, v4, v5⟩ := zms_bd hb ⟨h1, h2, h3⟩
  simp only [List.length_nil] at h1 h2 h3 v1 v2 v3 v4 v5
  have b1 := c_wd (w := w') (x := 0) 0 rfl (by omega)
  have b2 := c_ln (a := a') (b := b') (x := 0) 0 rfl (by omega)
  refine ⟨a', b', w', ?_⟩
  have e : f_X7_drawn n pr pc ph F a b w x y = some (3, 0, pr, pc, ph, a', b', w') := by
    unfold f_X7_drawn
    rcases h with ⟨e1, e2⟩ | ⟨e1, e2⟩
    · simp (disch := omega) only [g1, z_bd, z_jn, z_lt_f, b1]
    · simp (disch := omega) only [g1, z_bd, z_jn, z_lt_f, z_lt_t, b1, b2]
  unfold f_L_tryDrawn
  rw [e, z_bd]
  exact z_tg1x ⟨(by omega : ¬ (3 : Int) = 0), rfl⟩
theorem n_copy (hC : zCs n ca fr F A [] B) : f_L_tryCopy cn ca fr Fc F = some (-1003, cn, Fc) := by
  have hs := c_hasSel hC
  rw [show decide (([] : List Int) ≠ []) = false from decide_eq_false (by simp), zbi_f] at hs
  have e : f_X7_copy cn ca fr Fc F = some (2, 0, cn, Fc) := by
    unfold f_X7_copy
    simp (disch := omega) only [hs, z_bd, z_eq_t]
  unfold f_L_tryCopy
  rw [e, z_bd]
  exact z_tg1x ⟨(by omega : ¬ (2 : Int) = 0), rfl⟩
theorem n_paste (hn : cn = 0) : f_L_tryPaste cn o c n ca fr Fc F rS rC rM rF = some (-1003, o, c, n, ca, fr, F, rS, rC, rM, rF) := by
  have e : f_X7_paste cn o c n ca fr Fc F rS rC rM rF = some (2, 0, o, c, n, ca, fr, F, rS, rC, rM, rF) := by
    unfold f_X7_paste
    simp (disch := omega) only [z_eq_t]
  unfold f_L_tryPaste
  rw [e, z_bd]
  exact z_tg1x ⟨(by omega : ¬ (2 : Int) = 0), rfl⟩
theorem n_script {tn tc tf : Int} {F2 : Nat → Int} : f_L_tryScript n ca fr tn tc tf F a b w F2 5 0 = some (-1002, tn, tc, tf, a, b, w, F2) ∧ f_L_tryScript n ca fr tn tc tf F a b w F2 1 10000 = some (-1002, tn, tc, tf, a, b, w, F2) := by
  have w1 : f_X7_withoutGroups 10000 1 = some 1 := by
    rw [c_without (by omega) (by omega) (by omega)]; rfl
  constructor
  · have e : f_X7_runScript n ca fr tn tc tf F a b w F2 5 0 = some (1, 0, tn, tc, tf, a, b, w, F2) := by
      unfold f_X7_runScript
      simp (disch := omega) only [z_jn, z_lt_f, z_lt_t]
    unfold f_L_tryScript
    rw [e, z_bd]
    exact z_tg1x ⟨(by omega : ¬ (1 : Int) = 0), rfl⟩
  · have e : f_X7_runScript n ca fr tn tc tf F a b w F2 1 10000 = some (1, 0, tn, tc, tf, a, b, w, F2) := by
      unfold f_X7_runScript
      simp (disch := omega) only [z_jn, z_lt_f, z_dlt_f, z_dlt_t, w1, z_bd]
    unfold f_L_tryScript
    rw [e, z_bd]
    exact z_tg1x ⟨(by omega : ¬ (1 : Int) = 0), rfl⟩
theorem n_sim {tn tc tf : Int} {F2 : Nat → Int} : f_L_trySimulate n ca fr tn tc tf wl F F2 br sg 1 61 = some (-1002, tn, tc, tf, wl, F2, br, sg) := by
  have e : f_X7_simulate n ca fr tn tc tf wl F F2 br sg 1 61 = some (1, 0, tn, tc, tf, wl, F2, br, sg) := by
    unfold f_X7_simulate
    simp (disch := omega) only [z_jn, z_lt_f, z_lt_t]
  unfold f_L_trySimulate
  rw [e, z_bd]
  exact z_tg1x ⟨(by omega : ¬ (1 : Int) = 0), rfl⟩
theorem n_save {fl1 fl2 n1 c1 f1 n2 c2 f2 : Int} {K1 K2 : Nat → Int} : f_L_trySave fl1 n ca fr fl2 n1 c1 f1 F n2 c2 f2 K1 K2 2 = some (-1001, fl1, fl2, n1, c1, f1, n2, c2, f2, K1, K2) := by
  have e : f_X7_save fl1 n ca fr fl2 n1 c1 f1 F n2 c2 f2 K1 K2 2 = some (3, 0, fl1, fl2, n1, c1, f1, n2, c2, f2, K1, K2) := by
    unfold f_X7_save
    simp (disch := omega) only [z_jn, z_lt_f, z_lt_t]
  unfold f_L_trySave
  rw [e, z_bd]
  exact z_tg1x ⟨(by omega : ¬ (3 : Int) = 0), rfl⟩
theorem n_restore {fl1 fl2 n1 c1 f1 n2 c2 f2 : Int} {K1 K2 : Nat → Int} : f_L_tryRestore fl1 c n ca fr fl2 n1 c1 f1 F n2 c2 f2 K1 K2 (-1) = some (-1001, c, n, ca, fr, F) := by
  have e : f_X7_restore fl1 c n ca fr fl2 n1 c1 f1 F n2 c2 f2 K1 K2 (-1) = some (3, 0, c, n, ca, fr, F) := by
    unfold f_X7_restore
    simp (disch := omega) only [z_jn, z_lt_t]
  unfold f_L_tryRestore
  rw [e, z_bd]
  exact z_tg2x ⟨(by omega : ¬ (3 : Int) = 0), rfl⟩
theorem n_append {rl : Int} {rd : Nat → Int} : f_L_tryAppend rl rd 256 = some (-1002, rl, rd) := by
  have e : f_X7_append rl rd 256 = some (1, 0, rl, rd) := by
    unfold f_X7_append
    simp (disch := omega) only [z_jn, z_lt_f, z_lt_t]
  unfold f_L_tryAppend
  rw [e, z_bd]
  exact z_tg2x ⟨(by omega : ¬ (1 : Int) = 0), rfl⟩
end RF
