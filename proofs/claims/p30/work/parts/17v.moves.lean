/-! p30: pasted, moved, extended, grown -/
section MV
variable {o c n ca fr cn : Int} {rS rC rM F Fc : Nat → Int} {rF : Nat → Nat → Int} {A S B Lc : List Int}
theorem m_paste (hH : zHh o c rS rC rM rF) (hI : zI [] [] []) (hC : zCs n ca fr F [] [] []) (hK : zK Lc) (hc : zCx 180 cn Fc Lc) (hn : Lc ≠ []) : ∃ o' c' n' ca' F' rS' rC' rM' rF', f_L_tryPaste cn o c n ca fr Fc F rS rC rM rF = some ((zcnt Lc : Int), o', c', n', ca', ca', F', rS', rC', rM', rF') ∧ zCs n' ca' ca' F' Lc [] [] ∧ zI Lc [] [] ∧ zHh o' c' rS' rC' rM' rF' := by
  have hcl := hK.len
  have hcn : cn = (Lc.length : Int) := hc.1.1
  have hn0 : 0 < Lc.length := List.length_pos_iff.mpr hn
  have c1 := c_count hc (A := []) (S := Lc) (B := []) (by simp) (x := 0) (y := cn) rfl (by rw [hcn]; simp)
  have c2 := c_depth hc (A := []) (S := Lc) (B := []) (by simp) (x := 0) (y := cn) rfl (by rw [hcn]; simp)
  have hcK := hK.2.1
  have hpK := hK.2.2
  have hpK0 := zpk_0 Lc
  have hz0 : zcnt (([] : List Int) ++ []) = 0 := rfl
  have hl0 : zlv ([] : List Int) = 0 := rfl
  have cch : f_X0_canHoldAll 180 n ca fr F cn Fc = some 1 := by
    unfold f_X0_canHoldAll f_X3_allItems
    rw [c1, z_bd, z_bd, c2, z_bd, c_ch hI hC (by unfold zpk at hpK hpK0; omega), z_bd]
    rw [decide_eq_true (by rw [hz0, hl0]; unfold zpk at hpK; omega), zbi_t]
    rfl
  have hI' : zI Lc [] [] := by
    have := hI.pst hK (by rw [hz0]; omega) (by rw [hl0]; omega)
    simpa using this
  obtain ⟨F1, p1, p2⟩ := c_rmSel hC
  obtain ⟨F2, p3, p4⟩ := c_insertAll (N := 180) (n := n - ([] : List Int).length) (F := F1) (X := []) (Z := []) (by simpa using p2.1) hc (x := fr) p2.2.2 (by simp; omega)
  have cput : f_X0_putAll 180 n ca fr F cn Fc = some (n - ([] : List Int).length + cn, fr + cn, fr + cn, F2) := by
    unfold f_X0_putAll f_X0_putCaret
    rw [p1, z_bd, p3, z_bd, z_bd]
  have hCn : zCs (n - ([] : List Int).length + cn) (fr + cn) (fr + cn) F2 Lc [] [] := ⟨by simpa using p4, by rw [hcn, hC.2.2]; simp, by rw [hcn, hC.2.2]; simp⟩
  obtain ⟨o', c', rS', rC', rM', rF', g1, g2⟩ := m_rem hH hI hC
  have ca1 := c_all hCn.1
  have e1 : (zcnt (Lc ++ (([] : List Int) ++ [])) : Int) = zcnt Lc := by simp
  rw [e1] at ca1
  refine ⟨o', c', _, _, F2, rS', rC', rM', rF', ?_, hCn, hI', g2⟩
  have e2 : f_X7_paste cn o c n ca fr Fc F rS rC rM rF = some (0, (zcnt Lc : Int), o', c', n - ([] : List Int).length + cn, fr + cn, fr + cn, F2, rS', rC', rM', rF') := by
    unfold f_X7_paste
    simp (disch := omega) only [z_eq_f, cch, z_bd, g1, cput, ca1]
  unfold f_L_tryPaste
  rw [e2, z_bd]
  exact z_tg1 rfl
/-- the caret goes to a place -/
theorem m_moveTo (hI : zI A S B) (hC : zCs n ca fr F A S B) {A' B' : List Int} (e : A' ++ B' = A ++ (S ++ B)) : f_L_tryMoveTo n ca fr (A'.length : Int) = some (ca, (A'.length : Int), (A'.length : Int)) ∧ zCs n (A'.length : Int) (A'.length : Int) F A' [] B' ∧ zI A' [] B' := by
  have hl := hI.len
  have h180 := hC.1.1
  have hle : A'.length ≤ (A ++ (S ++ B)).length := by rw [← e]; simp
  have cp := c_hasPlace h180.1 (by omega) (x := (A'.length : Int)) (by omega)
  rw [show decide (0 ≤ (A'.length : Int) ∧ (A'.length : Int) ≤ ((A ++ (S ++ B)).length : Int)) = true from decide_eq_true (by omega), zbi_t] at cp
  refine ⟨?_, c_move hC e rfl, hI.go e⟩
  have e2 : f_X7_moveTo n ca fr (A'.length : Int) = some (0, ca, (A'.length : Int), (A'.length : Int)) := by
    unfold f_X7_moveTo f_X0_putCaret
    simp (disch := omega) only [cp, z_bd, z_eq_f]
  unfold f_L_tryMoveTo
  rw [e2, z_bd]
  exact z_tg1 rfl
/-- the caret goes to the front -/
theorem m_front (hI : zI A S B) (hC : zCs n ca fr F A S B) : f_L_tryMoveBy n ca fr (-200) = some (0, 0, 0) ∧ zCs n 0 0 F [] [] (A ++ (S ++ B)) ∧ zI [] [] (A ++ (S ++ B)) := by
  have hl := hI.len
  have h180 := hC.1.1
  have hca : ca = (A.length : Int) + S.length := hC.2.1
  have hnl : n = ((A ++ (S ++ B)).length : Int) := h180.1
  have lL : (A ++ (S ++ B)).length = A.length + (S.length + B.length) := by simp
  have e : ([] : List Int) ++ (A ++ (S ++ B)) = A ++ (S ++ B) := rfl
  refine ⟨?_, c_move hC e rfl, hI.go e⟩
  have h1 := mn_s n (ca + -200)
  have h2 := mx_s 0 (mnI n (ca + -200))
  have e3 : mxI 0 (mnI n (ca + -200)) = 0 := by omega
  have e4 : f_X0_shiftCaret n ca fr (-200) = some (0, 0) := by
    unfold f_X0_shiftCaret f_X0_putCaret
    rw [e3]
    simp (disch := omega) only [z_gR, z_bd]
  have e2 : f_X7_moveBy n ca fr (-200) = some (0, 0, 0, 0) := by
    unfold f_X7_moveBy
    simp (disch := omega) only [z_jn, z_lt_f, e4, z_bd]
  unfold f_L_tryMoveBy
  rw [e2, z_bd]
  exact z_tg1 rfl
/-- no item behind or before -/
theorem m_ext_l0 {B : List Int} (hC : zCs n ca fr F [] [] B) : f_L_tryExtend n ca fr F 0 = some (-1003, ca, fr) := by
  have cb := c_bh_f hC.1 (P := []) (T := [] ++ B) rfl (Or.inl rfl) (x := fr) hC.2.2
  have e2 : f_X7_extend n ca fr F 0 = some (2, 0, ca, fr) := by
    unfold f_X7_extend f_X0_widenLeft
    simp (disch := omega) only [z_jn, z_eq_t, cb, z_bd, z_gB]
  unfold f_L_tryExtend
  rw [e2, z_bd]
  exact z_tg1x ⟨(by omega : ¬ (2 : Int) = 0), rfl⟩
theorem m_ext_r0 (hb : zbal A) (hC : zCs n ca fr F A [] []) : f_L_tryExtend n ca fr F 1 = some (-1003, ca, fr) := by
  have hca : ca = (A.length : Int) := by have := hC.2.1; simp at this; omega
  have h180 := hC.1.1
  have e2 : f_X7_extend n ca fr F 1 = some (2, 0, ca, fr) := by
    rcases c_next hC.1 (A := A) (R2 := []) (Q := []) (by simp) (Or.inl rfl) rfl (x := ca) hca with ⟨i0, m, m1, m2⟩ | ⟨X, R3, m, m0, m1, m2, m3, m4, Y, m5⟩
    · unfold f_X7_extend f_X0_widenRight
      simp (disch := omega) only [z_jn, z_eq_t, z_eq_f, m1, c_st_f, z_bd, z_gB]
    · rw [m5] at m0; simp at m0
  unfold f_L_tryExtend
  rw [e2, z_bd]
  exact z_tg1x ⟨(by omega : ¬ (2 : Int) = 0), rfl⟩
theorem zni_one {X : List Int} (hX : zit X) : zni 0 X = 1 := by
  have := zni_it [] hX
  rw [List.append_nil] at this
  rw [this]; rfl
/-- the last item is taken in -/
theorem m_ext_l1 (hb : zbal A) (hn : A ≠ []) (hI : zI A [] []) (hC : zCs n ca fr F A [] []) : ∃ ca' fr' A' S', f_L_tryExtend n ca fr F 0 = some (1, ca', fr') ∧ zCs n ca' fr' F A' S' [] ∧ zI A' S' [] ∧ A' ++ (S' ++ []) = A := by
  obtain ⟨X, R1, e1, hX, hR1⟩ := zitB hb hn
  have hl := hI.len
  have hca : ca = (A.length : Int) := by have := hC.2.1; simp at this; omega
  have hfr : fr = (A.length : Int) := hC.2.2
  have lA : A.length = R1.length + X.length := by rw [e1]; simp
  have hXl := zit_ne hX
  have eL : A ++ (([] : List Int) ++ []) = R1 ++ (X ++ []) := by rw [e1]; simp
  have cb := c_bh_t hC.1 (A := R1) (X := X) (T := []) eL hX (x := fr) (by omega)
  have ci := c_is hC.1 (A := R1) (X := X) (T := []) eL hX (x := fr) (by omega)
  have cc := c_rowItems hC.1 (A := R1) (S := X) (B := []) eL (x := (R1.length : Int)) (y := ca) rfl (by omega)
  rw [zni_one hX] at cc
  refine ⟨ca, (R1.length : Int), R1, X, ?_, ⟨by rw [← eL]; exact hC.1, by omega, rfl⟩, hI.sel eL.symm (zit_bal hX), by rw [e1]; simp⟩
  have e2 : f_X7_extend n ca fr F 0 = some (0, 1, ca, (R1.length : Int)) := by
    unfold f_X7_extend f_X0_widenLeft f_X0_selectedOfRow
    simp (disch := omega) only [z_jn, z_eq_t, z_eq_f, cb, z_bd, z_gB, ci, cc]
    rfl
  unfold f_L_tryExtend
  rw [e2, z_bd]
  exact z_tg1 rfl
/-- the first item is taken in -/
theorem m_ext_r1 (hb : zbal B) (hn : B ≠ []) (hI : zI [] [] B) (hC : zCs n ca fr F [] [] B) : ∃ ca' fr' S' B', f_L_tryExtend n ca fr F 1 = some (1, ca', fr') ∧ zCs n ca' fr' F [] S' B' ∧ zI [] S' B' ∧ [] ++ (S' ++ B') = B := by
  have hl := hI.len
  have hca : ca = 0 := by have := hC.2.1; simp at this; omega
  have hfr : fr = 0 := by have := hC.2.2; simp at this; omega
  rcases c_next hC.1 (A := []) (R2 := B) (Q := []) (by simp) (Or.inl rfl) hb (x := ca) (by rw [hca]; rfl) with ⟨i0, m, m1, m2⟩ | ⟨X, R3, m, m0, m1, m2, m3, m4, Y, m5⟩
  · exact absurd i0 hn
  · have hXl := zit_ne m1
    have lB : B.length = X.length + R3.length := by rw [m0]; simp
    have eL : ([] : List Int) ++ ([] ++ B) = [] ++ (X ++ R3) := by rw [m0]; rfl
    have ci := c_ie hC.1 (A := []) (X := X) (T := R3) eL m1 (x := ca) (by rw [hca]; rfl)
    have cc := c_rowItems hC.1 (A := []) (S := X) (B := R3) eL (x := fr) (y := (([] : List Int).length : Int) + X.length) (by rw [hfr]; rfl) rfl
    rw [zni_one m1] at cc
    refine ⟨(([] : List Int).length : Int) + X.length, fr, X, R3, ?_, ⟨by rw [← eL]; exact hC.1, rfl, by rw [hfr]; rfl⟩, hI.sel eL.symm (zit_bal m1), by rw [m0]; rfl⟩
    have e2 : f_X7_extend n ca fr F 1 = some (0, 1, (([] : List Int).length : Int) + X.length, fr) := by
      unfold f_X7_extend f_X0_widenRight f_X0_selectedOfRow
      simp (disch := omega) only [z_jn, z_eq_t, z_eq_f, m3, c_st_t, z_bd, z_gB, ci, cc]
      rfl
    unfold f_L_tryExtend
    rw [e2, z_bd]
    exact z_tg1 rfl
/-- grown once -/
theorem m_grow {k : Int} (hI : zI A S B) (hC : zCs n ca fr F A S B) (hk : zgf A S B k) : (f_L_tryGrow n ca fr F = some (-1003, ca, fr) ∧ A = [] ∧ B = []) ∨ ∃ (A' S' B' : List Int) (ca' fr' k' : Int), f_L_tryGrow n ca fr F = some ((zni 0 S' : Int), ca', fr') ∧ zCs n ca' fr' F A' S' B' ∧ zI A' S' B' ∧ S' ≠ [] ∧ A' ++ (S' ++ B') = A ++ (S ++ B) ∧ zgf A' S' B' k' ∧ k' < k := by
  rcases c_grow hI hC hk with ⟨h1, h2, h3⟩ | ⟨A', S', B', ca', fr', k', h1, h2, h3, h4, h5, h6, h7⟩
  · left
    refine ⟨?_, h2, h3⟩
    have e2 : f_X7_grow n ca fr F = some (2, 0, ca, fr) := by
      unfold f_X7_grow
      rw [h1, z_bd]
      simp (disch := omega) only [z_eq_t]
    unfold f_L_tryGrow
    rw [e2, z_bd]
    exact z_tg1x ⟨(by omega : ¬ (2 : Int) = 0), rfl⟩
  · right
    refine ⟨A', S', B', ca', fr', k', ?_, h2, h3, h4, h5, h6, h7⟩
    have e1 := c_rowItems h2.1 (A := A') (S := S') (B := B') rfl h2.2.2 h2.2.1
    have e2 : f_X7_grow n ca fr F = some (0, (zni 0 S' : Int), ca', fr') := by
      unfold f_X7_grow f_X0_selectedOfRow
      rw [h1, z_bd]
      simp (disch := omega) only [z_eq_f, e1, z_bd]
    unfold f_L_tryGrow
    rw [e2, z_bd]
    exact z_tg1 rfl
theorem zni_c : ∀ (T : List Int) (d : Int), zni d T ≤ zcnt T
  | [], d => Nat.le_refl _
  | m :: t, d => by
    have := zni_c t (d + zop m)
    simp only [zni, zcnt]
    by_cases h : zsi m = true
    · rw [if_pos h]
      split <;> omega
    · rw [if_neg h, if_neg (fun z => h z.2)]
      omega
theorem zni_pos {S : List Int} (hS : zbal S) (hn : S ≠ []) : 1 ≤ zni 0 S := by
  obtain ⟨X, R, rfl, hX, hR⟩ := zitF hS hn
  exact zni_1 hX
/-- the law's own loop of growing -/
theorem m_289 : ∀ (fu : Nat) (A S B : List Int) (ca fr y7 y8 k : Int), zI A S B → zCs n ca fr F A S B → zgf A S B k → 0 ≤ y7 → ((y8 = -1003 ∧ A = [] ∧ B = [] ∧ y7 ≤ 19 ∧ 1 ≤ fu) ∨ (y8 = (zni 0 S : Int) ∧ S ≠ [] ∧ y7 + k ≤ 18 ∧ k + 2 ≤ fu)) → ∃ ca' fr' y7' : Int, (∀ (e : Int × Int × Int × Int × Int → Option (Int × Int × Int × Int × Int × Int × Int × (Nat → Int) × (Nat → Int) × (Nat → Int) × (Nat → Int) × (Nat → Int) × (Nat → Nat → Int))), f_L_back_289 cn n Fc F e fu ca fr 1 y7 y8 = e (ca', fr', 1, y7', -1003)) ∧ (0 ≤ y7' ∧ y7' < 20) ∧ zCs n ca' fr' F [] (A ++ (S ++ B)) [] ∧ zI [] (A ++ (S ++ B)) []
  | 0, A, S, B, ca, fr, y7, y8, k, hI, hC, hk, hy, h => by
    have := zgf_0 hI hk
    omega
  | fu + 1, A, S, B, ca, fr, y7, y8, k, hI, hC, hk, hy, h => by
    have hk0 := zgf_0 hI hk
    rcases h with ⟨g1, g2, g3, g4, g5⟩ | ⟨g1, g2, g3, g4⟩
    · subst g1; subst g2; subst g3
      refine ⟨ca, fr, y7, fun e => ?_, by omega, by simpa using hC, by simpa using hI⟩
      simp (disch := omega) only [f_L_back_289, z_eq_t]
    · have hl := hI.len
      have hp := zni_pos hI.1.2 g2
      have hb := zni_b S 0
      have hc := zni_c S 0
      have hzb := zcnt_b S
      have hSl : 0 < S.length := List.length_pos_iff.mpr g2
      obtain ⟨s0, s1, s2⟩ := m_sel hI hC
      have s0' := (t_sl s0).2
      have s1' := (t_sl s1).2
      have s2' := (t_sl s2).2
      have a2 := (t_ab (m_ab2 (cn := cn) (n := n) (ca := ca) (Fc := Fc) (F := F))).2
      have hca : ca = (A.length : Int) + S.length := hC.2.1
      rcases m_grow hI hC hk with ⟨q1, q2, q3⟩ | ⟨A', S', B', ca', fr', k', q1, q2, q3, q4, q5, q6, q7⟩
      · subst q2; subst q3
        obtain ⟨ca2, fr2, y2, i1, i2, i3, i4⟩ := m_289 fu [] S [] ca fr (y7 + 1) (-1003) k hI hC hk (by omega) (Or.inl ⟨rfl, rfl, rfl, by omega, by omega⟩)
        refine ⟨ca2, fr2, y2, fun e => ?_, i2, i3, i4⟩
        simp (disch := omega) only [f_L_back_289, z_eq_f, z_lt_t, z_lt_f, z_jn, s0', s1', s2', a2, z_bd, z_eq_t, q1]
        exact i1 e
      · obtain ⟨ca2, fr2, y2, i1, i2, i3, i4⟩ := m_289 fu A' S' B' ca' fr' (y7 + 1) (zni 0 S' : Int) k' q3 q2 q6 (by omega) (Or.inr ⟨rfl, q4, by omega, by omega⟩)
        rw [q5] at i3 i4
        refine ⟨ca2, fr2, y2, fun e => ?_, i2, i3, i4⟩
        simp (disch := omega) only [f_L_back_289, z_eq_f, z_lt_t, z_lt_f, z_jn, s0', s1', s2', a2, z_bd, z_eq_t, q1]
        exact i1 e
end MV
