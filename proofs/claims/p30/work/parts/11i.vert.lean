/-! up and down, whole; the clipboard; replacing; pasting -/
theorem e_vert {n ca fr rf up : Int} {F R : Nat → Int} {A S B : List Int} (hI : zI A S B) (hC : zCs n ca fr F A S B) (hR : zRs R A S B) (hup : up = 0 ∨ up = 1) : ∃ v ca' fr' R', f_X7_moveVertically n ca fr F up = some (v, ca', fr') ∧ f_X8_moveVertically rf R up = some (v, 0, R') ∧ ∃ A' S' B', zI A' S' B' ∧ zCs n ca' fr' F A' S' B' ∧ zRs R' A' S' B' := by
  have hl := hI.len
  have hCx := hC.1
  have hRy := hR.1
  have h180 := hCx.1
  have hca : ca = (A.length : Int) + S.length := hC.2.1
  have hrc : R 181 = ca := by rw [hR.2.1, hca]
  have eL : A ++ (S ++ B) = (A ++ S) ++ B := by simp
  have hb : zbal ((A ++ S) ++ B) := by rw [← eL]; exact hI.bal
  have hcl : ca = ((A ++ S).length : Int) := by rw [hca]; simp
  have hLl : ((A ++ (S ++ B)).length : Int) = (A ++ S).length + B.length := by simp; omega
  obtain ⟨P, R0, R2, Q, w, kd, ⟨g1, g2, g3, g4, g5, g6⟩, ⟨f1, f2, f3, f4⟩, f5, ⟨mm, f6, f7, f8, f9⟩, f10⟩ := e_row hb eL hCx hRy hcl
  have lP : (A ++ S).length = P.length + R0.length := by rw [g1]; simp
  have lB : B.length = R2.length + Q.length := by rw [g2]; simp
  have hAS : A.length + S.length = (A ++ S).length := by simp
  have hlv : zlv (A ++ S) ≤ 5 := by have h1 := hI.lv; have h2 := zpk_0 S; omega
  have go : ∀ {g : Int}, 0 ≤ g ∧ g ≤ ((A ++ (S ++ B)).length : Int) → ∃ A' S' B', zI A' S' B' ∧ zCs n g g F A' S' B' ∧ zRs (va_up (va_up R 181 g) 182 (-9)) A' S' B' := by
    intro g hg
    obtain ⟨A', B', e1, e2⟩ := zat hg
    exact ⟨A', [], B', hI.go e1, c_move hC e1 e2, r_move hR e1 e2⟩
  have hgo : ∀ g : Int, f_X8_goTo R g = some (g, va_up (va_up R 181 g) 182 (-9)) := by
    intro g
    unfold f_X8_goTo
    simp (disch := omega) only [z_in, z181, z182]
  have ex : (∀ q : (Nat → Int) × Int × Int → Option (Int × Int × (Nat → Int)), (f_X0_goalInFraction n ca F up = some (-9) ∧ ∃ g st, f_X8_moveVertically_26 0 up q fuel R ca (P.length : Int) = q (R, g, st)) ∨ ∃ g, f_X0_goalInFraction n ca F up = some g ∧ f_X8_moveVertically_26 0 up q fuel R ca (P.length : Int) = some (g, 0, va_up (va_up R 181 g) 182 (-9)) ∧ 0 ≤ g ∧ g ≤ (A ++ (S ++ B)).length) := fun q =>
    e_gf_loop hCx hRy hup (ca := ca) (rf := 0) (e7 := fun (z14 : Int × Int) => some (-9)) (e26 := q) (A ++ S).length (A ++ S) B fuel fuel ca 0 (P.length : Int) (Nat.le_refl _) hb eL (by unfold fuel; omega) (by unfold fuel; omega) hcl (by omega) (by omega) f2
  have rr : ∃ q : (Nat → Int) × Int × Int → Option (Int × Int × (Nat → Int)), f_X8_moveVertically rf R up = f_X8_moveVertically_26 0 up q fuel R ca (P.length : Int) ∧ ∀ g st : Int, q (R, g, st) = gIn 180 184 (jn (fun (z25 : Unit) => bd (f_X8_rowStart 184 R ca) (fun r26 => jn (fun (z32 : Unit) => some ((-9 : Int), (0 : Int), R)) (fun k27 => cLt 0 r26 (gIn (r26 - 1) 184 (jn (fun (z29 : Int) => cEq (R (r26 - 1).toNat) z29 (bd (f_X8_rowEnd 184 R ca) (fun r30 => bd (f_X8_goTo R (r30 + 1)) (fun r31 => some (r31.1, (0 : Int), r31.2)))) (k27 ())) (fun k28 => cEq up 0 (k28 (-2)) (k28 (-3))))) (k27 ())))) (fun k21 => cLt ca (R (180 : Int).toNat) (gIn ca 184 (jn (fun (z23 : Int) => cEq (R ca.toNat) z23 (bd (f_X8_goTo R (ca + 1)) (fun r24 => some (r24.1, (0 : Int), r24.2))) (k21 ())) (fun k22 => cEq up 0 (k22 (-3)) (k22 (-2))))) (k21 ()))) := by
    refine ⟨_, by unfold f_X8_moveVertically; rw [z181, hrc, f2, z_bd, z_in (by omega)], fun g st => rfl⟩
  obtain ⟨q, rr, hq⟩ := rr
  rcases ex q with ⟨h1, g, st, h2⟩ | ⟨g, h1, h2, h3, h4⟩
  · -- no fraction above or below
    rw [h2, hq g st] at rr
    have h180r : R (180 : Int).toNat = ((A ++ S).length : Int) + B.length := by rw [z180, hRy.2.1, hLl]
    have hB : (B = [] ∧ f_X3_mark 180 n F ca = some 0) ∨ ∃ b T, B = b :: T ∧ f_X3_mark 180 n F ca = some b ∧ R ca.toNat = zr b ∧ zv b := by
      cases hB : B with
      | nil =>
        left
        have hB0 : B.length = 0 := by rw [hB]; rfl
        exact ⟨rfl, hCx.out (by omega)⟩
      | cons b T =>
        right
        have e1 := hCx.at (A := A ++ S) (m := b) (T := T) (by rw [eL, hB]) hcl
        have e2 := hRy.1.at (A := A ++ S) (m := b) (T := T) (by rw [eL, hB]) hcl
        exact ⟨b, T, rfl, e1.1, e2.1, e1.2.1⟩
    have hv9 : f_X0_goalInFraction n ca F up = some (-9) := h1
    -- the row around
    have tail : ∀ e l : Int, ((up = 0 ∧ e = 3 ∧ l = 2) ∨ (up = 1 ∧ e = 2 ∧ l = 3)) → ∃ v, ((f_X0_verticalGoal n ca F up = some v ∧ f_X8_moveVertically rf R up = some (v, 0, va_up (va_up R 181 v) 182 (-9)) ∧ 0 ≤ v ∧ v ≤ ((A ++ (S ++ B)).length : Int)) ∨ (v = -9 ∧ f_X0_verticalGoal n ca F up = some v ∧ f_X8_moveVertically rf R up = some (v, 0, R))) := by
      intro e l hel
      have second : (∀ b : Int, f_X3_mark 180 n F ca = some b → -2147483648 ≤ b ∧ b ≤ 2147483647 → b ≠ e → (cLt ca (R (180 : Int).toNat) (gIn ca 184 (cEq (R ca.toNat) (-e) (bd (f_X8_goTo R (ca + 1)) (fun r24 => some (r24.1, (0 : Int), r24.2))) (bd (f_X8_rowStart 184 R ca) (fun r26 => cLt 0 r26 (gIn (r26 - 1) 184 (cEq (R (r26 - 1).toNat) (-l) (bd (f_X8_rowEnd 184 R ca) (fun r30 => bd (f_X8_goTo R (r30 + 1)) (fun r31 => some (r31.1, (0 : Int), r31.2)))) (some ((-9 : Int), (0 : Int), R)))) (some ((-9 : Int), (0 : Int), R)))))) (bd (f_X8_rowStart 184 R ca) (fun r26 => cLt 0 r26 (gIn (r26 - 1) 184 (cEq (R (r26 - 1).toNat) (-l) (bd (f_X8_rowEnd 184 R ca) (fun r30 => bd (f_X8_goTo R (r30 + 1)) (fun r31 => some (r31.1, (0 : Int), r31.2)))) (some ((-9 : Int), (0 : Int), R)))) (some ((-9 : Int), (0 : Int), R))))) = (bd (f_X8_rowStart 184 R ca) (fun r26 => cLt 0 r26 (gIn (r26 - 1) 184 (cEq (R (r26 - 1).toNat) (-l) (bd (f_X8_rowEnd 184 R ca) (fun r30 => bd (f_X8_goTo R (r30 + 1)) (fun r31 => some (r31.1, (0 : Int), r31.2)))) (some ((-9 : Int), (0 : Int), R)))) (some ((-9 : Int), (0 : Int), R)))) → ∃ v, ((f_X0_verticalGoal n ca F up = some v ∧ f_X8_moveVertically rf R up = some (v, 0, va_up (va_up R 181 v) 182 (-9)) ∧ 0 ≤ v ∧ v ≤ ((A ++ (S ++ B)).length : Int)) ∨ (v = -9 ∧ f_X0_verticalGoal n ca F up = some v ∧ f_X8_moveVertically rf R up = some (v, 0, R)))) := by
        intro b hm hbb hbe hpass
        have cg : f_X0_verticalGoal n ca F up = cEq kd l (some (ca + R2.length + 1)) (some (-9)) := by
          unfold f_X0_verticalGoal
          rw [hv9, z_bd]
          rcases hel with ⟨rfl, rfl, rfl⟩ | ⟨rfl, rfl, rfl⟩
          · simp (disch := omega) only [z_eq_t, z_eq_f, z_jn, hm, z_bd, f1, f5, f3]
          · simp (disch := omega) only [z_eq_t, z_eq_f, z_jn, hm, z_bd, f1, f5, f3]
        have rg : f_X8_moveVertically rf R up = (bd (f_X8_rowStart 184 R ca) (fun r26 => cLt 0 r26 (gIn (r26 - 1) 184 (cEq (R (r26 - 1).toNat) (-l) (bd (f_X8_rowEnd 184 R ca) (fun r30 => bd (f_X8_goTo R (r30 + 1)) (fun r31 => some (r31.1, (0 : Int), r31.2)))) (some ((-9 : Int), (0 : Int), R)))) (some ((-9 : Int), (0 : Int), R)))) := by
          rw [rr, ← hpass]
          rcases hel with ⟨rfl, rfl, rfl⟩ | ⟨rfl, rfl, rfl⟩
          · simp (disch := omega) only [z_in, z_jn, z_eq_t, z_eq_f]
          · simp (disch := omega) only [z_in, z_jn, z_eq_t, z_eq_f]
        rw [f2, z_bd] at rg
        rcases f10 with ⟨i1, i2, i3⟩ | ⟨i1, i2, i3, i4, i5, i6⟩ | ⟨i1, i2, i3, i4, i5⟩
        · refine ⟨-9, Or.inr ⟨rfl, ?_, ?_⟩⟩
          · rw [cg]; simp (disch := omega) only [z_eq_f]
          · rw [rg]; simp (disch := omega) only [z_lt_f]
        · by_cases hkl : kd = l
          · refine ⟨ca + R2.length + 1, Or.inl ⟨?_, ?_, by omega, by omega⟩⟩
            · rw [cg]; simp (disch := omega) only [z_eq_t]
            · rw [rg]; simp (disch := omega) only [z_lt_t, z_in, i2, z_eq_t, f4, z_bd, hgo]
          · refine ⟨-9, Or.inr ⟨rfl, ?_, ?_⟩⟩
            · rw [cg]; simp (disch := omega) only [z_eq_f]
            · rw [rg]; simp (disch := omega) only [z_lt_t, z_in, i2, z_eq_f]
        · refine ⟨-9, Or.inr ⟨rfl, ?_, ?_⟩⟩
          · rw [cg]; simp (disch := omega) only [z_eq_f]
          · rw [rg]; simp (disch := omega) only [z_lt_t, z_in, i2, z_eq_f]
      rcases hB with ⟨hB, hm⟩ | ⟨b, T, hB, hm, hr, hv⟩
      · have hB0 : B.length = 0 := by rw [hB]; rfl
        exact second 0 hm (by omega) (by omega) (by simp (disch := omega) only [h180r, z_lt_f])
      · have hB0 : B.length = T.length + 1 := by rw [hB]; simp
        have hv2 := zv_rc hv
        by_cases hbe : b = e
        · subst hbe
          rw [zr_op (by omega)] at hr
          refine ⟨ca + 1, Or.inl ⟨?_, ?_, by omega, by omega⟩⟩
          · unfold f_X0_verticalGoal
            rw [hv9, z_bd]
            rcases hel with ⟨rfl, rfl, rfl⟩ | ⟨rfl, rfl, rfl⟩
            · simp (disch := omega) only [z_eq_t, z_eq_f, z_jn, hm, z_bd]
            · simp (disch := omega) only [z_eq_t, z_eq_f, z_jn, hm, z_bd]
          · rw [rr]
            rcases hel with ⟨rfl, rfl, rfl⟩ | ⟨rfl, rfl, rfl⟩
            · simp (disch := omega) only [h180r, z_in, z_jn, z_lt_t, z_eq_t, hr, hgo, z_bd]
            · simp (disch := omega) only [h180r, z_in, z_jn, z_lt_t, z_eq_t, z_eq_f, hr, hgo, z_bd]
        · refine second b hm (by omega) hbe ?_
          have hne : R ca.toNat ≠ -e ∧ -2147483648 ≤ R ca.toNat ∧ R ca.toNat ≤ 2147483647 := by
            rw [hr]
            rcases hv2 with k | k | k | k
            · rw [zr_sy k.1]; omega
            · rw [zr_op k]; omega
            · subst k; rw [zr_6]; omega
            · rw [zr_cl k]; omega
          simp (disch := omega) only [h180r, z_lt_t, z_in, z_eq_f]
    obtain ⟨v, hv⟩ : ∃ v, ((f_X0_verticalGoal n ca F up = some v ∧ f_X8_moveVertically rf R up = some (v, 0, va_up (va_up R 181 v) 182 (-9)) ∧ 0 ≤ v ∧ v ≤ ((A ++ (S ++ B)).length : Int)) ∨ (v = -9 ∧ f_X0_verticalGoal n ca F up = some v ∧ f_X8_moveVertically rf R up = some (v, 0, R))) := by
      rcases hup with h | h
      · exact tail 3 2 (Or.inl ⟨h, rfl, rfl⟩)
      · exact tail 2 3 (Or.inr ⟨h, rfl, rfl⟩)
    rcases hv with ⟨v1, v2, v3, v4⟩ | ⟨v0, v1, v2⟩
    · refine ⟨v, v, v, va_up (va_up R 181 v) 182 (-9), ?_, v2, go ⟨v3, v4⟩⟩
      unfold f_X7_moveVertically f_X0_putCaret
      simp (disch := omega) only [v1, z_bd, z_jn, z_eq_f]
    · refine ⟨v, ca, fr, R, ?_, v2, A, S, B, hI, hC, hR⟩
      unfold f_X7_moveVertically
      simp (disch := omega) only [v1, z_bd, z_jn, z_eq_t]
  · refine ⟨g, g, g, va_up (va_up R 181 g) 182 (-9), ?_, ?_, go ⟨h3, h4⟩⟩
    · unfold f_X7_moveVertically f_X0_verticalGoal f_X0_putCaret
      rw [h1, z_bd]
      simp (disch := omega) only [z_eq_f, z_bd, z_jn]
    · rw [rr, h2]
