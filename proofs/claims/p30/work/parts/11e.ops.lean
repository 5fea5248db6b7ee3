/-! taking back -/
theorem zI.diss {P X Q I : List Int} (h : zI P [] (X ++ Q) ∨ zbal (P ++ (X ++ Q)) ∧ zcnt (P ++ (X ++ Q)) ≤ 60 ∧ zpk (P ++ (X ++ Q)) ≤ 5) (hX : zbal X) (hI : zbal I) (hc : zcnt I ≤ zcnt X) (hp : zpk I ≤ zpk X) {A B : List Int} (e : A ++ B = P ++ (I ++ Q)) : zI A [] B := by
  have h' : zbal (P ++ (X ++ Q)) ∧ zcnt (P ++ (X ++ Q)) ≤ 60 ∧ zpk (P ++ (X ++ Q)) ≤ 5 := by
    rcases h with h | h
    · exact ⟨h.bal, h.2.1, h.2.2⟩
    · exact h
  obtain ⟨h1, h2, h3⟩ := h'
  refine zI.of e ?_ ?_ ?_
  · obtain ⟨s, a1, a2⟩ := zrun_app_inv h1
    rw [zrun_app_s (zbal_over s hX)] at a2
    rw [zbal, zrun_app_s a1, zrun_app_s (zbal_over s hI)]
    exact a2
  · simp only [zcnt_app] at h2 ⊢; omega
  · have l1 := zlv_bal hX
    have l2 := zlv_bal hI
    simp only [zpk_app, l1, l2] at h3 ⊢
    have a1 := mx_s (zpk P) (zlv P + mxI (zpk X) (0 + zpk Q))
    have a2 := mx_s (zpk X) (0 + zpk Q)
    have a3 := mx_s (zpk P) (zlv P + mxI (zpk I) (0 + zpk Q))
    have a4 := mx_s (zpk I) (0 + zpk Q)
    omega
theorem zpk_in {o c : Int} {Z : List Int} (ho : 1 ≤ o ∧ o ≤ 5) : zpk Z ≤ zpk (o :: (Z ++ [c])) := by
  have a0 := zpk_0 Z
  simp only [zpk_cons, zpk_app, zop_op ho]
  have a1 := mx_s (zpk Z) (zlv Z + mxI 0 (zop c + zpk []))
  have a2 := mx_s 0 (1 + mxI (zpk Z) (zlv Z + mxI 0 (zop c + zpk [])))
  omega
theorem c_delSel {n ca fr : Int} {F : Nat → Int} {A S B : List Int} (hC : zCs n ca fr F A S B) (hS : S ≠ []) : f_X0_canDeleteBack ca fr = some 1 ∧ ∃ G, f_X0_deleteBack n ca fr F = some (n - S.length, fr, fr, G) ∧ zCs (n - S.length) fr fr G A [] B := by
  have hs := c_hasSel hC
  rw [show decide (S ≠ []) = true from decide_eq_true hS, zbi_t] at hs
  obtain ⟨G, a1, a2⟩ := c_rmSel hC
  refine ⟨?_, G, ?_, a2⟩
  · unfold f_X0_canDeleteBack
    rw [hs]
    simp (disch := omega) only [z_bd, z_jn, z_eq_f, z_gB]
  · unfold f_X0_deleteBack
    rw [hs]
    simp (disch := omega) only [z_bd, z_jn, z_eq_f, a1]
theorem c_canDel {n ca fr : Int} {F : Nat → Int} {A B : List Int} (hC : zCs n ca fr F A [] B) : f_X0_canDeleteBack ca fr = some (zbi (decide (A ≠ []))) := by
  have hs := c_hasSel hC
  have h0 := hC.2.1
  have h180 := hC.1.1
  simp only [List.length_append, List.length_nil] at h0 h180
  unfold f_X0_canDeleteBack
  rw [hs]
  by_cases hA : A = []
  · subst hA
    simp only [List.length_nil] at h0
    rw [show decide (([] : List Int) ≠ []) = false from rfl]
    simp (disch := omega) only [zbi_f, z_bd, z_jn, z_eq_t, z_lt_f, z_gB]
  · have : 0 < A.length := List.length_pos_iff.mpr hA
    rw [show decide (([] : List Int) ≠ []) = false from rfl, show decide (A ≠ []) = true from decide_eq_true hA]
    simp (disch := omega) only [zbi_f, zbi_t, z_bd, z_jn, z_eq_t, z_lt_t, z_gB]
/-- the item ahead of the caret -/
theorem e_backItem {n ca fr : Int} {F R : Nat → Int} {P R1 X B : List Int} (hI : zI (P ++ (R1 ++ X)) [] B) (hC : zCs n ca fr F (P ++ (R1 ++ X)) [] B) (hR : zRs R (P ++ (R1 ++ X)) [] B) (hP : zend P) (hR1 : zbal R1) (hX : zit X) : ∃ (A' B' : List Int) (n' ca' : Int) (F' G : Nat → Int), f_X0_deleteBack n ca fr F = some (n', ca', ca', F') ∧ f_X8_backs 184 R = some (1, G) ∧ zCs n' ca' ca' F' A' [] B' ∧ zRs G A' [] B' ∧ zI A' [] B' := by
  have hl := hI.len
  have hCx := hC.1
  have hRy := hR.1
  have hca : ca = (P.length : Int) + R1.length + X.length := by have := hC.2.1; simp at this; omega
  have hrc : R 181 = (P.length : Int) + R1.length + X.length := by have := hR.2.1; simp at this; omega
  have h182 : R 182 = -9 := hR.2.2
  have hs : f_X0_hasSelection ca fr = some 0 := c_hasSel hC
  have hXl := zit_ne hX
  simp only [List.length_append, List.length_nil] at hl
  have b1 := c_bh_t hCx (A := P ++ R1) (X := X) (T := B) (by simp) hX (x := ca) (by simp; omega)
  have b2 := c_is hCx (A := P ++ R1) (X := X) (T := B) (by simp) hX (x := ca) (by simp; omega)
  have b3 := c_count hCx (A := P ++ R1) (S := X) (B := B) (by simp) (x := ((P ++ R1).length : Int)) (y := ca) rfl (by simp; omega)
  have d0 := r_rs hRy (P := P) (R := R1 ++ X) (T := B) (by simp) hP (zbal_app hR1 (zit_bal hX)) (x := R 181) (by simp; omega)
  have d2 := r_itemStart hRy.1 (A := P ++ R1) (X := X) (T := B) (by simp) hX (x := R 181) (by simp; omega)
  have d3 := r_all hRy.1 (A := P ++ R1) (S := X) (B := B) (by simp) (x := ((P ++ R1).length : Int)) (y := R 181) rfl (by simp; omega)
  have hz := zcnt_b X
  have hlt : (P.length : Int) < R 181 := by omega
  by_cases h1 : zcnt X = 1
  · obtain ⟨G1, c1, c2⟩ := c_remove (X := P ++ R1) (Y := X) (Z := B) (by simpa using hCx) (x := ((P ++ R1).length : Int)) (y := ca) rfl (by simp; omega)
    obtain ⟨G2, e1, e2, e3, e4⟩ := r_remove (N := 184) (X := P ++ R1) (Y := X) (Z := B) (by simpa using hRy) (x := ((P ++ R1).length : Int)) (y := R 181) rfl (by simp; omega)
    refine ⟨P ++ R1, B, n - X.length, ((P ++ R1).length : Int), G1, va_up G2 181 ((P ++ R1).length : Int), ?_, ?_, ⟨by simpa using c2, by simp, rfl⟩, ⟨by simpa using e2.up (k := 181) (by omega), by rw [zup_eq]; simp, by rw [zup_ne (by omega), e4]; exact h182⟩, ?_⟩
    · unfold f_X0_deleteBack f_X0_deleteItemBefore f_X0_putCaret
      rw [hs, z_bd, z_jn]
      simp (disch := omega) only [z_eq_t, z_eq_f, b1, b2, b3, c1, z_bd, z_jn]
    · unfold f_X8_backs
      rw [z181, z182, d0, d2]
      simp (disch := omega) only [z_in, h182, z_eq_t, z_eq_f, z_bd, z_lt_t, d3, z_jn, e1, z_gB]
    · exact zI.diss (P := P ++ R1) (X := X) (Q := B) (I := []) (Or.inr (by have h1 := hI.bal; have h2 := hI.2.1; have h3 := hI.2.2; simp only [List.nil_append, List.append_assoc] at h1 h2 h3 ⊢; exact ⟨h1, h2, h3⟩)) (zit_bal hX) rfl (by simp [zcnt]) (zpk_0 X) (by simp)
  · obtain ⟨Y, m, e0, m1, m2⟩ := zit_last hX
    have lX : X.length = Y.length + 1 := by rw [e0]; simp
    have em : (P ++ (R1 ++ Y)) ++ m :: B = P ++ (R1 ++ X) ++ ([] ++ B) := by rw [e0]; simp
    refine ⟨P ++ (R1 ++ Y), m :: B, n, ca - 1, F, va_up R 181 (R 181 - 1), ?_, ?_, c_move hC em (by simp; omega), ⟨?_, by rw [zup_eq, hrc]; simp; omega, by rw [zup_ne (by omega)]; exact h182⟩, hI.go em⟩
    · unfold f_X0_deleteBack f_X0_deleteItemBefore f_X0_putCaret
      rw [hs, z_bd, z_jn]
      simp (disch := omega) only [z_eq_t, z_eq_f, b1, b2, b3, z_bd, z_jn]
    · unfold f_X8_backs
      rw [z181, z182, d0, d2]
      simp (disch := omega) only [z_in, h182, z_eq_t, z_eq_f, z_bd, z_lt_t, d3, z_jn, z_gB]
    · rw [List.nil_append, em]; exact hRy.up (by omega)
set_option maxHeartbeats 4000000 in
/-- a structure dissolved, its first row's beginning being the place -/
theorem e_backK {n ca fr : Int} {F R : Nat → Int} {A B P R2 Q : List Int} (hI : zI A [] B) (hC : zCs n ca fr F A [] B) (hR : zRs R A [] B) (hf : zfr A B P [] R2 Q) {k : Int} (a1 : A = P ++ k :: []) (a2 : B = R2 ++ (k + 10) :: Q) (a3 : 2 ≤ k) (a4 : k ≤ 5) (hR2 : zbal R2) : ∃ (A' B' : List Int) (n' ca' : Int) (F' G : Nat → Int), f_X0_deleteBack n ca fr F = some (n', ca', ca', F') ∧ f_X8_backs 184 R = some (1, G) ∧ zCs n' ca' ca' F' A' [] B' ∧ zRs G A' [] B' ∧ zI A' [] B' := by
  have hl := hI.len
  have hCx := hC.1
  have hRy := hR.1
  have hca : ca = (A.length : Int) := by have := hC.2.1; simp at this; omega
  have hrc : R 181 = (A.length : Int) := by have := hR.2.1; simp at this; omega
  have h182 : R 182 = -9 := hR.2.2
  have hs : f_X0_hasSelection ca fr = some 0 := c_hasSel hC
  obtain ⟨P2, Q2, g1, g2, g3, g4, g5, g6⟩ := zfr_end hf
  simp only [List.append_nil] at g1
  have b1 := c_bh_f hCx (P := A) (T := B) rfl (by rw [g1]; exact g3) hca
  have b2 := c_holder hCx (S := []) rfl hf (x := ca) (by simp; omega)
  have d0 := r_rs hRy (P := A) (R := []) (T := B) rfl (by rw [g1]; exact g3) rfl (x := R 181) (by simp; omega)
  have d1 := r_re hRy (A := A) (R := R2) (Q := Q2) (by rw [g2]; simp) g4 hR2 (x := (A.length : Int)) rfl
  have hA : 0 < A.length := by rw [g1]; exact g5
  obtain ⟨o, c, Y1, T1, q1, hX, q3, q4, q5, q6, q7⟩ := zfr_item hf rfl (S := []) rfl hR2
  have b3 := c_ie hCx (A := P) (X := o :: (Y1 ++ (T1 ++ [c]))) (T := Q) (by rw [q1]; simp) hX (x := (P.length : Int)) rfl
  have d2 := r_struct hRy.1 (P := P) (Y1 := Y1) (T1 := T1) (o := o) (c := c) (Q := Q) q1 q4 q5 q6 q7 (x := (A.length : Int)) (by simp at q3; omega)
  have hLX : A ++ ([] ++ B) = P ++ ((o :: (Y1 ++ (T1 ++ [c]))) ++ Q) := by rw [q1]; simp
  have hIX : zI P [] (o :: (Y1 ++ (T1 ++ [c])) ++ Q) ∨ zbal (P ++ (o :: (Y1 ++ (T1 ++ [c])) ++ Q)) ∧ zcnt (P ++ (o :: (Y1 ++ (T1 ++ [c])) ++ Q)) ≤ 60 ∧ zpk (P ++ (o :: (Y1 ++ (T1 ++ [c])) ++ Q)) ≤ 5 := by
    right
    rw [← hLX]
    exact ⟨hI.bal, hI.2.1, hI.2.2⟩
  have c0 : f_X0_deleteBack n ca fr F = bd (f_X0_dissolve n ca fr F (P.length : Int)) (fun r5 => some (r5.1, r5.2.1, r5.2.2.1, r5.2.2.2)) := by
    unfold f_X0_deleteBack
    simp (disch := omega) only [hs, z_bd, z_jn, z_eq_t, b1, z_lt_t, b2]
  simp only [List.length_append, List.length_nil] at hl
  have eX : (o :: (Y1 ++ (T1 ++ [c]))) = k :: (R2 ++ [k + 10]) := List.append_cancel_right (by
    have := q1
    rw [a1, a2] at this
    simp only [List.append_assoc, List.cons_append, List.nil_append] at this
    simpa using (List.append_cancel_left this).symm : (o :: (Y1 ++ (T1 ++ [c]))) ++ Q = k :: (R2 ++ [k + 10]) ++ Q)
  have lA : (A.length : Int) = P.length + 1 := by rw [a1]; simp
  have lB : B.length = R2.length + 1 + Q.length := by rw [a2]; simp; omega
  rw [lA] at d0 d1 d2 hca hrc
  subst a1; subst a2
  have hLl : (o :: (Y1 ++ (T1 ++ [c]))).length = R2.length + 2 := by
    have := congrArg List.length q1; simp at this ⊢; omega
  rw [hLl] at b3
  have hT1 : (Y1.length : Int) + T1.length = R2.length := by simp at hLl; omega
  obtain ⟨F1, u1, u2⟩ := c_remove (N := 180) (n := n) (F := F) (X := P ++ k :: R2) (Y := [k + 10]) (Z := Q) (by simpa using hCx) (x := (P.length : Int) + ((R2.length + 2 : Nat) : Int) - 1) (y := (P.length : Int) + ((R2.length + 2 : Nat) : Int)) (by simp; omega) (by simp; omega)
  have u3 := (u2.at (A := P) (m := k) (T := R2 ++ Q) (by simp) (x := (P.length : Int)) rfl).1
  obtain ⟨F2, v1, v2⟩ := c_remove (N := 180) (n := n - ([k + 10] : List Int).length) (F := F1) (X := P) (Y := [k]) (Z := R2 ++ Q) (by simpa using u2) (x := (P.length : Int)) (y := (P.length : Int) + 1) rfl (by simp)
  obtain ⟨G1, w1, w2, w3, w4⟩ := r_remove (N := 184) (F := R) (X := P ++ k :: R2) (Y := [k + 10]) (Z := Q) (by simpa using hRy) (x := (P.length : Int) + 1 + Y1.length + T1.length) (y := (P.length : Int) + 1 + Y1.length + T1.length + 1) (by simp; omega) (by simp; omega)
  obtain ⟨G2, x1, x2, x3, x4⟩ := r_remove (N := 184) (F := G1) (X := P) (Y := [k]) (Z := R2 ++ Q) (by simpa using w2) (x := (P.length : Int)) (y := (P.length : Int) + 1) rfl (by simp)
  refine ⟨P, R2 ++ Q, n - ([k + 10] : List Int).length - ([k] : List Int).length, (P.length : Int), F2, va_up G2 181 (P.length : Int), ?_, ?_, ⟨by simpa using v2, by simp, rfl⟩, ⟨by simpa using x2.up (k := 181) (by omega), by rw [zup_eq]; simp, by rw [zup_ne (by omega), x4, w4]; exact h182⟩, ?_⟩
  · rw [c0]
    unfold f_X0_dissolve f_X0_putCaret
    rw [b3, z_bd, u1, z_bd, u3, z_bd, z_jn]
    simp (disch := omega) only [z_eq_f]
    rw [v1]
    simp only [z_bd]
    rw [show ca - 1 = (P.length : Int) by omega]
  · obtain ⟨y1, y2, y3⟩ := hRy.1.at (A := P) (m := k) (T := R2 ++ (k + 10) :: Q) (by simp) (x := (P.length : Int) + 1 - 1) (by omega)
    rw [zr_op ⟨by omega, a4⟩] at y1
    unfold f_X8_backs
    rw [z181, z182, d0]
    simp (disch := omega) only [z_in, h182, z_eq_t, z_eq_f, z_bd, z_lt_f, z_jn, y1, d2.1, d1, w1]
    rw [show (P.length : Int) + 1 - 1 = P.length by omega, x1, z_bd]
    simp (disch := omega) only [z_gB]
  · exact zI.diss hIX (zit_bal hX) hR2 (by rw [eX]; simp only [zcnt, zcnt_app]; omega) (by rw [eX]; exact zpk_in ⟨by omega, a4⟩) (A := P) (B := R2 ++ Q) rfl
set_option maxHeartbeats 4000000 in
/-- a structure dissolved, its first row's beginning being the place -/
theorem e_backN {n ca fr : Int} {F R : Nat → Int} {A B P R2 Q : List Int} (hI : zI A [] B) (hC : zCs n ca fr F A [] B) (hR : zRs R A [] B) (hf : zfr A B P [] R2 Q) {J : List Int} (a1 : A = P ++ 1 :: []) (a2 : B = R2 ++ 6 :: (J ++ 11 :: Q)) (a3 : zbal J) (hR2 : zbal R2) : ∃ (A' B' : List Int) (n' ca' : Int) (F' G : Nat → Int), f_X0_deleteBack n ca fr F = some (n', ca', ca', F') ∧ f_X8_backs 184 R = some (1, G) ∧ zCs n' ca' ca' F' A' [] B' ∧ zRs G A' [] B' ∧ zI A' [] B' := by
  have hl := hI.len
  have hCx := hC.1
  have hRy := hR.1
  have hca : ca = (A.length : Int) := by have := hC.2.1; simp at this; omega
  have hrc : R 181 = (A.length : Int) := by have := hR.2.1; simp at this; omega
  have h182 : R 182 = -9 := hR.2.2
  have hs : f_X0_hasSelection ca fr = some 0 := c_hasSel hC
  obtain ⟨P2, Q2, g1, g2, g3, g4, g5, g6⟩ := zfr_end hf
  simp only [List.append_nil] at g1
  have b1 := c_bh_f hCx (P := A) (T := B) rfl (by rw [g1]; exact g3) hca
  have b2 := c_holder hCx (S := []) rfl hf (x := ca) (by simp; omega)
  have d0 := r_rs hRy (P := A) (R := []) (T := B) rfl (by rw [g1]; exact g3) rfl (x := R 181) (by simp; omega)
  have d1 := r_re hRy (A := A) (R := R2) (Q := Q2) (by rw [g2]; simp) g4 hR2 (x := (A.length : Int)) rfl
  have hA : 0 < A.length := by rw [g1]; exact g5
  obtain ⟨o, c, Y1, T1, q1, hX, q3, q4, q5, q6, q7⟩ := zfr_item hf rfl (S := []) rfl hR2
  have b3 := c_ie hCx (A := P) (X := o :: (Y1 ++ (T1 ++ [c]))) (T := Q) (by rw [q1]; simp) hX (x := (P.length : Int)) rfl
  have d2 := r_struct hRy.1 (P := P) (Y1 := Y1) (T1 := T1) (o := o) (c := c) (Q := Q) q1 q4 q5 q6 q7 (x := (A.length : Int)) (by simp at q3; omega)
  have hLX : A ++ ([] ++ B) = P ++ ((o :: (Y1 ++ (T1 ++ [c]))) ++ Q) := by rw [q1]; simp
  have hIX : zI P [] (o :: (Y1 ++ (T1 ++ [c])) ++ Q) ∨ zbal (P ++ (o :: (Y1 ++ (T1 ++ [c])) ++ Q)) ∧ zcnt (P ++ (o :: (Y1 ++ (T1 ++ [c])) ++ Q)) ≤ 60 ∧ zpk (P ++ (o :: (Y1 ++ (T1 ++ [c])) ++ Q)) ≤ 5 := by
    right
    rw [← hLX]
    exact ⟨hI.bal, hI.2.1, hI.2.2⟩
  have c0 : f_X0_deleteBack n ca fr F = bd (f_X0_dissolve n ca fr F (P.length : Int)) (fun r5 => some (r5.1, r5.2.1, r5.2.2.1, r5.2.2.2)) := by
    unfold f_X0_deleteBack
    simp (disch := omega) only [hs, z_bd, z_jn, z_eq_t, b1, z_lt_t, b2]
  simp only [List.length_append, List.length_nil] at hl
  have eX : (o :: (Y1 ++ (T1 ++ [c]))) = 1 :: ((R2 ++ 6 :: J) ++ [11]) := List.append_cancel_right (by
    have := q1
    rw [a1, a2] at this
    simp only [List.append_assoc, List.cons_append, List.nil_append] at this
    simpa using (List.append_cancel_left this).symm : (o :: (Y1 ++ (T1 ++ [c]))) ++ Q = 1 :: ((R2 ++ 6 :: J) ++ [11]) ++ Q)
  have lA : (A.length : Int) = P.length + 1 := by rw [a1]; simp
  have lB : B.length = R2.length + J.length + 2 + Q.length := by rw [a2]; simp; omega
  rw [lA] at d0 d1 d2 hca hrc
  have hAl : A.length = P.length + 1 := by omega
  have hLl : (o :: (Y1 ++ (T1 ++ [c]))).length = R2.length + J.length + 3 := by rw [eX]; simp; omega
  rw [hLl] at b3
  have hT1 : (Y1.length : Int) + T1.length = R2.length + J.length + 1 := by simp at hLl; omega
  subst a1; subst a2
  obtain ⟨F1, u1, u2⟩ := c_remove (N := 180) (n := n) (F := F) (X := P ++ 1 :: (R2 ++ 6 :: J)) (Y := [11]) (Z := Q) (by simpa using hCx) (x := (P.length : Int) + ((R2.length + J.length + 3 : Nat) : Int) - 1) (y := (P.length : Int) + ((R2.length + J.length + 3 : Nat) : Int)) (by simp; omega) (by simp; omega)
  have u3 := (u2.at (A := P) (m := 1) (T := R2 ++ 6 :: (J ++ Q)) (by simp) (x := (P.length : Int)) rfl).1
  have u4 := c_ss u2 (A := P) (I := R2) (T := J ++ Q) (by simp) hR2 (x := (P.length : Int)) rfl
  obtain ⟨F2, v1, v2⟩ := c_remove (N := 180) (n := n - ([11] : List Int).length) (F := F1) (X := P ++ 1 :: R2) (Y := [6]) (Z := J ++ Q) (by simpa using u2) (x := (P.length : Int) + R2.length + 2 - 1) (y := (P.length : Int) + R2.length + 2) (by simp; omega) (by simp; omega)
  obtain ⟨F3, t1, t2⟩ := c_remove (N := 180) (n := n - ([11] : List Int).length - ([6] : List Int).length) (F := F2) (X := P) (Y := [1]) (Z := R2 ++ (J ++ Q)) (by simpa using v2) (x := (P.length : Int)) (y := (P.length : Int) + 1) rfl (by simp)
  obtain ⟨G1, w1, w2, w3, w4⟩ := r_remove (N := 184) (F := R) (X := P ++ 1 :: (R2 ++ 6 :: J)) (Y := [11]) (Z := Q) (by simpa using hRy) (x := (P.length : Int) + 1 + Y1.length + T1.length) (y := (P.length : Int) + 1 + Y1.length + T1.length + 1) (by simp; omega) (by simp; omega)
  obtain ⟨G2, x1, x2, x3, x4⟩ := r_remove (N := 184) (F := G1) (X := P ++ 1 :: R2) (Y := [6]) (Z := J ++ Q) (by simpa using w2) (x := (P.length : Int) + 1 + R2.length) (y := (P.length : Int) + 1 + R2.length + 1) (by simp; omega) (by simp; omega)
  obtain ⟨G3, s1, s2, s3, s4⟩ := r_remove (N := 184) (F := G2) (X := P) (Y := [1]) (Z := R2 ++ (J ++ Q)) (by simpa using x2) (x := (P.length : Int)) (y := (P.length : Int) + 1) rfl (by simp)
  refine ⟨P, R2 ++ (J ++ Q), n - ([11] : List Int).length - ([6] : List Int).length - ([1] : List Int).length, (P.length : Int), F3, va_up G3 181 (P.length : Int), ?_, ?_, ⟨by simpa using t2, by simp, rfl⟩, ⟨by simpa using s2.up (k := 181) (by omega), by rw [zup_eq]; simp, by rw [zup_ne (by omega), s4, x4, w4]; exact h182⟩, ?_⟩
  · rw [c0]
    unfold f_X0_dissolve f_X0_putCaret
    rw [b3, z_bd, u1, z_bd, u3, z_bd, z_jn]
    simp (disch := omega) only [z_eq_t, u4, z_bd, v1, z_jn, z_lt_t]
    rw [t1]
    simp only [z_bd]
    rw [show ca - 1 = (P.length : Int) by omega]
  · obtain ⟨y1, y2, y3⟩ := hRy.1.at (A := P) (m := 1) (T := R2 ++ 6 :: (J ++ 11 :: Q)) (by simp) (x := (P.length : Int) + 1 - 1) (by omega)
    rw [zr_op ⟨by omega, by omega⟩] at y1
    unfold f_X8_backs
    rw [z181, z182, d0]
    simp (disch := omega) only [z_in, h182, z_eq_t, z_eq_f, z_bd, z_lt_f, z_lt_t, z_jn, y1, d2.1, d1, w1, x1]
    rw [show (P.length : Int) + 1 - 1 = P.length by omega, s1, z_bd]
    simp (disch := omega) only [z_gB]
  · refine zI.diss hIX (zit_bal hX) (zbal_app hR2 a3) ?_ ?_ (A := P) (B := R2 ++ (J ++ Q)) (by simp)
    · rw [eX]; simp only [zcnt, zcnt_app]; omega
    · rw [eX]
      refine Int.le_trans ?_ (zpk_in ⟨by omega, by omega⟩)
      have p0 := zpk_0 J
      simp only [zpk_app, zpk_cons, zop_6]
      have p1 := mx_s 0 (0 + zpk J)
      have p2 := mx_s (zpk R2) (zlv R2 + mxI 0 (0 + zpk J))
      have p3 := mx_s (zpk R2) (zlv R2 + zpk J)
      omega
set_option maxHeartbeats 4000000 in
/-- a structure dissolved, its first row's beginning being the place -/
theorem e_backD {n ca fr : Int} {F R : Nat → Int} {A B P R2 Q : List Int} (hI : zI A [] B) (hC : zCs n ca fr F A [] B) (hR : zRs R A [] B) (hf : zfr A B P [] R2 Q) {I : List Int} (a1 : A = P ++ 1 :: (I ++ 6 :: [])) (a2 : B = R2 ++ 11 :: Q) (a3 : zbal I) (hR2 : zbal R2) : ∃ (A' B' : List Int) (n' ca' : Int) (F' G : Nat → Int), f_X0_deleteBack n ca fr F = some (n', ca', ca', F') ∧ f_X8_backs 184 R = some (1, G) ∧ zCs n' ca' ca' F' A' [] B' ∧ zRs G A' [] B' ∧ zI A' [] B' := by
  have hl := hI.len
  have hCx := hC.1
  have hRy := hR.1
  have hca : ca = (A.length : Int) := by have := hC.2.1; simp at this; omega
  have hrc : R 181 = (A.length : Int) := by have := hR.2.1; simp at this; omega
  have h182 : R 182 = -9 := hR.2.2
  have hs : f_X0_hasSelection ca fr = some 0 := c_hasSel hC
  obtain ⟨P2, Q2, g1, g2, g3, g4, g5, g6⟩ := zfr_end hf
  simp only [List.append_nil] at g1
  have b1 := c_bh_f hCx (P := A) (T := B) rfl (by rw [g1]; exact g3) hca
  have b2 := c_holder hCx (S := []) rfl hf (x := ca) (by simp; omega)
  have d0 := r_rs hRy (P := A) (R := []) (T := B) rfl (by rw [g1]; exact g3) rfl (x := R 181) (by simp; omega)
  have d1 := r_re hRy (A := A) (R := R2) (Q := Q2) (by rw [g2]; simp) g4 hR2 (x := (A.length : Int)) rfl
  have hA : 0 < A.length := by rw [g1]; exact g5
  obtain ⟨o, c, Y1, T1, q1, hX, q3, q4, q5, q6, q7⟩ := zfr_item hf rfl (S := []) rfl hR2
  have b3 := c_ie hCx (A := P) (X := o :: (Y1 ++ (T1 ++ [c]))) (T := Q) (by rw [q1]; simp) hX (x := (P.length : Int)) rfl
  have d2 := r_struct hRy.1 (P := P) (Y1 := Y1) (T1 := T1) (o := o) (c := c) (Q := Q) q1 q4 q5 q6 q7 (x := (A.length : Int)) (by simp at q3; omega)
  have hLX : A ++ ([] ++ B) = P ++ ((o :: (Y1 ++ (T1 ++ [c]))) ++ Q) := by rw [q1]; simp
  have hIX : zI P [] (o :: (Y1 ++ (T1 ++ [c])) ++ Q) ∨ zbal (P ++ (o :: (Y1 ++ (T1 ++ [c])) ++ Q)) ∧ zcnt (P ++ (o :: (Y1 ++ (T1 ++ [c])) ++ Q)) ≤ 60 ∧ zpk (P ++ (o :: (Y1 ++ (T1 ++ [c])) ++ Q)) ≤ 5 := by
    right
    rw [← hLX]
    exact ⟨hI.bal, hI.2.1, hI.2.2⟩
  have c0 : f_X0_deleteBack n ca fr F = bd (f_X0_dissolve n ca fr F (P.length : Int)) (fun r5 => some (r5.1, r5.2.1, r5.2.2.1, r5.2.2.2)) := by
    unfold f_X0_deleteBack
    simp (disch := omega) only [hs, z_bd, z_jn, z_eq_t, b1, z_lt_t, b2]
  simp only [List.length_append, List.length_nil] at hl
  have eX : (o :: (Y1 ++ (T1 ++ [c]))) = 1 :: ((I ++ 6 :: R2) ++ [11]) := List.append_cancel_right (by
    have := q1
    rw [a1, a2] at this
    simp only [List.append_assoc, List.cons_append, List.nil_append] at this
    simpa using (List.append_cancel_left this).symm : (o :: (Y1 ++ (T1 ++ [c]))) ++ Q = 1 :: ((I ++ 6 :: R2) ++ [11]) ++ Q)
  have lA : (A.length : Int) = P.length + I.length + 2 := by rw [a1]; simp; omega
  have lB : B.length = R2.length + 1 + Q.length := by rw [a2]; simp; omega
  rw [lA] at d0 d1 d2 hca hrc
  have hAl : A.length = P.length + I.length + 2 := by omega
  have hLl : (o :: (Y1 ++ (T1 ++ [c]))).length = I.length + R2.length + 3 := by rw [eX]; simp; omega
  rw [hLl] at b3
  have hT1 : (Y1.length : Int) + T1.length = I.length + R2.length + 1 := by simp at hLl; omega
  subst a1; subst a2
  obtain ⟨F1, u1, u2⟩ := c_remove (N := 180) (n := n) (F := F) (X := P ++ 1 :: (I ++ 6 :: R2)) (Y := [11]) (Z := Q) (by simpa using hCx) (x := (P.length : Int) + ((I.length + R2.length + 3 : Nat) : Int) - 1) (y := (P.length : Int) + ((I.length + R2.length + 3 : Nat) : Int)) (by simp; omega) (by simp; omega)
  have u3 := (u2.at (A := P) (m := 1) (T := I ++ 6 :: (R2 ++ Q)) (by simp) (x := (P.length : Int)) rfl).1
  have u4 := c_ss u2 (A := P) (I := I) (T := R2 ++ Q) (by simp) a3 (x := (P.length : Int)) rfl
  obtain ⟨F2, v1, v2⟩ := c_remove (N := 180) (n := n - ([11] : List Int).length) (F := F1) (X := P ++ 1 :: I) (Y := [6]) (Z := R2 ++ Q) (by simpa using u2) (x := (P.length : Int) + I.length + 2 - 1) (y := (P.length : Int) + I.length + 2) (by simp; omega) (by simp; omega)
  obtain ⟨F3, t1, t2⟩ := c_remove (N := 180) (n := n - ([11] : List Int).length - ([6] : List Int).length) (F := F2) (X := P) (Y := [1]) (Z := I ++ (R2 ++ Q)) (by simpa using v2) (x := (P.length : Int)) (y := (P.length : Int) + 1) rfl (by simp)
  obtain ⟨G1, w1, w2, w3, w4⟩ := r_remove (N := 184) (F := R) (X := P ++ 1 :: (I ++ 6 :: R2)) (Y := [11]) (Z := Q) (by simpa using hRy) (x := (P.length : Int) + 1 + Y1.length + T1.length) (y := (P.length : Int) + 1 + Y1.length + T1.length + 1) (by simp; omega) (by simp; omega)
  obtain ⟨G2, x1, x2, x3, x4⟩ := r_remove (N := 184) (F := G1) (X := P ++ 1 :: I) (Y := [6]) (Z := R2 ++ Q) (by simpa using w2) (x := (P.length : Int) + I.length + 2 - 1) (y := (P.length : Int) + I.length + 2 - 1 + 1) (by simp; omega) (by simp; omega)
  obtain ⟨G3, s1, s2, s3, s4⟩ := r_remove (N := 184) (F := G2) (X := P) (Y := [1]) (Z := I ++ (R2 ++ Q)) (by simpa using x2) (x := (P.length : Int)) (y := (P.length : Int) + 1) rfl (by simp)
  refine ⟨P ++ I, R2 ++ Q, n - ([11] : List Int).length - ([6] : List Int).length - ([1] : List Int).length, (P.length : Int) + I.length, F3, va_up G3 181 ((P.length : Int) + I.length), ?_, ?_, ⟨by simpa using t2, by simp, by simp⟩, ⟨by simpa using s2.up (k := 181) (by omega), by rw [zup_eq]; simp, by rw [zup_ne (by omega), s4, x4, w4]; exact h182⟩, ?_⟩
  · rw [c0]
    unfold f_X0_dissolve f_X0_putCaret
    rw [b3, z_bd, u1, z_bd, u3, z_bd, z_jn]
    simp (disch := omega) only [z_eq_t, u4, z_bd, v1, z_jn, z_lt_f]
    rw [t1]
    simp only [z_bd]
    rw [show ca - 1 - 1 = (P.length : Int) + I.length by omega]
  · obtain ⟨y1, y2, y3⟩ := hRy.1.at (A := P ++ 1 :: I) (m := 6) (T := R2 ++ 11 :: Q) (by simp) (x := (P.length : Int) + I.length + 2 - 1) (by simp; omega)
    rw [zr_6] at y1
    have e2 : zbo 0 (P ++ 1 :: I).reverse = I.length := by
      rw [List.reverse_append, List.reverse_cons, List.append_assoc, zbo_dr _ (Int.le_refl 0) (zbal_dr a3 (Int.le_refl 0))]
      simp only [List.singleton_append, zbo]
      rw [if_pos (by omega)]; rfl
    have e3 := r_beginOf hRy.1 (A := P ++ 1 :: I) (T := 6 :: (R2 ++ 11 :: Q)) (by simp) (x := (P.length : Int) + I.length + 2 - 1) (by simp; omega) (by rw [e2]; simp; omega)
    rw [e2, show (((P ++ 1 :: I).length : Int) - 1 - (I.length : Int)) = (P.length : Int) by simp; omega] at e3
    unfold f_X8_backs
    rw [z181, z182, d0]
    simp (disch := omega) only [z_in, h182, z_eq_t, z_eq_f, z_bd, z_lt_f, z_lt_t, z_jn, y1, d2.1, w1, x1, e3, s1, z_gB]
    rw [show (P.length : Int) + I.length + 2 - 2 = (P.length : Int) + I.length by omega]
  · refine zI.diss hIX (zit_bal hX) (zbal_app a3 hR2) ?_ ?_ (A := P ++ I) (B := R2 ++ Q) (by simp)
    · rw [eX]; simp only [zcnt, zcnt_app]; omega
    · rw [eX]
      refine Int.le_trans ?_ (zpk_in ⟨by omega, by omega⟩)
      have p0 := zpk_0 R2
      simp only [zpk_app, zpk_cons, zop_6]
      have p1 := mx_s 0 (0 + zpk R2)
      have p2 := mx_s (zpk I) (zlv I + mxI 0 (0 + zpk R2))
      have p3 := mx_s (zpk I) (zlv I + zpk R2)
      omega
/-- a structure dissolved, its first row's beginning being the place -/
theorem e_backStr {n ca fr : Int} {F R : Nat → Int} {A B P R2 Q : List Int} (hI : zI A [] B) (hC : zCs n ca fr F A [] B) (hR : zRs R A [] B) (hf : zfr A B P [] R2 Q) (hR2 : zbal R2) : ∃ (A' B' : List Int) (n' ca' : Int) (F' G : Nat → Int), f_X0_deleteBack n ca fr F = some (n', ca', ca', F') ∧ f_X8_backs 184 R = some (1, G) ∧ zCs n' ca' ca' F' A' [] B' ∧ zRs G A' [] B' ∧ zI A' [] B' := by
  have hf2 := hf
  rcases hf with ⟨k, a1, a2, a3, a4⟩ | ⟨J, a1, a2, a3⟩ | ⟨I, a1, a2, a3⟩
  · exact e_backK hI hC hR hf2 a1 a2 a3 a4 hR2
  · exact e_backN hI hC hR hf2 a1 a2 a3 hR2
  · exact e_backD hI hC hR hf2 a1 a2 a3 hR2
/-- taking back, whole -/
theorem e_backs {n ca fr : Int} {F R : Nat → Int} {A S B : List Int} (hI : zI A S B) (hC : zCs n ca fr F A S B) (hR : zRs R A S B) : (f_X0_canDeleteBack ca fr = some 0 ∧ f_X8_backs 184 R = some (0, R)) ∨ ∃ (A' B' : List Int) (n' ca' : Int) (F' G : Nat → Int), f_X0_canDeleteBack ca fr = some 1 ∧ f_X0_deleteBack n ca fr F = some (n', ca', ca', F') ∧ f_X8_backs 184 R = some (1, G) ∧ zCs n' ca' ca' F' A' [] B' ∧ zRs G A' [] B' ∧ zI A' [] B' := by
  have hl := hI.len
  by_cases hS : S = []
  · subst hS
    have h182 : R 182 = -9 := hR.2.2
    have hcd := c_canDel hC
    obtain ⟨P, R0, R2, Q, eA, eB, hP, hQ, b1, b2, hPQ⟩ := zrow2 hI.1.1
    by_cases hA : A = []
    · left
      rw [show decide (A ≠ []) = false from decide_eq_false (fun h => h hA)] at hcd
      subst hA
      have hrc : R 181 = 0 := by have := hR.2.1; simpa using this
      have d0 := r_rs hR.1 (P := []) (R := []) (T := B) rfl (Or.inl rfl) rfl (x := R 181) (by simp; omega)
      refine ⟨hcd, ?_⟩
      unfold f_X8_backs
      rw [z181, z182, d0]
      simp (disch := omega) only [z_in, h182, z_eq_t, z_bd, List.length_nil, Int.natCast_zero, z_lt_f, z_gB]
    · right
      rw [show decide (A ≠ []) = true from decide_eq_true hA] at hcd
      by_cases hR0 : R0 = []
      · rcases zrow hI.1.1 with ⟨hA2, -⟩ | ⟨P', R', R2', Q', s, hf, d1, d2, d3, d4⟩
        · exfalso
          subst hR0
          simp only [List.append_nil] at eA
          subst eA
          rcases hP with rfl | ⟨P1, o, rfl, h1, h2⟩
          · exact hA rfl
          · obtain ⟨s', q1, q2⟩ := zrun_snoc_inv hA2
            rcases zst_cases q2 with ⟨a, b, e⟩ | ⟨a, b, e⟩ | ⟨rfl, r, e1, e2⟩ | ⟨k2, e, h3⟩
            · omega
            · cases e
            · cases e2
            · omega
        · have hR' : R' = [] := by
            obtain ⟨P2, Q2, g1, g2, g3, g4, g5, g6⟩ := zfr_end hf
            have x1 := zrs_at g3 d1
            have x2 := zrs_at hP b1
            rw [← g1] at x1
            rw [← eA, x1, hR0] at x2
            exact List.length_eq_zero_iff.mp x2
          subst hR'
          obtain ⟨A', B', n', ca', F', G, y⟩ := e_backStr hI hC hR hf d2
          exact ⟨A', B', n', ca', F', G, hcd, y⟩
      · obtain ⟨X, R1, e1, hX, hR1⟩ := zitB b1 hR0
        have eA2 : A = P ++ (R1 ++ X) := by rw [eA, e1]
        subst eA2
        obtain ⟨A', B', n', ca', F', G, y⟩ := e_backItem hI hC hR hP hR1 hX
        exact ⟨A', B', n', ca', F', G, hcd, y⟩
  · right
    obtain ⟨h1, G, h2, h3⟩ := c_delSel hC hS
    obtain ⟨G2, h4, h5, -⟩ := r_clear hR
    refine ⟨A, B, _, fr, G, G2, h1, h2, ?_, h3, h5, hI.del⟩
    have h182 : R 182 = (A.length : Int) := by have := hR.2.2; rwa [if_neg hS] at this
    unfold f_X8_backs
    simp (disch := omega) only [z182, z_in, h182, z_eq_f, h4, z_bd, z_gB]
