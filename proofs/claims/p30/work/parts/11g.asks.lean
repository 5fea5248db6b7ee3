/-! place; extending; moves that are calls -/
/-- all that is asked of a place and its row -/
theorem e_row {n : Int} {F R : Nat → Int} {L A B : List Int} (hb : zbal (A ++ B)) (hL : L = A ++ B) (hC : zCx 180 n F L) (hR : zRy 184 R L) {x : Int} (hx : x = (A.length : Int)) : ∃ (P R0 R2 Q : List Int) (w kd : Int), (A = P ++ R0 ∧ B = R2 ++ Q ∧ zend P ∧ zbeg Q ∧ zbal R0 ∧ zbal R2) ∧ (f_X3_rowStart 180 n F x = some (P.length : Int) ∧ f_X8_rowStart 184 R x = some (P.length : Int) ∧ f_X3_rowEnd 180 n F x = some (x + R2.length) ∧ f_X8_rowEnd 184 R x = some (x + R2.length)) ∧ f_X3_kindAround 180 n F (P.length : Int) = some kd ∧ (∃ mm, f_X3_mark 180 n F ((P.length : Int) - 1) = some mm ∧ (mm = 6 ↔ w = 1) ∧ 0 ≤ mm ∧ mm ≤ 122) ∧ ((P.length = 0 ∧ kd = 0 ∧ w = 0) ∨ (0 < P.length ∧ R ((P.length : Int) - 1).toNat = -kd ∧ w = 0 ∧ 1 ≤ kd ∧ kd ≤ 5 ∧ 0 < Q.length) ∨ (0 < P.length ∧ R ((P.length : Int) - 1).toNat = -10 ∧ w = 1 ∧ kd = 1 ∧ 0 < Q.length)) := by
  subst hL
  have h180 := hC.1
  rcases zrow hb with ⟨h1, h2⟩ | ⟨P, R0, R2, Q, s, hf, h1, h2, h3, h4⟩
  · refine ⟨[], A, B, [], 0, 0, ⟨rfl, by simp, Or.inl rfl, Or.inl rfl, h1, h2⟩, ⟨?_, ?_, ?_, ?_⟩, ?_, ⟨0, ?_, by decide, by decide, by decide⟩, Or.inl ⟨rfl, rfl, rfl⟩⟩
    · exact c_rs hC (P := []) (R := A) (T := B) (by simp) (Or.inl rfl) h1 (by simpa using hx)
    · exact r_rs hR (P := []) (R := A) (T := B) (by simp) (Or.inl rfl) h1 (by simpa using hx)
    · rw [c_re hC (A := A) (R := B) (Q := []) (by simp) (Or.inl rfl) h2 hx, hx]
    · rw [r_re hR (A := A) (R := B) (Q := []) (by simp) (Or.inl rfl) h2 hx, hx]
    · unfold f_X3_kindAround
      simp (disch := omega) only [List.length_nil, z_jn, z_lt_f]
    · exact hC.out (by simp)
  · obtain ⟨P2, Q2, g1, g2, g3, g4, g5, g6⟩ := zfr_end hf
    have cs := c_rs hC (P := P2) (R := R0) (T := B) (by rw [g1]; simp) g3 h1 (x := x) (by rw [hx, g1]; simp)
    have rs := r_rs hR (P := P2) (R := R0) (T := B) (by rw [g1]; simp) g3 h1 (x := x) (by rw [hx, g1]; simp)
    have ce := c_re hC (A := A) (R := R2) (Q := Q2) (by rw [g2]) g4 h2 hx
    have re := r_re hR (A := A) (R := R2) (Q := Q2) (by rw [g2]) g4 h2 hx
    have hP2 : (P2.length : Int) = (A.length : Int) - R0.length := by rw [g1]; simp
    have ho := c_holder hC (S := []) (L := A ++ B) (by simp) hf (x := (P2.length : Int)) hP2
    have lA : P2.length ≤ A.length := by omega
    have lL : (A ++ B).length ≤ 180 := h180.2.1
    simp only [List.length_append] at lL
    have hmk : ∀ (m : Int) (T : List Int), A ++ B = P ++ m :: T → (1 ≤ m ∧ m ≤ 5) → f_X3_kindAround 180 n F (P2.length : Int) = some m := by
      intro m T e hm
      have hh := (hC.at (A := P) (m := m) (T := T) e (x := (P.length : Int)) rfl).1
      unfold f_X3_kindAround
      simp (disch := omega) only [z_jn, z_lt_t, ho, z_bd, hh]
    have base : (A = P2 ++ R0 ∧ B = R2 ++ Q2 ∧ zend P2 ∧ zbeg Q2 ∧ zbal R0 ∧ zbal R2) ∧ (f_X3_rowStart 180 n F x = some (P2.length : Int) ∧ f_X8_rowStart 184 R x = some (P2.length : Int) ∧ f_X3_rowEnd 180 n F x = some (x + R2.length) ∧ f_X8_rowEnd 184 R x = some (x + R2.length)) := ⟨⟨g1, g2, g3, g4, h1, h2⟩, cs, rs, by rw [ce, hx], by rw [re, hx]⟩
    rcases hf with ⟨k, a1, a2, a3, a4⟩ | ⟨J, a1, a2, a3⟩ | ⟨I, a1, a2, a3⟩
    · have lP : P2.length = P.length + 1 := by have := congrArg List.length a1; simp at this; omega
      have e : A ++ B = P ++ k :: (R0 ++ B) := by rw [a1]; simp
      have h5 := hC.at (A := P) (m := k) (T := R0 ++ B) e (x := (P2.length : Int) - 1) (by omega)
      have h6 := hR.1.at (A := P) (m := k) (T := R0 ++ B) e (x := (P2.length : Int) - 1) (by omega)
      rw [zr_op ⟨by omega, a4⟩] at h6
      exact ⟨P2, R0, R2, Q2, 0, k, base.1, base.2, hmk k _ e ⟨by omega, a4⟩, ⟨k, h5.1, by omega, by omega, by omega⟩, Or.inr (Or.inl ⟨g5, h6.1, rfl, by omega, a4, g6⟩)⟩
    · have lP : P2.length = P.length + 1 := by have := congrArg List.length a1; simp at this; omega
      have e : A ++ B = P ++ 1 :: (R0 ++ B) := by rw [a1]; simp
      have h5 := hC.at (A := P) (m := 1) (T := R0 ++ B) e (x := (P2.length : Int) - 1) (by omega)
      have h6 := hR.1.at (A := P) (m := 1) (T := R0 ++ B) e (x := (P2.length : Int) - 1) (by omega)
      rw [zr_op ⟨by omega, by omega⟩] at h6
      exact ⟨P2, R0, R2, Q2, 0, 1, base.1, base.2, hmk 1 _ e ⟨by omega, by omega⟩, ⟨1, h5.1, by omega, by omega, by omega⟩, Or.inr (Or.inl ⟨g5, h6.1, rfl, by omega, by omega, g6⟩)⟩
    · have lP : P2.length = P.length + I.length + 2 := by have := congrArg List.length a1; simp at this; omega
      have e : A ++ B = P ++ 1 :: (I ++ 6 :: (R0 ++ B)) := by rw [a1]; simp
      have e2 : A ++ B = (P ++ 1 :: I) ++ 6 :: (R0 ++ B) := by rw [e]; simp
      have h5 := hC.at (A := P ++ 1 :: I) (m := 6) (T := R0 ++ B) e2 (x := (P2.length : Int) - 1) (by simp; omega)
      have h6 := hR.1.at (A := P ++ 1 :: I) (m := 6) (T := R0 ++ B) e2 (x := (P2.length : Int) - 1) (by simp; omega)
      rw [zr_6] at h6
      exact ⟨P2, R0, R2, Q2, 1, 1, base.1, base.2, hmk 1 _ e ⟨by omega, by omega⟩, ⟨6, h5.1, by omega, by omega, by omega⟩, Or.inr (Or.inr ⟨g5, h6.1, rfl, rfl, g6⟩)⟩
/-- the mark behind a place, where its row goes on or ends -/
theorem c_next {n : Int} {F : Nat → Int} {L A R2 Q : List Int} (hC : zCx 180 n F L) (hL : L = A ++ (R2 ++ Q)) (hQ : zbeg Q) (hR : zbal R2) {x : Int} (hx : x = (A.length : Int)) : (R2 = [] ∧ ∃ m, f_X3_mark 180 n F x = some m ∧ (m = 0 ∨ m = 6 ∨ 11 ≤ m ∧ m ≤ 15)) ∨ ∃ X R3 m, R2 = X ++ R3 ∧ zit X ∧ zbal R3 ∧ f_X3_mark 180 n F x = some m ∧ ((1 ≤ m ∧ m ≤ 5) ∨ (42 ≤ m ∧ m ≤ 122)) ∧ ∃ Y, X = m :: Y := by
  by_cases h : R2 = []
  · left
    refine ⟨h, ?_⟩
    subst h
    rcases hQ with rfl | ⟨c, Q0, rfl, hc⟩
    · have h1 := hC.1
      refine ⟨0, hC.out ?_, Or.inl rfl⟩
      rw [hL] at h1
      simp at h1
      omega
    · exact ⟨c, (hC.at (A := A) (m := c) (T := Q0) (by rw [hL]; rfl) hx).1, by omega⟩
  · right
    obtain ⟨X, R3, e, hX, hR3⟩ := zitF hR h
    obtain ⟨m, Y, e2, -, e3⟩ := zit_first hX
    exact ⟨X, R3, m, e, hX, hR3, (hC.at (A := A) (m := m) (T := Y ++ R3 ++ Q) (by rw [hL, e, e2]; simp) hx).1, by omega, Y, e2⟩
theorem r_isPlace {R : Nat → Int} {L : List Int} (hR : zRy 184 R L) {x : Int} (hx : -2147483648 ≤ x ∧ x ≤ 2147483647) : f_X8_isPlace R x = some (zbi (decide (0 ≤ x ∧ x ≤ L.length))) := by
  have h1 := hR.2
  unfold f_X8_isPlace
  by_cases h : 0 ≤ x ∧ x ≤ L.length
  · rw [show decide (0 ≤ x ∧ x ≤ L.length) = true from decide_eq_true h, z180, h1.1]
    simp (disch := omega) only [z_gR, z_in, r_in_t, z_bd, z_gB, zbi_t]
  · rw [show decide (0 ≤ x ∧ x ≤ L.length) = false from decide_eq_false h, z180, h1.1]
    simp (disch := omega) only [z_gR, z_in, r_in_f, z_bd, z_gB, zbi_f]
theorem c_hasPlace {n x : Int} {l : Nat} (hn : n = (l : Int)) (hl : l ≤ 1000) (hx : -2147483648 ≤ x ∧ x ≤ 2147483647) : f_X3_hasPlace n x = some (zbi (decide (0 ≤ x ∧ x ≤ l))) := by
  unfold f_X3_hasPlace
  by_cases h : 0 ≤ x ∧ x ≤ l
  · rw [show decide (0 ≤ x ∧ x ≤ (l : Int)) = true from decide_eq_true h]
    simp (disch := omega) only [z_jn, z_lt_f, z_gB, zbi_t]
  · rw [show decide (0 ≤ x ∧ x ≤ (l : Int)) = false from decide_eq_false h]
    by_cases h2 : x < 0
    · simp (disch := omega) only [z_jn, z_lt_t, z_gB, zbi_f]
    · simp (disch := omega) only [z_jn, z_lt_f, z_lt_t, z_gB, zbi_f]
theorem e_place {n ca fr rf x y : Int} {F R : Nat → Int} {A S B : List Int} (hI : zI A S B) (hC : zCs n ca fr F A S B) (hR : zRs R A S B) (hx : -2147483648 ≤ x ∧ x ≤ 2147483647) (hy : -2147483648 ≤ y ∧ y ≤ 2147483647) : ∃ t v v' k, f_X7_place n F x y = some (t, v) ∧ f_X8_place rf R x y = some (v', k) ∧ zag t k v v' 3 1 := by
  have h180 := hC.1.1
  have cp := c_hasPlace h180.1 (by omega) hx
  have rp := r_isPlace hR.1 hx
  by_cases h : 0 ≤ x ∧ x ≤ ((A ++ (S ++ B)).length : Int)
  · rw [show decide (0 ≤ x ∧ x ≤ ((A ++ (S ++ B)).length : Int)) = true from decide_eq_true h, zbi_t] at cp rp
    obtain ⟨A', B', e1, e2⟩ := zat (L := A ++ (S ++ B)) (x := x) h
    have hb : zbal (A' ++ B') := by rw [e1]; exact hI.bal
    obtain ⟨P, R0, R2, Q, w, kd, ⟨g1, g2, g3, g4, g5, g6⟩, ⟨f1, f2, f3, f4⟩, f5, ⟨mm, f6, f7, f8, f9⟩, f10⟩ := e_row hb e1.symm hC.1 hR.1 e2
    have lA : A'.length = P.length + R0.length := by rw [g1]; simp
    have lB : B'.length = R2.length + Q.length := by rw [g2]; simp
    have lL : A'.length + B'.length ≤ 180 := by
      have := congrArg List.length e1
      rw [List.length_append] at this
      omega
    by_cases hy2 : 0 ≤ y ∧ y ≤ 5
    · have q1 := c_level hC.1 (A := A') (B := B') e1.symm e2
      have q2 := r_level hR.1.1 (A := A') (B := B') e1.symm e2
      have q3 := c_rowItems hC.1 (A := P) (S := R0) (B := B') (by rw [← e1, g1]; simp) (x := (P.length : Int)) (y := x) rfl (by omega)
      have q4 := r_itemsIn hR.1.1 (A := P) (S := R0) (B := B') (by rw [← e1, g1]; simp) g5 (x := (P.length : Int)) (y := x) rfl (by omega)
      have q5 := c_rowItems hC.1 (A := P) (S := R0 ++ R2) (B := Q) (by rw [← e1, g1, g2]; simp) (x := (P.length : Int)) (y := x + R2.length) rfl (by simp; omega)
      have q6 := r_itemsIn hR.1.1 (A := P) (S := R0 ++ R2) (B := Q) (by rw [← e1, g1, g2]; simp) (zbal_app g5 g6) (x := (P.length : Int)) (y := x + R2.length) rfl (by simp; omega)
      have b1 := zlv_b A'
      have b3 := zni_b R0 0
      have b5 := zni_b (R0 ++ R2) 0
      rw [List.length_append] at b5
      have h6 : y = 0 ∨ y = 1 ∨ y = 2 ∨ y = 3 ∨ y = 4 ∨ y = 5 := by omega
      rcases h6 with rfl | rfl | rfl | rfl | rfl | rfl
      · refine ⟨0, zlv A', zlv A', 0, ?_, ?_, Or.inl ⟨rfl, rfl, rfl, by omega⟩⟩
        · unfold f_X7_place
          simp (disch := omega) only [cp, z_bd, z_eq_f, z_eq_t, f1, q1]
        · unfold f_X8_place
          rcases f10 with ⟨i1, i2, i3⟩ | ⟨i1, i2, i3, i4, i5, i6⟩ | ⟨i1, i2, i3, i4, i5⟩ <;> simp (disch := omega) only [rp, z_bd, z_jn, z_eq_f, z_gR, r_in_t, r_rf_0, z_eq_t, f2, f4, z_lt_f, z_lt_t, z_in, i2, q2]
      · refine ⟨0, (zni 0 R0 : Int), (zni 0 R0 : Int), 0, ?_, ?_, Or.inl ⟨rfl, rfl, rfl, by omega⟩⟩
        · unfold f_X7_place
          simp (disch := omega) only [cp, z_bd, z_eq_f, z_eq_t, f1, q3]
        · unfold f_X8_place
          rcases f10 with ⟨i1, i2, i3⟩ | ⟨i1, i2, i3, i4, i5, i6⟩ | ⟨i1, i2, i3, i4, i5⟩ <;> simp (disch := omega) only [rp, z_bd, z_jn, z_eq_f, z_gR, r_in_t, r_rf_0, z_eq_t, f2, f4, z_lt_f, z_lt_t, z_in, i2, q4]
      · refine ⟨0, (zni 0 (R0 ++ R2) : Int), (zni 0 (R0 ++ R2) : Int), 0, ?_, ?_, Or.inl ⟨rfl, rfl, rfl, by omega⟩⟩
        · unfold f_X7_place
          simp (disch := omega) only [cp, z_bd, z_eq_f, z_eq_t, f1, f3, q5]
        · unfold f_X8_place
          rcases f10 with ⟨i1, i2, i3⟩ | ⟨i1, i2, i3, i4, i5, i6⟩ | ⟨i1, i2, i3, i4, i5⟩ <;> simp (disch := omega) only [rp, z_bd, z_jn, z_eq_f, z_gR, r_in_t, r_rf_0, z_eq_t, f2, f4, z_lt_f, z_lt_t, z_in, i2, q6]
      · refine ⟨0, kd, kd, 0, ?_, ?_, Or.inl ⟨rfl, rfl, rfl, by omega⟩⟩
        · unfold f_X7_place
          simp (disch := omega) only [cp, z_bd, z_eq_f, z_eq_t, f1, f5]
        · unfold f_X8_place
          rcases f10 with ⟨i1, i2, i3⟩ | ⟨i1, i2, i3, i4, i5, i6⟩ | ⟨i1, i2, i3, i4, i5⟩
          · simp (disch := omega) only [rp, z_bd, z_jn, z_eq_f, z_gR, r_in_t, r_rf_0, z_eq_t, f2, f4, z_lt_f, z_lt_t, z_in, i2]
          · simp (disch := omega) only [rp, z_bd, z_jn, z_eq_f, z_gR, r_in_t, r_rf_0, z_eq_t, f2, f4, z_lt_f, z_lt_t, z_in, i2, Int.neg_neg]
          · simp (disch := omega) only [rp, z_bd, z_jn, z_eq_f, z_gR, r_in_t, r_rf_0, z_eq_t, f2, f4, z_lt_f, z_lt_t, z_in, i2, i4]
      · refine ⟨0, w, w, 0, ?_, ?_, Or.inl ⟨rfl, rfl, rfl, by omega⟩⟩
        · unfold f_X7_place
          rcases f10 with ⟨i1, i2, i3⟩ | ⟨i1, i2, i3, i4, i5, i6⟩ | ⟨i1, i2, i3, i4, i5⟩ <;> simp (disch := omega) only [cp, z_bd, z_eq_f, z_eq_t, f1, f6, z_jn, i3]
        · unfold f_X8_place
          rcases f10 with ⟨i1, i2, i3⟩ | ⟨i1, i2, i3, i4, i5, i6⟩ | ⟨i1, i2, i3, i4, i5⟩ <;> simp (disch := omega) only [rp, z_bd, z_jn, z_eq_f, z_gR, r_in_t, r_rf_0, z_eq_t, f2, f4, z_lt_f, z_lt_t, z_in, i2, i3]
      · rcases c_next hC.1 (A := A') (R2 := R2) (Q := Q) (by rw [← e1, g2]) g4 g6 e2 with ⟨i0, m, m1, m2⟩ | ⟨X, R3, m, m0, m1, m2, m3, m4, Y, m5⟩
        · have i0' : R2.length = 0 := by rw [i0]; rfl
          refine ⟨0, -9, -9, 0, ?_, ?_, Or.inl ⟨rfl, rfl, rfl, by omega⟩⟩
          · unfold f_X7_place
            simp (disch := omega) only [cp, z_bd, z_eq_f, z_eq_t, f1, m1, c_st_f, z_jn]
          · unfold f_X8_place
            rcases f10 with ⟨i1, i2, i3⟩ | ⟨i1, i2, i3, i4, i5, i6⟩ | ⟨i1, i2, i3, i4, i5⟩ <;> simp (disch := omega) only [rp, z_bd, z_jn, z_eq_f, z_gR, r_in_t, r_rf_0, z_eq_t, f2, f4, z_lt_f, z_lt_t, z_in, i2]
        · have hXl := zit_ne m1
          have i0' : 0 < R2.length := by rw [m0]; simp; omega
          have hm := (hR.1.1.at (A := A') (m := m) (T := Y ++ R3 ++ Q) (by rw [← e1, g2, m0, m5]; simp) e2).1
          refine ⟨0, m, m, 0, ?_, ?_, Or.inl ⟨rfl, rfl, rfl, by omega⟩⟩
          · unfold f_X7_place
            simp (disch := omega) only [cp, z_bd, z_eq_f, z_eq_t, f1, m3, c_st_t, z_jn]
          · unfold f_X8_place
            rcases m4 with m4 | m4
            · rw [zr_op m4] at hm
              rcases f10 with ⟨i1, i2, i3⟩ | ⟨i1, i2, i3, i4, i5, i6⟩ | ⟨i1, i2, i3, i4, i5⟩ <;> simp (disch := omega) only [rp, z_bd, z_jn, z_eq_f, z_gR, r_in_t, r_rf_0, z_eq_t, f2, f4, z_lt_f, z_lt_t, z_in, i2, hm, Int.neg_neg]
            · rw [zr_sy m4.1] at hm
              rcases f10 with ⟨i1, i2, i3⟩ | ⟨i1, i2, i3, i4, i5, i6⟩ | ⟨i1, i2, i3, i4, i5⟩ <;> simp (disch := omega) only [rp, z_bd, z_jn, z_eq_f, z_gR, r_in_t, r_rf_0, z_eq_t, f2, f4, z_lt_f, z_lt_t, z_in, i2, hm]
    · refine ⟨1, 0, 0, 2, ?_, ?_, Or.inr (Or.inr ⟨rfl, rfl, by decide⟩)⟩
      · unfold f_X7_place
        simp (disch := omega) only [cp, z_bd, z_eq_f, f1]
      · unfold f_X8_place
        simp (disch := omega) only [rp, z_bd, z_jn, z_eq_f, z_gR, r_in_f, z_eq_t, r_rf_1]
  · rw [show decide (0 ≤ x ∧ x ≤ ((A ++ (S ++ B)).length : Int)) = false from decide_eq_false h, zbi_f] at cp rp
    refine ⟨3, 0, 0, 1, ?_, ?_, Or.inr (Or.inl ⟨rfl, rfl⟩)⟩
    · unfold f_X7_place
      simp (disch := omega) only [cp, z_bd, z_eq_t]
    · unfold f_X8_place
      simp (disch := omega) only [rp, z_bd, z_jn, z_eq_t, z_eq_f, r_rf_1]
theorem e_moveTo {n ca fr rf x : Int} {F R : Nat → Int} {A S B : List Int} (hI : zI A S B) (hC : zCs n ca fr F A S B) (hR : zRs R A S B) (hx : -2147483648 ≤ x ∧ x ≤ 2147483647) : ∃ t v v' k ca' fr' R', f_X7_moveTo n ca fr x = some (t, v, ca', fr') ∧ f_X8_moveTo rf R x = some (v', k, R') ∧ zag t k v v' 3 9 ∧ ∃ A' S' B', zI A' S' B' ∧ zCs n ca' fr' F A' S' B' ∧ zRs R' A' S' B' := by
  have hl := hI.len
  have h180 := hC.1.1
  have hca : ca = (A.length : Int) + S.length := hC.2.1
  have hc2 : R 181 = ca := by rw [hR.2.1, hca]
  have cp := c_hasPlace h180.1 (by omega) hx
  have rp := r_isPlace hR.1 hx
  by_cases h : 0 ≤ x ∧ x ≤ ((A ++ (S ++ B)).length : Int)
  · rw [show decide (0 ≤ x ∧ x ≤ ((A ++ (S ++ B)).length : Int)) = true from decide_eq_true h, zbi_t] at cp rp
    obtain ⟨A', B', e1, e2⟩ := zat (L := A ++ (S ++ B)) (x := x) h
    refine ⟨0, ca, ca, 0, x, x, va_up (va_up R 181 x) 182 (-9), ?_, ?_, Or.inl ⟨rfl, rfl, rfl, by omega⟩, A', [], B', hI.go e1, c_move hC e1 e2, r_move hR e1 e2⟩
    · unfold f_X7_moveTo f_X0_putCaret
      simp (disch := omega) only [cp, z_bd, z_eq_f]
    · unfold f_X8_moveTo
      simp (disch := omega) only [rp, z_bd, z_jn, z_eq_f, z_eq_t, r_rf_0, z181, z182, z_in, hc2]
  · rw [show decide (0 ≤ x ∧ x ≤ ((A ++ (S ++ B)).length : Int)) = false from decide_eq_false h, zbi_f] at cp rp
    refine ⟨3, 0, 0, 1, ca, fr, R, ?_, ?_, Or.inr (Or.inl ⟨rfl, rfl⟩), A, S, B, hI, hC, hR⟩
    · unfold f_X7_moveTo
      simp (disch := omega) only [cp, z_bd, z_eq_t]
    · unfold f_X8_moveTo
      simp (disch := omega) only [rp, z_bd, z_jn, z_eq_t, z_eq_f, r_rf_1]
theorem e_moveBy {n ca fr rf x : Int} {F R : Nat → Int} {A S B : List Int} (hI : zI A S B) (hC : zCs n ca fr F A S B) (hR : zRs R A S B) (hx : -2147483648 ≤ x ∧ x ≤ 2147483647) : ∃ t v v' k ca' fr' R', f_X7_moveBy n ca fr x = some (t, v, ca', fr') ∧ f_X8_moveBy rf R x = some (v', k, R') ∧ zag t k v v' 1 9 ∧ ∃ A' S' B', zI A' S' B' ∧ zCs n ca' fr' F A' S' B' ∧ zRs R' A' S' B' := by
  by_cases h : -200 ≤ x ∧ x ≤ 200
  · obtain ⟨A', B', p, G, m1, m2, m3, m4, m5, m6⟩ := e_moves hI hC hR (x := x) (by omega)
    have hl := m5.len
    have hp := m2.2.2
    refine ⟨0, p, p, 0, p, p, G, ?_, ?_, Or.inl ⟨rfl, rfl, rfl, by omega⟩, A', [], B', m5, m2, m4⟩
    · unfold f_X7_moveBy
      simp (disch := omega) only [z_jn, z_lt_f, m1, z_bd]
    · unfold f_X8_moveBy
      simp (disch := omega) only [z_gR, r_in_t, z_bd, z_jn, z_eq_f, z_eq_t, r_rf_0, m3, z_in, z181, m6]
  · refine ⟨1, 0, 0, 1, ca, fr, R, ?_, ?_, Or.inr (Or.inl ⟨rfl, rfl⟩), A, S, B, hI, hC, hR⟩
    · unfold f_X7_moveBy
      by_cases h2 : x < -200
      · simp (disch := omega) only [z_jn, z_lt_t]
      · simp (disch := omega) only [z_jn, z_lt_f, z_lt_t]
    · unfold f_X8_moveBy
      simp (disch := omega) only [z_gR, r_in_f, z_bd, z_jn, z_eq_t, z_eq_f, r_rf_1]
theorem e_growc {n ca fr rf : Int} {F R : Nat → Int} {A S B : List Int} (hI : zI A S B) (hC : zCs n ca fr F A S B) (hR : zRs R A S B) : ∃ t v v' k ca' fr' R', f_X7_grow n ca fr F = some (t, v, ca', fr') ∧ f_X8_grow rf R = some (v', k, R') ∧ zag t k v v' 2 9 ∧ ∃ A' S' B', zI A' S' B' ∧ zCs n ca' fr' F A' S' B' ∧ zRs R' A' S' B' := by
  rcases e_grow hI hC hR with ⟨h1, h2⟩ | ⟨A', S', B', ca', fr', G, h1, h2, h3, h4, h5, h6⟩
  · refine ⟨2, 0, 0, 1, ca, fr, R, ?_, ?_, Or.inr (Or.inl ⟨rfl, rfl⟩), A, S, B, hI, hC, hR⟩
    · unfold f_X7_grow
      rw [h1, z_bd]
      simp (disch := omega) only [z_eq_t]
    · unfold f_X8_grow
      rw [h2, z_bd]
      simp (disch := omega) only [z_jn, z_eq_t, z_eq_f, r_rf_1, z_bd]
  · have hl := h5.len
    have e1 := c_rowItems h3.1 (A := A') (S := S') (B := B') rfl h3.2.2 h3.2.1
    have hG : G 182 = (A'.length : Int) := by have := h4.2.2; rwa [if_neg h6] at this
    have e2 := r_itemsIn h4.1.1 (A := A') (S := S') (B := B') rfl h5.1.2 (x := G 182) (y := G 181) hG h4.2.1
    have hb := zni_b S' 0
    refine ⟨0, (zni 0 S' : Int), (zni 0 S' : Int), 0, ca', fr', G, ?_, ?_, Or.inl ⟨rfl, rfl, rfl, by omega⟩, A', S', B', h5, h3, h4⟩
    · unfold f_X7_grow f_X0_selectedOfRow
      rw [h1, z_bd]
      simp (disch := omega) only [z_eq_f, e1, z_bd]
    · unfold f_X8_grow
      rw [h2, z_bd]
      simp (disch := omega) only [z_jn, z_eq_t, z_eq_f, r_rf_0, z_bd, z181, z182, z_in, e2]
theorem e_extend {n ca fr rf x : Int} {F R : Nat → Int} {A S B : List Int} (hI : zI A S B) (hC : zCs n ca fr F A S B) (hR : zRs R A S B) (hx : x = 0 ∨ x = 1) : ∃ t v v' k ca' fr' R', f_X7_extend n ca fr F x = some (t, v, ca', fr') ∧ f_X8_extend rf R x = some (v', k, R') ∧ zag t k v v' 2 9 ∧ ∃ A' S' B', zI A' S' B' ∧ zCs n ca' fr' F A' S' B' ∧ zRs R' A' S' B' := by
  have hl := hI.len
  have hCx := hC.1
  have hRy := hR.1
  have hca : ca = (A.length : Int) + S.length := hC.2.1
  have hfr : fr = (A.length : Int) := hC.2.2
  have hrc : R 181 = (A.length : Int) + S.length := hR.2.1
  obtain ⟨P, R0, R2, Q, eA, eB, hP, hQ, b1, b2, hPQ⟩ := zrow2 hI.1.1
  have lA : A.length = P.length + R0.length := by rw [eA]; simp
  have lB : B.length = R2.length + Q.length := by rw [eB]; simp
  have hcase : (S = [] ∧ R 182 = -9 ∧ R 181 = (A.length : Int)) ∨ (S ≠ [] ∧ R 182 = (A.length : Int)) := by
    by_cases hS : S = []
    · left
      refine ⟨hS, by have := hR.2.2; rwa [if_pos hS] at this, by rw [hrc, hS]; simp⟩
    · right
      exact ⟨hS, by have := hR.2.2; rwa [if_neg hS] at this⟩
  have u1 : ∀ a b : Int, va_up (va_up R 182 a) 181 b 182 = a := fun a b => by rw [zup_ne (by omega), zup_eq]
  have u2 : ∀ a b : Int, va_up (va_up R 182 a) 181 b 181 = b := fun a b => by rw [zup_eq]
  rcases hx with rfl | rfl
  · have rs := r_rs hRy (P := P) (R := R0) (T := S ++ B) (by rw [eA]; simp) hP b1 (x := (A.length : Int)) (by omega)
    by_cases h0 : R0 = []
    · have h0' : R0.length = 0 := by rw [h0]; rfl
      have cb := c_bh_f hCx (P := P) (T := S ++ B) (by rw [eA, h0]; simp) hP (x := fr) (by omega)
      refine ⟨2, 0, 0, 1, ca, fr, R, ?_, ?_, Or.inr (Or.inl ⟨rfl, rfl⟩), A, S, B, hI, hC, hR⟩
      · unfold f_X7_extend f_X0_widenLeft
        simp (disch := omega) only [z_jn, z_eq_t, cb, z_bd, z_gB]
      · unfold f_X8_extend
        rcases hcase with ⟨hS, c1, c2⟩ | ⟨hS, c1⟩
        · simp (disch := omega) only [z_in, z_jn, z181, z182, c1, c2, z_eq_t, z_eq_f, rs, z_bd, z_lt_f, r_rf_1]
        · simp (disch := omega) only [z_in, z_jn, z181, z182, c1, z_eq_t, z_eq_f, rs, z_bd, z_lt_f, r_rf_1]
    · obtain ⟨X, R1, e1, hX, hR1⟩ := zitB b1 h0
      have hXl := zit_ne hX
      have lR : R0.length = R1.length + X.length := by rw [e1]; simp
      have eL : A ++ (S ++ B) = (P ++ R1) ++ ((X ++ S) ++ B) := by rw [eA, e1]; simp
      have cb := c_bh_t hCx (A := P ++ R1) (X := X) (T := S ++ B) (by rw [eL]; simp) hX (x := fr) (by simp; omega)
      have ci := c_is hCx (A := P ++ R1) (X := X) (T := S ++ B) (by rw [eL]; simp) hX (x := fr) (by simp; omega)
      have ri := r_itemStart hRy.1 (A := P ++ R1) (X := X) (T := S ++ B) (by rw [eL]; simp) hX (x := (A.length : Int)) (by simp; omega)
      have cc := c_rowItems hCx (A := P ++ R1) (S := X ++ S) (B := B) eL (x := ((P ++ R1).length : Int)) (y := ca) rfl (by simp; omega)
      have rc := r_itemsIn ((hRy.up (k := 182) (v := ((P ++ R1).length : Int)) (by omega)).up (k := 181) (v := (A.length : Int) + S.length) (by omega)).1 (A := P ++ R1) (S := X ++ S) (B := B) eL (zbal_app (zit_bal hX) hI.1.2) (x := ((P ++ R1).length : Int)) (y := (A.length : Int) + S.length) rfl (by simp; omega)
      have hb := zni_b (X ++ S) 0
      rw [List.length_append] at hb
      have hS' : X ++ S ≠ [] := by intro h; simp only [List.append_eq_nil_iff] at h; rw [h.1] at hXl; simp at hXl
      refine ⟨0, (zni 0 (X ++ S) : Int), (zni 0 (X ++ S) : Int), 0, ca, ((P ++ R1).length : Int), va_up (va_up R 182 ((P ++ R1).length : Int)) 181 ((A.length : Int) + S.length), ?_, ?_, Or.inl ⟨rfl, rfl, rfl, by omega⟩, P ++ R1, X ++ S, B, hI.sel eL.symm (zbal_app (zit_bal hX) hI.1.2), ⟨by rw [← eL]; exact hCx, by simp; omega, rfl⟩, ⟨by rw [← eL]; exact (hRy.up (by omega)).up (by omega), by rw [zup_eq]; simp; omega, by rw [zup_ne (by omega), zup_eq, if_neg hS']⟩⟩
      · unfold f_X7_extend f_X0_widenLeft f_X0_selectedOfRow
        simp (disch := omega) only [z_jn, z_eq_t, z_eq_f, cb, z_bd, z_gB, ci, cc]
      · unfold f_X8_extend
        rcases hcase with ⟨hS, c1, c2⟩ | ⟨hS, c1⟩
        · have c3 : (A.length : Int) + S.length = (A.length : Int) := by rw [hS]; simp
          rw [c3] at rc ⊢
          simp (disch := omega) only [z_in, z_jn, z181, z182, c1, c2, z_eq_t, z_eq_f, rs, z_bd, z_lt_t, r_rf_0, ri, u1, u2, rc]
        · simp (disch := omega) only [z_in, z_jn, z181, z182, c1, hrc, z_eq_t, z_eq_f, rs, z_bd, z_lt_t, r_rf_0, ri, u1, u2, rc]
  · have re := r_re hRy (A := A ++ S) (R := R2) (Q := Q) (by rw [eB]; simp) hQ b2 (x := R 181) (by rw [hrc]; simp)
    simp only [List.length_append] at re
    rw [hrc] at re
    rcases c_next hCx (A := A ++ S) (R2 := R2) (Q := Q) (by rw [eB]; simp) hQ b2 (x := ca) (by rw [hca]; simp) with ⟨i0, m, m1, m2⟩ | ⟨X, R3, m, m0, m1, m2, m3, m4, Y, m5⟩
    · have i0' : R2.length = 0 := by rw [i0]; rfl
      refine ⟨2, 0, 0, 1, ca, fr, R, ?_, ?_, Or.inr (Or.inl ⟨rfl, rfl⟩), A, S, B, hI, hC, hR⟩
      · unfold f_X7_extend f_X0_widenRight
        simp (disch := omega) only [z_jn, z_eq_t, z_eq_f, m1, c_st_f, z_bd, z_gB]
      · unfold f_X8_extend
        rcases hcase with ⟨hS, c1, c2⟩ | ⟨hS, c1⟩
        · have c3 : S.length = 0 := by rw [hS]; rfl
          simp (disch := omega) only [z_in, z_jn, z181, z182, c1, hrc, z_eq_t, z_eq_f, re, z_bd, z_lt_f, r_rf_1]
        · simp (disch := omega) only [z_in, z_jn, z181, z182, c1, hrc, z_eq_t, z_eq_f, re, z_bd, z_lt_f, r_rf_1]
    · have hXl := zit_ne m1
      have lR : R2.length = X.length + R3.length := by rw [m0]; simp
      have eL : A ++ (S ++ B) = A ++ ((S ++ X) ++ (R3 ++ Q)) := by rw [eB, m0]; simp
      have ci := c_ie hCx (A := A ++ S) (X := X) (T := R3 ++ Q) (by rw [eL]; simp) m1 (x := ca) (by rw [hca]; simp)
      have ri := r_itemEnd (hRy.up (k := 182) (v := (A.length : Int)) (by omega)).1 (A := A ++ S) (X := X) (T := R3 ++ Q) (by rw [eL]; simp) m1 (x := (A.length : Int) + S.length) (by simp)
      simp only [List.length_append] at ci ri
      have cc := c_rowItems hCx (A := A) (S := S ++ X) (B := R3 ++ Q) eL (x := fr) (y := ((A.length + S.length : Nat) : Int) + X.length) hfr (by simp; omega)
      have rc := r_itemsIn ((hRy.up (k := 182) (v := (A.length : Int)) (by omega)).up (k := 181) (v := ((A.length + S.length : Nat) : Int) + X.length) (by omega)).1 (A := A) (S := S ++ X) (B := R3 ++ Q) eL (zbal_app hI.1.2 (zit_bal m1)) (x := (A.length : Int)) (y := ((A.length + S.length : Nat) : Int) + X.length) rfl (by simp; omega)
      have hb := zni_b (S ++ X) 0
      rw [List.length_append] at hb
      have hS' : S ++ X ≠ [] := by intro h; simp only [List.append_eq_nil_iff] at h; rw [h.2] at hXl; simp at hXl
      refine ⟨0, (zni 0 (S ++ X) : Int), (zni 0 (S ++ X) : Int), 0, ((A.length + S.length : Nat) : Int) + X.length, fr, va_up (va_up R 182 (A.length : Int)) 181 (((A.length + S.length : Nat) : Int) + X.length), ?_, ?_, Or.inl ⟨rfl, rfl, rfl, by omega⟩, A, S ++ X, R3 ++ Q, hI.sel eL.symm (zbal_app hI.1.2 (zit_bal m1)), ⟨by rw [← eL]; exact hCx, by simp; omega, hfr⟩, ⟨by rw [← eL]; exact (hRy.up (by omega)).up (by omega), by rw [zup_eq]; simp; omega, by rw [zup_ne (by omega), zup_eq, if_neg hS']⟩⟩
      · unfold f_X7_extend f_X0_widenRight f_X0_selectedOfRow
        simp (disch := omega) only [z_jn, z_eq_f, m3, c_st_t, z_bd, z_gB, ci, cc]
      · unfold f_X8_extend
        have u3 : ∀ a : Int, va_up R 182 a 181 = R 181 := fun a => zup_ne (by omega)
        rcases hcase with ⟨hS, c1, c2⟩ | ⟨hS, c1⟩
        · have c3 : S.length = 0 := by rw [hS]; rfl
          have c4 : (A.length : Int) + S.length = (A.length : Int) := by omega
          rw [c4] at re ri
          simp (disch := omega) only [z_in, z_jn, z181, z182, c1, c2, z_eq_t, z_eq_f, re, z_bd, z_lt_t, r_rf_0, ri, u1, u2, u3, rc]
        · simp (disch := omega) only [z_in, z_jn, z181, z182, c1, hrc, z_eq_t, z_eq_f, re, z_bd, z_lt_t, r_rf_0, ri, u1, u2, u3, rc]
