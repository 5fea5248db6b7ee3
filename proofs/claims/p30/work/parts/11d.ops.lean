/-! what stands ahead of a place -/
theorem zit_last {X : List Int} (h : zit X) : ∃ (Y : List Int) (m : Int), X = Y ++ [m] ∧ 10 < m ∧ m ≤ 122 := by
  rcases zit_form h with ⟨m, rfl, a, b⟩ | ⟨o, c, Y, rfl, a, b, rfl, hY⟩
  · exact ⟨[], m, rfl, by omega, b⟩
  · exact ⟨o :: Y, o + 10, by simp, by omega, by omega⟩
theorem zit_first {X : List Int} (h : zit X) : ∃ (m : Int) (Y : List Int), X = m :: Y ∧ zsi m = true ∧ ((1 ≤ m ∧ m ≤ 5) ∨ 42 ≤ m ∧ m ≤ 122) := by
  rcases zit_form h with ⟨m, rfl, a, b⟩ | ⟨o, c, Y, rfl, a, b, rfl, hY⟩
  · exact ⟨m, [], rfl, by simp [zsi]; omega, by omega⟩
  · exact ⟨o, Y ++ [o + 10], rfl, by simp [zsi]; omega, by omega⟩
section zrv
variable {N : Nat} {n : Int} {F : Nat → Int} {L : List Int}
theorem c_bh_t (H : zCx N n F L) {A X T : List Int} (hL : L = A ++ (X ++ T)) (hX : zit X) {x : Int} (hx : x = (A.length : Int) + X.length) : f_X3_isBehindItem N n F x = some 1 := by
  obtain ⟨Y, m, rfl, h1, h2⟩ := zit_last hX
  obtain ⟨hm, hv, hb⟩ := H.at (A := A ++ Y) (m := m) (T := T) (by rw [hL]; simp) (x := x - 1) (by simp at hx ⊢; omega)
  unfold f_X3_isBehindItem
  simp (disch := omega) only [hm, z_bd, c_en_t, z_gB]
theorem c_bh_f (H : zCx N n F L) {P T : List Int} (hL : L = P ++ T) (hP : zend P) {x : Int} (hx : x = (P.length : Int)) : f_X3_isBehindItem N n F x = some 0 := by
  rcases hP with rfl | ⟨P0, o, rfl, h1, h2⟩
  · have := H.1
    have hm := H.out (x := x - 1) (by simp at hx; omega)
    unfold f_X3_isBehindItem
    simp (disch := omega) only [hm, z_bd, c_en_f, z_gB]
  · obtain ⟨hm, hv, hb⟩ := H.at (A := P0) (m := o) (T := T) (by rw [hL]; simp) (x := x - 1) (by simp at hx ⊢; omega)
    unfold f_X3_isBehindItem
    simp (disch := omega) only [hm, z_bd, c_en_f, z_gB]
end zrv
theorem c_hasSel {n ca fr : Int} {F : Nat → Int} {A S B : List Int} (hC : zCs n ca fr F A S B) : f_X0_hasSelection ca fr = some (zbi (decide (S ≠ []))) := by
  obtain ⟨h1, h2, h3⟩ := hC
  have h180 := h1.1
  simp only [List.length_append] at h180
  unfold f_X0_hasSelection
  by_cases hS : S = []
  · subst hS
    simp only [List.length_nil] at h2
    simp (disch := omega) only [z_jn, z_lt_f, z_gB]
    rfl
  · have : 0 < S.length := List.length_pos_iff.mpr hS
    rw [show decide (S ≠ []) = true from decide_eq_true hS]
    simp (disch := omega) only [z_jn, z_lt_t, z_gB, zbi_t]
/-- the structure around a place, as an item -/
theorem zfr_item {A B S P R R2 Q : List Int} (hf : zfr A B P R R2 Q) (hR : zbal R) (hS : zbal S) (hR2 : zbal R2) : ∃ (o c : Int) (Y1 T1 : List Int), A ++ (S ++ B) = P ++ o :: (Y1 ++ (T1 ++ c :: Q)) ∧ zit (o :: (Y1 ++ (T1 ++ [c]))) ∧ A.length + S.length = P.length + 1 + Y1.length ∧ 1 ≤ o ∧ o ≤ 5 ∧ c = o + 10 ∧ (zdr 0 (Y1 ++ T1) = some 0 ∧ zdr 0 T1 = some 0) := by
  rcases hf with ⟨k, rfl, rfl, h1, h2⟩ | ⟨J, rfl, rfl, h1⟩ | ⟨I, rfl, rfl, h1⟩
  · refine ⟨k, k + 10, R ++ S, R2, by simp, Or.inr (Or.inl ⟨k, R ++ (S ++ R2), by simp, h1, h2, zbal_app hR (zbal_app hS hR2)⟩), by simp; omega, by omega, h2, rfl, zbal_dr (zbal_app (zbal_app hR hS) hR2) (Int.le_refl 0), zbal_dr hR2 (Int.le_refl 0)⟩
  · have e6 : zdr 0 (R2 ++ 6 :: J) = some 0 := by
      rw [zdr_app, zbal_dr hR2 (Int.le_refl 0), Option.bind_some]
      simp only [zdr, zop_6]
      rw [if_neg (by omega)]
      exact zbal_dr h1 (Int.le_refl 0)
    refine ⟨1, 11, R ++ S, R2 ++ 6 :: J, by simp, Or.inr (Or.inr ⟨R ++ (S ++ R2), J, by simp, zbal_app hR (zbal_app hS hR2), h1⟩), by simp; omega, by omega, by omega, by omega, ?_, e6⟩
    rw [zdr_app, zbal_dr (zbal_app hR hS) (Int.le_refl 0), Option.bind_some]
    exact e6
  · refine ⟨1, 11, I ++ 6 :: (R ++ S), R2, by simp, Or.inr (Or.inr ⟨I, R ++ (S ++ R2), by simp, h1, zbal_app hR (zbal_app hS hR2)⟩), by simp; omega, by omega, by omega, by omega, ?_, zbal_dr hR2 (Int.le_refl 0)⟩
    rw [List.append_assoc, zdr_app, zbal_dr h1 (Int.le_refl 0), Option.bind_some]
    simp only [List.cons_append, zdr, zop_6]
    rw [if_neg (by omega)]
    exact zbal_dr (zbal_app (zbal_app hR hS) hR2) (Int.le_refl 0)
theorem r_struct {N : Nat} {F : Nat → Int} {L P Y1 T1 Q : List Int} {o c : Int} (H : zRx N F L) (hL : L = P ++ o :: (Y1 ++ (T1 ++ c :: Q))) (h1 : 1 ≤ o) (h2 : o ≤ 5) (h3 : c = o + 10) (h4 : zdr 0 (Y1 ++ T1) = some 0 ∧ zdr 0 T1 = some 0) {x : Int} (hx : x = (P.length : Int) + 1 + Y1.length) : f_X8_endOf N F x = some ((P.length : Int) + 1 + Y1.length + T1.length) ∧ f_X8_beginOf N F ((P.length : Int) + 1 + Y1.length + T1.length) = some (P.length : Int) := by
  have e1 : zeo 0 (T1 ++ c :: Q) = T1.length := by
    rw [zeo_dr _ (Int.le_refl 0) h4.2]
    simp only [zeo]
    rw [if_pos (by omega)]; rfl
  have e2 : zbo 0 (P ++ o :: (Y1 ++ T1)).reverse = (Y1 ++ T1).length := by
    rw [List.reverse_append, List.reverse_cons, List.append_assoc, zbo_dr _ (Int.le_refl 0) h4.1]
    simp only [List.singleton_append, zbo]
    rw [if_pos (by omega)]; rfl
  constructor
  · have := r_endOf H (A := P ++ o :: Y1) (T := T1 ++ c :: Q) (by rw [hL]; simp) (x := x) (by simp; omega) (by rw [e1]; simp)
    rw [this, e1]
    exact congrArg some (by simp; omega)
  · have := r_beginOf H (A := P ++ o :: (Y1 ++ T1)) (T := c :: Q) (by rw [hL]; simp) (x := (P.length : Int) + 1 + Y1.length + T1.length) (by simp; omega) (by rw [e2]; simp; omega)
    rw [this, e2]
    exact congrArg some (by simp; omega)
/-! growing -/
theorem e_grow {n ca fr : Int} {F R : Nat → Int} {A S B : List Int} (hI : zI A S B) (hC : zCs n ca fr F A S B) (hR : zRs R A S B) : (f_X0_growSelection n ca fr F = some (0, ca, fr) ∧ f_X8_grows 184 R = some (0, R)) ∨ ∃ (A' S' B' : List Int) (ca' fr' : Int) (G : Nat → Int), f_X0_growSelection n ca fr F = some (1, ca', fr') ∧ f_X8_grows 184 R = some (1, G) ∧ zCs n ca' fr' F A' S' B' ∧ zRs G A' S' B' ∧ zI A' S' B' ∧ S' ≠ [] := by
  have hl := hI.len
  have hCx := hC.1
  have hRy := hR.1
  have hn := hCx.1
  have hca : ca = (A.length : Int) + S.length := hC.2.1
  have hfr : fr = (A.length : Int) := hC.2.2
  have hrc : R 181 = (A.length : Int) + S.length := hR.2.1
  obtain ⟨P, R0, R2, Q, eA, eB, hP, hQ, b1, b2, hPQ⟩ := zrow2 hI.1.1
  have cs := c_rs hCx (P := P) (R := R0 ++ S) (T := B) (by rw [eA]; simp) hP (zbal_app b1 hI.1.2) (x := ca) (by rw [hca, eA]; simp; omega)
  have ce := c_re hCx (A := A ++ S) (R := R2) (Q := Q) (by rw [eB]; simp) hQ b2 (x := ca) (by rw [hca]; simp)
  have rs := r_rs hRy (P := P) (R := R0 ++ S) (T := B) (by rw [eA]; simp) hP (zbal_app b1 hI.1.2) (x := R 181) (by rw [hrc, eA]; simp; omega)
  have re := r_re hRy (A := A ++ S) (R := R2) (Q := Q) (by rw [eB]; simp) hQ b2 (x := R 181) (by rw [hrc]; simp)
  have hs := c_hasSel hC
  by_cases hcase : S = [] ∧ R0 ≠ []
  · obtain ⟨hS, hR0⟩ := hcase
    subst hS
    obtain ⟨X, R1, e1, hX, hR1⟩ := zitB b1 hR0
    right
    have eA2 : A = (P ++ R1) ++ X := by rw [eA, e1]; simp
    have lA : A.length = P.length + R1.length + X.length := by rw [eA2]; simp; omega
    have hXl := zit_ne hX
    have h182 : R 182 = -9 := hR.2.2
    simp only [List.length_nil] at hca hrc hl
    refine ⟨P ++ R1, X, B, ca, ((P ++ R1).length : Int), va_up R 182 ((P ++ R1).length : Int), ?_, ?_, ⟨?_, ?_, rfl⟩, ⟨?_, ?_, ?_⟩, ?_, ?_⟩
    · have h1 := c_bh_t hCx (A := P ++ R1) (X := X) (T := B) (by rw [eA2]; simp) hX (x := ca) (by simp; omega)
      have h1' := c_bh_t hCx (A := P ++ R1) (X := X) (T := B) (by rw [eA2]; simp) hX (x := fr) (by simp; omega)
      have h2 := c_is hCx (A := P ++ R1) (X := X) (T := B) (by rw [eA2]; simp) hX (x := fr) (by simp; omega)
      unfold f_X0_growSelection f_X0_widenLeft
      rw [cs, z_bd, ce, z_bd, hs, z_bd]
      simp (disch := omega) only [ne_eq, not_true_eq_false, decide_false, zbi_f, z_jn, z_eq_t, z_eq_f, h1, h1', h2, z_bd, z_gB]
    · have h2 := r_itemStart hRy.1 (A := P ++ R1) (X := X) (T := B) (by rw [eA2]; simp) hX (x := R 181) (by simp; omega)
      have hz : (P.length : Int) < R 181 := by omega
      unfold f_X8_grows
      rw [z181, z182, rs, re]
      simp (disch := omega) only [z_in, z_bd, z_jn, h182, z_eq_t, z_lt_t, h2, z_gB]
    · rw [eA2] at hCx; simpa using hCx
    · simp; omega
    · rw [eA2] at hRy; simpa using hRy.up (k := 182) (by omega)
    · rw [zup_ne (by omega), hrc]; simp; omega
    · rw [zup_eq, if_neg]; exact List.length_pos_iff.mp hXl
    · exact hI.sel (by rw [eA2]; simp) (zit_bal hX)
    · exact List.length_pos_iff.mp hXl
  · -- the whole row, or the structure around it
    have hb : S = [] → f_X3_isBehindItem 180 n F ca = some 0 := by
      intro hS
      have h0 : R0 = [] := by
        by_cases h : R0 = []
        · exact h
        · exact absurd ⟨hS, h⟩ hcase
      subst hS; subst h0
      exact c_bh_f hCx (P := P) (T := B) (by rw [eA]; simp) hP (by rw [hca, eA]; simp)
    have lA : A.length = P.length + R0.length := by rw [eA]; simp
    have lB : B.length = R2.length + Q.length := by rw [eB]; simp
    simp only [List.length_append] at ce re
    -- the class's walk so far
    have cw : f_X0_growSelection n ca fr F = (if R0 = [] ∧ R2 = [] then (cEq (P.length : Int) 0 (gB 0 (some (0, ca, fr))) (bd (f_X3_holder 180 n F (P.length : Int)) (fun r12 => bd (f_X3_itemEnd 180 n F r12) (fun r13 => some (1, r13, r12))))) else some (1, (A.length : Int) + S.length + R2.length, (P.length : Int))) := by
      unfold f_X0_growSelection f_X0_chooseItems
      rw [cs, z_bd, ce, z_bd, hs, z_bd]
      have tail : (jn (fun (z11 : Int) => cEq z11 0 (bd (some (((A.length + S.length : Nat) : Int) + R2.length, (P.length : Int))) (fun r15 => gB 1 (some ((1 : Int), r15.1, r15.2)))) (cEq (P.length : Int) 0 (gB 0 (some (0, ca, fr))) (bd (f_X3_holder 180 n F (P.length : Int)) (fun r12 => bd (f_X3_itemEnd 180 n F r12) (fun r13 => bd (some (r13, r12)) (fun r14 => gB 1 (some ((1 : Int), r14.1, r14.2)))))))) (fun k9 => jn (fun (z10 : Unit) => k9 0) (fun k8 => cEq fr (P.length : Int) (cEq ca (((A.length + S.length : Nat) : Int) + R2.length) (k9 1) (k8 ())) (k8 ())))) = (if R0 = [] ∧ R2 = [] then (cEq (P.length : Int) 0 (gB 0 (some (0, ca, fr))) (bd (f_X3_holder 180 n F (P.length : Int)) (fun r12 => bd (f_X3_itemEnd 180 n F r12) (fun r13 => some (1, r13, r12))))) else some (1, (A.length : Int) + S.length + R2.length, (P.length : Int))) := by
        by_cases h0 : R0 = []
        · have h0' : R0.length = 0 := by rw [h0]; rfl
          by_cases h2 : R2 = []
          · have h2' : R2.length = 0 := by rw [h2]; rfl
            rw [if_pos ⟨h0, h2⟩]
            simp (disch := omega) only [z_jn, z_eq_t, z_eq_f]
            rfl
          · have h2' : 0 < R2.length := List.length_pos_iff.mpr h2
            rw [if_neg (fun h => h2 h.2)]
            simp (disch := omega) only [z_jn, z_eq_t, z_eq_f, z_bd, z_gB]
            simp
        · have h0' : 0 < R0.length := List.length_pos_iff.mpr h0
          rw [if_neg (fun h => h0 h.1)]
          simp (disch := omega) only [z_jn, z_eq_t, z_eq_f, z_bd, z_gB]
          simp
      by_cases hS : S = []
      · rw [show decide (S ≠ []) = false from decide_eq_false (fun h => h hS), z_jn]
        rw [zbi_f, z_eq_t (by omega), hb hS]
        exact (by rw [z_bd, z_eq_t (by omega)]; exact tail)
      · rw [show decide (S ≠ []) = true from decide_eq_true hS, z_jn]
        rw [zbi_t, z_eq_f (by omega)]
        exact tail
    -- the reference's walk so far
    have rw' : f_X8_grows 184 R = (if R0 = [] ∧ R2 = [] then (cEq (P.length : Int) 0 (gB 0 (some (0, R))) (bd (f_X8_endOf 184 R ((A.length : Int) + S.length + R2.length)) (fun r10 => bd (f_X8_beginOf 184 R r10) (fun r11 => some (1, va_up (va_up R 182 r11) 181 (r10 + 1)))))) else some (1, va_up (va_up R 182 (P.length : Int)) 181 ((A.length : Int) + S.length + R2.length))) := by
      unfold f_X8_grows
      rw [z181, z182, rs, re]
      have ez : (((A.length + S.length : Nat) : Int) + R2.length) = (A.length : Int) + S.length + R2.length := by omega
      rw [ez]
      by_cases hS : S = []
      · have h182 : R 182 = -9 := by have := hR.2.2; rwa [if_pos hS] at this
        have h0 : R0 = [] := by
          by_cases h : R0 = []
          · exact h
          · exact absurd ⟨hS, h⟩ hcase
        have h0' : R0.length = 0 := by rw [h0]; rfl
        have hS' : S.length = 0 := by rw [hS]; rfl
        by_cases h2 : R2 = []
        · have h2' : R2.length = 0 := by rw [h2]; rfl
          rw [if_pos ⟨h0, h2⟩]
          simp (disch := omega) only [z_in, z_bd, z_jn, h182, z_eq_t, z_lt_t, z_lt_f, z_gB]
        · have h2' : 0 < R2.length := List.length_pos_iff.mpr h2
          rw [if_neg (fun h => h2 h.2)]
          simp (disch := omega) only [z_in, z_bd, z_jn, h182, z_eq_t, z_lt_t, z_lt_f, z_gB]
      · have h182 : R 182 = (A.length : Int) := by have := hR.2.2; rwa [if_neg hS] at this
        have hS' : 0 < S.length := List.length_pos_iff.mpr hS
        by_cases h0 : R0 = []
        · have h0' : R0.length = 0 := by rw [h0]; rfl
          by_cases h2 : R2 = []
          · have h2' : R2.length = 0 := by rw [h2]; rfl
            rw [if_pos ⟨h0, h2⟩]
            simp (disch := omega) only [z_in, z_bd, z_jn, h182, z_eq_f, z_lt_t, z_lt_f, z_gB]
          · have h2' : 0 < R2.length := List.length_pos_iff.mpr h2
            rw [if_neg (fun h => h2 h.2)]
            simp (disch := omega) only [z_in, z_bd, z_jn, h182, z_eq_f, z_lt_t, z_lt_f, z_gB]
        · have h0' : 0 < R0.length := List.length_pos_iff.mpr h0
          rw [if_neg (fun h => h0 h.1)]
          simp (disch := omega) only [z_in, z_bd, z_jn, h182, z_eq_f, z_lt_t, z_lt_f, z_gB]
    by_cases hw : R0 = [] ∧ R2 = []
    · rw [if_pos hw] at cw rw'
      obtain ⟨rfl, rfl⟩ := hw
      by_cases hP0 : P = []
      · left
        subst hP0
        rw [cw, rw']
        exact ⟨rfl, rfl⟩
      · right
        have hPl : 0 < P.length := List.length_pos_iff.mpr hP0
        simp (disch := omega) only [z_eq_f] at cw rw'
        rcases zrow hI.1.1 with ⟨hA, -⟩ | ⟨P', R', R2', Q', s, hf, d1, d2, d3, d4⟩
        · exfalso
          simp only [List.append_nil] at eA
          subst eA
          rcases hP with rfl | ⟨P1, o, rfl, h1, h2⟩
          · exact hP0 rfl
          · obtain ⟨s', q1, q2⟩ := zrun_snoc_inv hA
            rcases zst_cases q2 with ⟨a, b, e⟩ | ⟨a, b, e⟩ | ⟨rfl, r, e1, e2⟩ | ⟨k2, e, h3⟩
            · omega
            · cases e
            · cases e2
            · omega
        · simp only [List.append_nil, List.nil_append] at eA eB
          -- the row of zrow is the row of zrow2
          have e1 : f_X3_rowStart 180 n F ca = some ((A.length : Int) - R'.length) := by
            obtain ⟨P2, Q2, g1, g2, g3, g4, g5, g6⟩ := zfr_end hf
            have := c_rs hCx (P := P2) (R := R' ++ S) (T := B) (by rw [g1]; simp) g3 (zbal_app d1 hI.1.2) (x := ca) (by rw [hca, g1]; simp; omega)
            rw [this, g1]; exact congrArg some (by simp)
          have e2 : f_X3_rowEnd 180 n F ca = some ((A.length : Int) + S.length + R2'.length) := by
            obtain ⟨P2, Q2, g1, g2, g3, g4, g5, g6⟩ := zfr_end hf
            have := c_re hCx (A := A ++ S) (R := R2') (Q := Q2) (by rw [g2]; simp) g4 d2 (x := ca) (by rw [hca]; simp)
            rw [this]; exact congrArg some (by simp)
          rw [cs] at e1
          rw [ce] at e2
          have l1 := Option.some.inj e1
          have l2 := Option.some.inj e2
          simp only [List.length_nil] at lA l2
          have z1 : R' = [] := List.length_eq_zero_iff.mp (by omega)
          have z2 : R2' = [] := List.length_eq_zero_iff.mp (by omega)
          subst z1; subst z2
          have hh := c_holder hCx (S := S) rfl hf (x := (P.length : Int)) (by simp; omega)
          rw [hh, z_bd] at cw
          obtain ⟨o, c, Y1, T1, q1, hX, q3, q4, q5, q6, q7⟩ := zfr_item hf rfl hI.1.2 rfl
          have i1 := c_ie hCx (A := P') (X := o :: (Y1 ++ (T1 ++ [c]))) (T := Q') (by rw [q1]; simp) hX (x := (P'.length : Int)) rfl
          have i2 := r_struct hRy.1 (P := P') (Y1 := Y1) (T1 := T1) (o := o) (c := c) (Q := Q') q1 q4 q5 q6 q7 (x := (A.length : Int) + S.length + ((0 : Nat) : Int)) (by omega)
          have lX : ((o :: (Y1 ++ (T1 ++ [c]))).length : Int) = Y1.length + T1.length + 2 := by simp; omega
          refine ⟨P', o :: (Y1 ++ (T1 ++ [c])), Q', (P'.length : Int) + (o :: (Y1 ++ (T1 ++ [c]))).length, (P'.length : Int), va_up (va_up R 182 (P'.length : Int)) 181 ((P'.length : Int) + 1 + Y1.length + T1.length + 1), ?_, ?_, ⟨?_, rfl, rfl⟩, ⟨?_, ?_, ?_⟩, ?_, by simp⟩
          · rw [cw, i1]; rfl
          · rw [rw']
            simp only [List.length_nil]
            rw [i2.1, z_bd, i2.2, z_bd]
          · rw [q1] at hCx; simpa using hCx
          · rw [q1] at hRy; simpa using (hRy.up (k := 182) (by omega)).up (k := 181) (by omega)
          · rw [zup_eq, lX]; omega
          · rw [zup_ne (by omega), zup_eq]; simp
          · exact hI.sel (by rw [q1]; simp) (zit_bal hX)
    · rw [if_neg hw] at cw rw'
      right
      refine ⟨P, R0 ++ (S ++ R2), Q, _, _, _, cw, rw', ⟨?_, ?_, rfl⟩, ⟨?_, ?_, ?_⟩, ?_, ?_⟩
      · rw [eA, eB] at hCx; simpa using hCx
      · simp; omega
      · rw [eA, eB] at hRy; simpa using (hRy.up (k := 182) (by omega)).up (k := 181) (by omega)
      · rw [zup_eq]; simp; omega
      · rw [zup_ne (by omega), zup_eq, if_neg]
        intro h
        simp only [List.append_eq_nil_iff] at h
        exact hw ⟨h.1, h.2.2⟩
      · exact hI.sel (by rw [eA, eB]; simp) (zbal_app b1 (zbal_app hI.1.2 b2))
      · intro h
        simp only [List.append_eq_nil_iff] at h
        exact hw ⟨h.1, h.2.2⟩
