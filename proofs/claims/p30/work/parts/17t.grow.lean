/-! p30: the selection grows to the whole formula -/
/-- how far the selection is from the whole -/
def zgf (A S B : List Int) (k : Int) : Prop := ∃ P R0 R2 Q : List Int, (A = P ++ R0 ∧ B = R2 ++ Q ∧ zend P ∧ zbeg Q ∧ zbal R0 ∧ zbal R2 ∧ (P = [] ↔ Q = [])) ∧ k = 3 * zlv A + (if S = [] ∧ R0 ≠ [] then 2 else if R0 = [] ∧ R2 = [] then 0 else 1)
theorem zgf_ex {A S B : List Int} (hI : zI A S B) : ∃ k, zgf A S B k ∧ 0 ≤ k ∧ k ≤ 17 ∧ k ≤ 3 * zlv A + 2 ∧ (S ≠ [] → k ≤ 3 * zlv A + 1) := by
  obtain ⟨P, R0, R2, Q, eA, eB, hP, hQ, b1, b2, hPQ⟩ := zrow2 hI.1.1
  have h0 : 0 ≤ zlv A := zpre0 (A := A) (B := S ++ B) hI.bal
  have h1 := zpk_lv A
  have h2 : zpk A ≤ zpk (A ++ (S ++ B)) := zpk_le
  have h3 := hI.2.2
  refine ⟨_, ⟨P, R0, R2, Q, ⟨eA, eB, hP, hQ, b1, b2, hPQ⟩, rfl⟩, ?_, ?_, ?_, ?_⟩
  · split
    · omega
    · split <;> omega
  · split
    · omega
    · split <;> omega
  · split
    · omega
    · split <;> omega
  · intro hS
    rw [if_neg (fun z => hS z.1)]
    split <;> omega
theorem zgf_0 {A S B : List Int} {k : Int} (hI : zI A S B) (h : zgf A S B k) : 0 ≤ k := by
  obtain ⟨P, R0, R2, Q, -, hk⟩ := h
  have h0 : 0 ≤ zlv A := zpre0 (A := A) (B := S ++ B) hI.bal
  rw [hk]
  split
  · omega
  · split <;> omega
set_option maxHeartbeats 1000000 in
theorem c_grow {n ca fr k : Int} {F : Nat → Int} {A S B : List Int} (hI : zI A S B) (hC : zCs n ca fr F A S B) (hk : zgf A S B k) : (f_X0_growSelection n ca fr F = some (0, ca, fr) ∧ A = [] ∧ B = []) ∨ ∃ (A' S' B' : List Int) (ca' fr' k' : Int), f_X0_growSelection n ca fr F = some (1, ca', fr') ∧ zCs n ca' fr' F A' S' B' ∧ zI A' S' B' ∧ S' ≠ [] ∧ A' ++ (S' ++ B') = A ++ (S ++ B) ∧ zgf A' S' B' k' ∧ k' < k := by
  have hl := hI.len
  have hCx := hC.1
  have hn := hCx.1
  have hca : ca = (A.length : Int) + S.length := hC.2.1
  have hfr : fr = (A.length : Int) := hC.2.2
  obtain ⟨P, R0, R2, Q, ⟨eA, eB, hP, hQ, b1, b2, hPQ⟩, hk⟩ := hk
  have hlA : zlv A = zlv P := by rw [eA, zlv_app, zlv_bal b1]; omega
  have cs := c_rs hCx (P := P) (R := R0 ++ S) (T := B) (by rw [eA]; simp) hP (zbal_app b1 hI.1.2) (x := ca) (by rw [hca, eA]; simp; omega)
  have ce := c_re hCx (A := A ++ S) (R := R2) (Q := Q) (by rw [eB]; simp) hQ b2 (x := ca) (by rw [hca]; simp)
  have hs := c_hasSel hC
  by_cases hcase : S = [] ∧ R0 ≠ []
  · rw [if_pos hcase] at hk
    obtain ⟨hS, hR0⟩ := hcase
    subst hS
    obtain ⟨X, R1, e1, hX, hR1⟩ := zitB b1 hR0
    right
    have eA2 : A = (P ++ R1) ++ X := by rw [eA, e1]; simp
    have lA : A.length = P.length + R1.length + X.length := by rw [eA2]; simp; omega
    have hXl := zit_ne hX
    have hXn : X ≠ [] := List.length_pos_iff.mp hXl
    simp only [List.length_nil] at hca hl
    have hz : zlv (P ++ R1) = zlv P := by rw [zlv_app, zlv_bal hR1]; omega
    refine ⟨P ++ R1, X, B, ca, ((P ++ R1).length : Int), 3 * zlv (P ++ R1) + (if X = [] ∧ R1 ≠ [] then 2 else if R1 = [] ∧ R2 = [] then 0 else 1), ?_, ⟨?_, ?_, rfl⟩, ?_, hXn, ?_, ⟨P, R1, R2, Q, ⟨rfl, eB, hP, hQ, hR1, b2, hPQ⟩, rfl⟩, ?_⟩
    · have h1 := c_bh_t hCx (A := P ++ R1) (X := X) (T := B) (by rw [eA2]; simp) hX (x := ca) (by simp; omega)
      have h1' := c_bh_t hCx (A := P ++ R1) (X := X) (T := B) (by rw [eA2]; simp) hX (x := fr) (by simp; omega)
      have h2 := c_is hCx (A := P ++ R1) (X := X) (T := B) (by rw [eA2]; simp) hX (x := fr) (by simp; omega)
      unfold f_X0_growSelection f_X0_widenLeft
      rw [cs, z_bd, ce, z_bd, hs, z_bd]
      simp (disch := omega) only [ne_eq, not_true_eq_false, decide_false, zbi_f, z_jn, z_eq_t, z_eq_f, h1, h1', h2, z_bd, z_gB]
    · rw [eA2] at hCx; simpa using hCx
    · simp; omega
    · exact hI.sel (by rw [eA2]; simp) (zit_bal hX)
    · rw [eA2]; simp
    · rw [if_neg (fun z => hXn z.1), hz, hk, hlA]
      split <;> omega
  · -- the whole row, or the structure around it
    rw [if_neg hcase] at hk
    have hb : S = [] → f_X3_isBehindItem 180 n F ca = some 0 := by
      intro hS
      have h0 : R0 = [] := by
        by_cases h : R0 = []
        · exact h
        · exact absurd ⟨hS, h⟩ hcase
      subst hS; subst h0
      exact c_bh_f hCx (P := P) (T := B) (by rw [eA]; simp) hP (by rw [hca, eA]; simp)
    have lA : A.length = P.length + R0.length := by rw [eA]; simp
    have lB : B.length = R2.length + Q.length := by rw [eB]; simp
    simp only [List.length_append] at ce
    have cw : f_X0_growSelection n ca fr F = (if R0 = [] ∧ R2 = [] then (cEq (P.length : Int) 0 (gB 0 (some (0, ca, fr))) (bd (f_X3_holder 180 n F (P.length : Int)) (fun r12 => bd (f_X3_itemEnd 180 n F r12) (fun r13 => some (1, r13, r12))))) else some (1, (A.length : Int) + S.length + R2.length, (P.length : Int))) := by
      unfold f_X0_growSelection f_X0_chooseItems
      rw [cs, z_bd, ce, z_bd, hs, z_bd]
      have tail : (jn (fun (z11 : Int) => cEq z11 0 (bd (some (((A.length + S.length : Nat) : Int) + R2.length, (P.length : Int))) (fun r15 => gB 1 (some ((1 : Int), r15.1, r15.2)))) (cEq (P.length : Int) 0 (gB 0 (some (0, ca, fr))) (bd (f_X3_holder 180 n F (P.length : Int)) (fun r12 => bd (f_X3_itemEnd 180 n F r12) (fun r13 => bd (some (r13, r12)) (fun r14 => gB 1 (some ((1 : Int), r14.1, r14.2)))))))) (fun k9 => jn (fun (z10 : Unit) => k9 0) (fun k8 => cEq fr (P.length : Int) (cEq ca (((A.length + S.length : Nat) : Int) + R2.length) (k9 1) (k8 ())) (k8 ())))) = (if R0 = [] ∧ R2 = [] then (cEq (P.length : Int) 0 (gB 0 (some (0, ca, fr))) (bd (f_X3_holder 180 n F (P.length : Int)) (fun r12 => bd (f_X3_itemEnd 180 n F r12) (fun r13 => some (1, r13, r12))))) else some (1, (A.length : Int) + S.length + R2.length, (P.length : Int))) := by
        by_cases h0 : R0 = []
        · have h0' : R0.length = 0 := by rw [h0]; rfl
          by_cases h2 : R2 = []
          · have h2' : R2.length = 0 := by rw [h2]; rfl
            rw [if_pos ⟨h0, h2⟩]
            simp (disch := omega) only [z_jn, z_eq_t, z_eq_f]
            rfl
          · have h2' : 0 < R2.length := List.length_pos_iff.mpr h2
            rw [if_neg (fun h => h2 h.2)]
            simp (disch := omega) only [z_jn, z_eq_t, z_eq_f, z_bd, z_gB]
            simp
        · have h0' : 0 < R0.length := List.length_pos_iff.mpr h0
          rw [if_neg (fun h => h0 h.1)]
          simp (disch := omega) only [z_jn, z_eq_t, z_eq_f, z_bd, z_gB]
          simp
      by_cases hS : S = []
      · rw [show decide (S ≠ []) = false from decide_eq_false (fun h => h hS), z_jn]
        rw [zbi_f, z_eq_t (by omega), hb hS]
        exact (by rw [z_bd, z_eq_t (by omega)]; exact tail)
      · rw [show decide (S ≠ []) = true from decide_eq_true hS, z_jn]
        rw [zbi_t, z_eq_f (by omega)]
        exact tail
    by_cases hw : R0 = [] ∧ R2 = []
    · rw [if_pos hw] at cw hk
      obtain ⟨rfl, rfl⟩ := hw
      by_cases hP0 : P = []
      · left
        have hQ0 := hPQ.mp hP0
        subst hP0; subst hQ0
        rw [cw]
        exact ⟨rfl, by rw [eA]; rfl, by rw [eB]; rfl⟩
      · right
        have hPl : 0 < P.length := List.length_pos_iff.mpr hP0
        simp (disch := omega) only [z_eq_f] at cw
        rcases zrow hI.1.1 with ⟨hA, -⟩ | ⟨P', R', R2', Q', s, hf, d1, d2, d3, d4⟩
        · exfalso
          simp only [List.append_nil] at eA
          subst eA
          rcases hP with rfl | ⟨P1, o, rfl, h1, h2⟩
          · exact hP0 rfl
          · obtain ⟨s', q1, q2⟩ := zrun_snoc_inv hA
            rcases zst_cases q2 with ⟨a, b, e⟩ | ⟨a, b, e⟩ | ⟨rfl, r, e1, e2⟩ | ⟨k2, e, h3⟩
            · omega
            · cases e
            · cases e2
            · omega
        · simp only [List.append_nil, List.nil_append] at eA eB
          -- the row of zrow is the row of zrow2
          have e1 : f_X3_rowStart 180 n F ca = some ((A.length : Int) - R'.length) := by
            obtain ⟨P2, Q2, g1, g2, g3, g4, g5, g6⟩ := zfr_end hf
            have := c_rs hCx (P := P2) (R := R' ++ S) (T := B) (by rw [g1]; simp) g3 (zbal_app d1 hI.1.2) (x := ca) (by rw [hca, g1]; simp; omega)
            rw [this, g1]; exact congrArg some (by simp)
          have e2 : f_X3_rowEnd 180 n F ca = some ((A.length : Int) + S.length + R2'.length) := by
            obtain ⟨P2, Q2, g1, g2, g3, g4, g5, g6⟩ := zfr_end hf
            have := c_re hCx (A := A ++ S) (R := R2') (Q := Q2) (by rw [g2]; simp) g4 d2 (x := ca) (by rw [hca]; simp)
            rw [this]; exact congrArg some (by simp)
          rw [cs] at e1
          rw [ce] at e2
          have l1 := Option.some.inj e1
          have l2 := Option.some.inj e2
          simp only [List.length_nil] at lA l2
          have z1 : R' = [] := List.length_eq_zero_iff.mp (by omega)
          have z2 : R2' = [] := List.length_eq_zero_iff.mp (by omega)
          subst z1; subst z2
          have hh := c_holder hCx (S := S) rfl hf (x := (P.length : Int)) (by simp; omega)
          rw [hh, z_bd] at cw
          have hlv : zlv P' < zlv A := by
            rcases hf with ⟨k3, a1, a2, a3, a4⟩ | ⟨J, a1, a2, a3⟩ | ⟨I, a1, a2, a3⟩
            · rw [a1, zlv_app]
              have := zop_op (m := k3) ⟨by omega, a4⟩
              simp only [zlv]; omega
            · rw [a1, zlv_app]
              have := zop_op (m := 1) (by omega)
              simp only [zlv]; omega
            · rw [a1, zlv_app]
              have := zop_op (m := 1) (by omega)
              simp only [zlv, zlv_app, zlv_bal a3, zop_6]; omega
          obtain ⟨o, c, Y1, T1, q1, hX, q3, q4, q5, q6, q7⟩ := zfr_item hf rfl hI.1.2 rfl
          have i1 := c_ie hCx (A := P') (X := o :: (Y1 ++ (T1 ++ [c]))) (T := Q') (by rw [q1]; simp) hX (x := (P'.length : Int)) rfl
          have hI2 : zI P' (o :: (Y1 ++ (T1 ++ [c]))) Q' := hI.sel (by rw [q1]; simp) (zit_bal hX)
          obtain ⟨k', g1, g2, g3, g4, g5⟩ := zgf_ex hI2
          have g6 := g5 (by simp)
          refine ⟨P', o :: (Y1 ++ (T1 ++ [c])), Q', (P'.length : Int) + (o :: (Y1 ++ (T1 ++ [c]))).length, (P'.length : Int), k', ?_, ⟨?_, rfl, rfl⟩, hI2, by simp, by rw [q1]; simp, g1, ?_⟩
          · rw [cw, i1]; rfl
          · rw [q1] at hCx; simpa using hCx
          · omega
    · rw [if_neg hw] at cw hk
      right
      have hne : R0 ++ (S ++ R2) ≠ [] := by
        intro h
        simp only [List.append_eq_nil_iff] at h
        exact hw ⟨h.1, h.2.2⟩
      refine ⟨P, R0 ++ (S ++ R2), Q, _, _, 3 * zlv P + (if R0 ++ (S ++ R2) = [] ∧ ([] : List Int) ≠ [] then 2 else if ([] : List Int) = [] ∧ ([] : List Int) = [] then 0 else 1), cw, ⟨?_, ?_, rfl⟩, ?_, hne, ?_, ⟨P, [], [], Q, ⟨by simp, by simp, hP, hQ, rfl, rfl, hPQ⟩, rfl⟩, ?_⟩
      · rw [eA, eB] at hCx; simpa using hCx
      · simp; omega
      · exact hI.sel (by rw [eA, eB]; simp) (zbal_app b1 (zbal_app hI.1.2 b2))
      · rw [eA, eB]; simp
      · rw [if_neg (fun z => hne z.1), if_pos ⟨rfl, rfl⟩, hk, hlA]
        omega
