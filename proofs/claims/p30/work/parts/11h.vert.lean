/-! up and down -/
theorem e_bh_loop {n w E : Int} {F R : Nat → Int} {L Q : List Int} (hC : zCx 180 n F L) (hR : zRy 184 R L) (hQ : zbeg Q) (hw : 0 ≤ w ∧ w ≤ 1000) {e5 : Int × Int → Option Int} {e : Int × Int → Option (Int × Int × (Nat → Int))} : ∀ (k : Nat) (T U : List Int) (fu1 fu2 : Nat) (x i : Int), T.length ≤ k → zbal T → L = U ++ (T ++ Q) → T.length < fu1 → T.length < fu2 → x = (U.length : Int) → E = (U.length : Int) + T.length → (0 ≤ i ∧ i ≤ x) → ∃ g j, f_X0_behindItems_5 n F w e5 fu1 x i = e5 (g, j) ∧ f_X8_moveVertically_152 R w E e fu2 x i = e (g, j) ∧ x ≤ g ∧ g ≤ E
  | k, T, U, 0, fu2, x, i, hk, hT, hL, h1, h2, hx, hE, hi => by omega
  | k, T, U, fu1 + 1, 0, x, i, hk, hT, hL, h1, h2, hx, hE, hi => by omega
  | k, T, U, fu1 + 1, fu2 + 1, x, i, hk, hT, hL, h1, h2, hx, hE, hi => by
    have h180 := hC.1
    have lL : L.length = U.length + (T.length + Q.length) := by rw [hL]; simp
    by_cases hiw : i < w
    · rcases c_next hC (A := U) (R2 := T) (Q := Q) hL hQ hT hx with ⟨i0, m, m1, m2⟩ | ⟨X, R3, m, m0, m1, m2, m3, m4, Y, m5⟩
      · have i0' : T.length = 0 := by rw [i0]; rfl
        refine ⟨x, i, ?_, ?_, by omega, by omega⟩
        · simp (disch := omega) only [f_X0_behindItems_5, z_lt_t, m1, z_bd, c_st_f, z_eq_t]
        · simp (disch := omega) only [f_X8_moveVertically_152, z_lt_t, z_lt_f]
      · have hXl := zit_ne m1
        have lT : T.length = X.length + R3.length := by rw [m0]; simp
        have ci := c_ie hC (A := U) (X := X) (T := R3 ++ Q) (by rw [hL, m0]; simp) m1 hx
        have ri := r_itemEnd hR.1 (A := U) (X := X) (T := R3 ++ Q) (by rw [hL, m0]; simp) m1 hx
        cases k with
        | zero => omega
        | succ k =>
          obtain ⟨g, j, g1, g2, g3, g4⟩ := e_bh_loop (E := E) hC hR hQ hw (e5 := e5) (e := e) k R3 (U ++ X) fu1 fu2 ((U.length : Int) + X.length) (i + 1) (by omega) m2 (by rw [hL, m0]; simp) (by omega) (by omega) (by simp) (by simp; omega) (by omega)
          refine ⟨g, j, ?_, ?_, by omega, by omega⟩
          · simp (disch := omega) only [f_X0_behindItems_5, z_lt_t, m3, z_bd, c_st_t, z_eq_f, ci, g1]
          · simp (disch := omega) only [f_X8_moveVertically_152, z_lt_t, ri, z_bd, g2]
    · refine ⟨x, i, ?_, ?_, by omega, by omega⟩
      · simp (disch := omega) only [f_X0_behindItems_5, z_lt_f]
      · simp (disch := omega) only [f_X8_moveVertically_152, z_lt_f]
set_option maxHeartbeats 4000000 in
theorem e_gf_loop {n ca rf up : Int} {F R : Nat → Int} {L : List Int} (hC : zCx 180 n F L) (hR : zRy 184 R L) (hup : up = 0 ∨ up = 1) {e7 : Int × Int → Option Int} {e26 : (Nat → Int) × Int × Int → Option (Int × Int × (Nat → Int))} : ∀ (k : Nat) (A B : List Int) (fu1 fu2 : Nat) (x y3 y4 : Int), A.length ≤ k → zbal (A ++ B) → L = A ++ B → A.length < fu1 → A.length < fu2 → x = (A.length : Int) → 0 ≤ y3 → zlv A + y3 ≤ 5 → f_X8_rowStart 184 R x = some y4 → (f_X0_goalInFraction_7 n ca F up e7 fu1 x y3 = some (-9) ∧ ∃ g st, f_X8_moveVertically_26 rf up e26 fu2 R x y4 = e26 (R, g, st)) ∨ ∃ g, f_X0_goalInFraction_7 n ca F up e7 fu1 x y3 = some g ∧ f_X8_moveVertically_26 rf up e26 fu2 R x y4 = some (g, rf, va_up (va_up R 181 g) 182 (-9)) ∧ 0 ≤ g ∧ g ≤ L.length
  | k, A, B, 0, fu2, x, y3, y4, hk, hb, hL, h1, h2, hx, hy, hl, hrs => by omega
  | k, A, B, fu1 + 1, 0, x, y3, y4, hk, hb, hL, h1, h2, hx, hy, hl, hrs => by omega
  | k, A, B, fu1 + 1, fu2 + 1, x, y3, y4, hk, hb, hL, h1, h2, hx, hy, hl, hrs => by
    have h180 := hC.1
    have lL : L.length = A.length + B.length := by rw [hL]; simp
    obtain ⟨s0, z1, z2⟩ := zrun_app_inv hb
    have hlv := zlv_run z1
    simp only [List.length_nil] at hlv
    rcases zrow hb with ⟨b1, b2⟩ | ⟨P, R0, R2, Q, s, hf, b1, b2, b3, b4⟩
    · left
      have cs := c_rs hC (P := []) (R := A) (T := B) (by rw [hL]; simp) (Or.inl rfl) b1 (x := x) (by simpa using hx)
      have rs := r_rs hR (P := []) (R := A) (T := B) (by rw [hL]; simp) (Or.inl rfl) b1 (x := x) (by simpa using hx)
      rw [rs] at hrs
      have hy4 : y4 = 0 := by have := Option.some.inj hrs; simpa using this.symm
      subst hy4
      refine ⟨?_, x, 0, ?_⟩
      · simp (disch := omega) only [f_X0_goalInFraction_7, z_lt_f, cs, z_bd, List.length_nil, z_eq_t]
      · simp (disch := omega) only [f_X8_moveVertically_26, z_lt_f]
    · obtain ⟨P2, Q2, g1, g2, g3, g4, g5, g6⟩ := zfr_end hf
      have cs := c_rs hC (P := P2) (R := R0) (T := B) (by rw [hL, g1]; simp) g3 b1 (x := x) (by rw [hx, g1]; simp)
      have rs := r_rs hR (P := P2) (R := R0) (T := B) (by rw [hL, g1]; simp) g3 b1 (x := x) (by rw [hx, g1]; simp)
      have re := r_re hR (A := P2) (R := R0 ++ R2) (Q := Q2) (by rw [hL, g1, g2]; simp) g4 (zbal_app b1 b2) (x := (P2.length : Int)) rfl
      rw [rs] at hrs
      have hy4 := (Option.some.inj hrs).symm
      subst hy4
      have lA : A.length = P2.length + R0.length := by rw [g1]; simp
      have lB : B.length = R2.length + Q2.length := by rw [g2]; simp
      have ho := c_holder hC (S := []) (L := L) (by rw [hL]; simp) hf (x := (P2.length : Int)) (by omega)
      have ci := c_rowItems hC (A := P2) (S := R0) (B := B) (by rw [hL, g1]; simp) (x := (P2.length : Int)) (y := x) rfl (by omega)
      have ri := r_itemsIn hR.1 (A := P2) (S := R0) (B := B) (by rw [hL, g1]; simp) b1 (x := (P2.length : Int)) (y := x) rfl (by omega)
      have hni := zni_b R0 0
      have hlen : ∀ (o : Int) (T : List Int), A = P ++ o :: T → P.length < A.length := by
        intro o T e; rw [e]; simp
      have hrec : ∀ (T : List Int) (o : Int), L = P ++ o :: T → P.length < A.length → zlv P + (y3 + 1) ≤ 5 → (f_X0_goalInFraction_7 n ca F up e7 fu1 (P.length : Int) (y3 + 1) = some (-9) ∧ ∃ g st, bd (f_X8_rowStart 184 R (P.length : Int)) (fun r19 => f_X8_moveVertically_26 rf up e26 fu2 R (P.length : Int) r19) = e26 (R, g, st)) ∨ ∃ g, f_X0_goalInFraction_7 n ca F up e7 fu1 (P.length : Int) (y3 + 1) = some g ∧ bd (f_X8_rowStart 184 R (P.length : Int)) (fun r19 => f_X8_moveVertically_26 rf up e26 fu2 R (P.length : Int) r19) = some (g, rf, va_up (va_up R 181 g) 182 (-9)) ∧ 0 ≤ g ∧ g ≤ L.length := by
        intro T o e hPA hlvP
        have hbP : zbal (P ++ o :: T) := by rw [← e, hL]; exact hb
        obtain ⟨P3, R3, R4, Q4, f1, f2, f3, f4, f5, f6, f7⟩ := zrow2 hbP
        have rs2 := r_rs hR (P := P3) (R := R3) (T := o :: T) (by rw [e, f1]; simp) f3 f5 (x := (P.length : Int)) (by rw [f1]; simp)
        cases k with
        | zero => omega
        | succ k =>
          have := e_gf_loop hC hR hup (ca := ca) (rf := rf) (e7 := e7) (e26 := e26) k P (o :: T) fu1 fu2 (P.length : Int) (y3 + 1) (P3.length : Int) (by omega) hbP e (by omega) (by omega) rfl (by omega) hlvP rs2
          rw [rs2]
          simp only [z_bd]
          exact this
      rcases hf with ⟨kk, a1, a2, a3, a4⟩ | ⟨J, a1, a2, a3⟩ | ⟨I, a1, a2, a3⟩
      · have lP : P2.length = P.length + 1 := by have := congrArg List.length a1; simp at this; omega
        have eL : L = P ++ kk :: (R0 ++ B) := by rw [hL, a1]; simp
        have hc1 := (hC.at (A := P) (m := kk) (T := R0 ++ B) eL (x := (P2.length : Int) - 1) (by omega)).1
        have hc2 := (hC.at (A := P) (m := kk) (T := R0 ++ B) eL (x := (P.length : Int)) rfl).1
        have hr1 := (hR.1.at (A := P) (m := kk) (T := R0 ++ B) eL (x := (P2.length : Int) - 1) (by omega)).1
        rw [zr_op ⟨by omega, a4⟩] at hr1
        have hlvP : zlv P + (y3 + 1) ≤ 5 := by
          have : zlv A = zlv P + 1 := by rw [a1, zlv_app]; simp only [zlv, zlv_bal b1, zop_op (m := kk) ⟨by omega, a4⟩]; omega
          omega
        have key := hrec (R0 ++ B) kk eL (hlen kk R0 a1) hlvP
        have ep : (P2.length : Int) - 1 = P.length := by omega
        rw [ep] at hr1
        have h1c : f_X0_goalInFraction_7 n ca F up e7 (fu1 + 1) x y3 = f_X0_goalInFraction_7 n ca F up e7 fu1 (P.length : Int) (y3 + 1) := by
          simp (disch := omega) only [f_X0_goalInFraction_7, z_lt_f, cs, z_bd, z_eq_f, ho, hc1, z_jn, hc2]
        have h1r : f_X8_moveVertically_26 rf up e26 (fu2 + 1) R x (P2.length : Int) = bd (f_X8_rowStart 184 R (P.length : Int)) (fun r19 => f_X8_moveVertically_26 rf up e26 fu2 R (P.length : Int) r19) := by
          rcases hup with rfl | rfl
          · simp (disch := omega) only [f_X8_moveVertically_26, z_lt_t, z_in, z_jn, hr1, z_eq_f, z_eq_t, ep]
          · simp (disch := omega) only [f_X8_moveVertically_26, z_lt_t, z_in, z_jn, hr1, z_eq_f, z_eq_t, ep]
        rw [h1c, h1r]
        exact key
      · have lP : P2.length = P.length + 1 := by have := congrArg List.length a1; simp at this; omega
        have lQ : Q2.length = J.length + 2 + Q.length := by
          have e1 := congrArg List.length g2
          rw [a2] at e1
          simp at e1; omega
        have eL : L = P ++ 1 :: (R0 ++ B) := by rw [hL, a1]; simp
        have hc1 := (hC.at (A := P) (m := 1) (T := R0 ++ B) eL (x := (P2.length : Int) - 1) (by omega)).1
        have hc2 := (hC.at (A := P) (m := 1) (T := R0 ++ B) eL (x := (P.length : Int)) rfl).1
        have hr1 := (hR.1.at (A := P) (m := 1) (T := R0 ++ B) eL (x := (P2.length : Int) - 1) (by omega)).1
        rw [zr_op ⟨by omega, by omega⟩] at hr1
        have ep : (P2.length : Int) - 1 = P.length := by omega
        rw [ep] at hr1
        rcases hup with rfl | rfl
        · right
          have e6 : L = P ++ 1 :: ((R0 ++ R2) ++ 6 :: (J ++ 11 :: Q)) := by rw [hL, a1, a2]; simp
          have css := c_ss hC (A := P) (I := R0 ++ R2) (T := J ++ 11 :: Q) e6 (zbal_app b1 b2) (x := (P.length : Int)) rfl
          have rre := r_re hR (A := P ++ 1 :: ((R0 ++ R2) ++ [6])) (R := J) (Q := 11 :: Q) (by rw [e6]; simp) (Or.inr ⟨11, Q, rfl, by omega⟩) a3 (x := (P2.length : Int) + (R0 ++ R2).length + 1) (by simp; omega)
          obtain ⟨g, j, v1, v2, v3, v4⟩ := e_bh_loop (w := (zni 0 R0 : Int)) (E := ((P ++ 1 :: ((R0 ++ R2) ++ [6])).length : Int) + J.length) hC hR (Q := 11 :: Q) (Or.inr ⟨11, Q, rfl, by omega⟩) (by omega) (e5 := fun (z4 : Int × Int) => some z4.1) (e := fun (z16 : Int × Int) => bd (f_X8_goTo R z16.1) (fun r17 => some (r17.1, rf, r17.2))) J.length J (P ++ 1 :: ((R0 ++ R2) ++ [6])) fuel fuel ((P2.length : Int) + (R0 ++ R2).length + 1) 0 (Nat.le_refl _) a3 (by rw [e6]; simp) (by unfold fuel; omega) (by unfold fuel; omega) (by simp; omega) rfl (by simp; omega)
          have ess : (P.length : Int) + (R0 ++ R2).length + 2 = (P2.length : Int) + (R0 ++ R2).length + 1 := by omega
          rw [ess] at css
          refine ⟨g, ?_, ?_, by omega, by simp at v4; omega⟩
          · simp (disch := omega) only [f_X0_goalInFraction_7, z_lt_f, cs, z_bd, z_eq_f, z_eq_t, ho, hc1, z_jn, hc2, css, ci, f_X0_behindItems, v1]
          · simp (disch := omega) only [f_X8_moveVertically_26, z_lt_t, z_in, z_jn, ep, hr1, z_eq_f, z_eq_t, ri, z_bd, re, rre, v2]
            simp (disch := omega) only [f_X8_goTo, z181, z182, z_in, z_bd]
        · have hlvP : zlv P + (y3 + 1) ≤ 5 := by
            have : zlv A = zlv P + 1 := by rw [a1, zlv_app]; simp only [zlv, zlv_bal b1, zop_op (m := 1) ⟨by omega, by omega⟩]; omega
            omega
          have key := hrec (R0 ++ B) 1 eL (hlen 1 R0 a1) hlvP
          have h1c : f_X0_goalInFraction_7 n ca F 1 e7 (fu1 + 1) x y3 = f_X0_goalInFraction_7 n ca F 1 e7 fu1 (P.length : Int) (y3 + 1) := by
            simp (disch := omega) only [f_X0_goalInFraction_7, z_lt_f, cs, z_bd, z_eq_f, z_eq_t, ho, hc1, z_jn, hc2]
          have h1r : f_X8_moveVertically_26 rf 1 e26 (fu2 + 1) R x (P2.length : Int) = bd (f_X8_rowStart 184 R (P.length : Int)) (fun r19 => f_X8_moveVertically_26 rf 1 e26 fu2 R (P.length : Int) r19) := by
            simp (disch := omega) only [f_X8_moveVertically_26, z_lt_t, z_in, z_jn, hr1, z_eq_f, z_eq_t, ep]
          rw [h1c, h1r]
          exact key
      · have lP : P2.length = P.length + I.length + 2 := by have := congrArg List.length a1; simp at this; omega
        have eL : L = P ++ 1 :: (I ++ 6 :: (R0 ++ B)) := by rw [hL, a1]; simp
        have eL2 : L = (P ++ 1 :: I) ++ 6 :: (R0 ++ B) := by rw [eL]; simp
        have hc1 := (hC.at (A := P ++ 1 :: I) (m := 6) (T := R0 ++ B) eL2 (x := (P2.length : Int) - 1) (by simp; omega)).1
        have hc2 := (hC.at (A := P) (m := 1) (T := I ++ 6 :: (R0 ++ B)) eL (x := (P.length : Int)) rfl).1
        have hr1 := (hR.1.at (A := P ++ 1 :: I) (m := 6) (T := R0 ++ B) eL2 (x := (P2.length : Int) - 1) (by simp; omega)).1
        rw [zr_6] at hr1
        have e2 : zbo 0 (P ++ 1 :: I).reverse = I.length := by
          rw [List.reverse_append, List.reverse_cons, List.append_assoc, zbo_dr _ (Int.le_refl 0) (zbal_dr a3 (Int.le_refl 0))]
          simp only [List.singleton_append, zbo]
          rw [if_pos (by omega)]; rfl
        have e3 := r_beginOf hR.1 (A := P ++ 1 :: I) (T := 6 :: (R0 ++ B)) eL2 (x := (P2.length : Int) - 1) (by simp; omega) (by rw [e2]; simp; omega)
        rw [e2, show (((P ++ 1 :: I).length : Int) - 1 - (I.length : Int)) = (P.length : Int) by simp; omega] at e3
        rcases hup with rfl | rfl
        · have hlvP : zlv P + (y3 + 1) ≤ 5 := by
            have : zlv A = zlv P + 1 := by rw [a1, zlv_app]; simp only [zlv, zlv_app, zlv_bal b1, zlv_bal a3, zop_6, zop_op (m := 1) ⟨by omega, by omega⟩]; omega
            omega
          have key := hrec (I ++ 6 :: (R0 ++ B)) 1 eL (by rw [a1]; simp) hlvP
          have h1c : f_X0_goalInFraction_7 n ca F 0 e7 (fu1 + 1) x y3 = f_X0_goalInFraction_7 n ca F 0 e7 fu1 (P.length : Int) (y3 + 1) := by
            simp (disch := omega) only [f_X0_goalInFraction_7, z_lt_f, cs, z_bd, z_eq_f, z_eq_t, ho, hc1, z_jn, hc2]
          have h1r : f_X8_moveVertically_26 rf 0 e26 (fu2 + 1) R x (P2.length : Int) = bd (f_X8_rowStart 184 R (P.length : Int)) (fun r19 => f_X8_moveVertically_26 rf 0 e26 fu2 R (P.length : Int) r19) := by
            simp (disch := omega) only [f_X8_moveVertically_26, z_lt_t, z_in, z_jn, hr1, z_eq_f, z_eq_t, z_bd, e3]
          rw [h1c, h1r]
          exact key
        · right
          have rre := r_re hR (A := P ++ [1]) (R := I) (Q := 6 :: (R0 ++ B)) (by rw [eL]; simp) (Or.inr ⟨6, _, rfl, by omega⟩) a3 (x := (P.length : Int) + 1) (by simp)
          obtain ⟨g, j, v1, v2, v3, v4⟩ := e_bh_loop (w := (zni 0 R0 : Int)) (E := ((P ++ [1]).length : Int) + I.length) hC hR (Q := 6 :: (R0 ++ B)) (Or.inr ⟨6, _, rfl, by omega⟩) (by omega) (e5 := fun (z4 : Int × Int) => some z4.1) (e := fun (z16 : Int × Int) => bd (f_X8_goTo R z16.1) (fun r17 => some (r17.1, rf, r17.2))) I.length I (P ++ [1]) fuel fuel ((P.length : Int) + 1) 0 (Nat.le_refl _) a3 (by rw [eL]; simp) (by unfold fuel; omega) (by unfold fuel; omega) (by simp) rfl (by omega)
          refine ⟨g, ?_, ?_, by omega, by simp at v4; omega⟩
          · simp (disch := omega) only [f_X0_goalInFraction_7, z_lt_f, cs, z_bd, z_eq_f, z_eq_t, ho, hc1, z_jn, hc2, ci, f_X0_behindItems, v1]
          · simp (disch := omega) only [f_X8_moveVertically_26, z_lt_t, z_in, z_jn, hr1, z_eq_f, z_eq_t, z_bd, e3, ri, rre, v2]
            simp (disch := omega) only [f_X8_goTo, z181, z182, z_in, z_bd]
