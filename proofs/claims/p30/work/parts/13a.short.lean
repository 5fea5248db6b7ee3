/-! what stands without brackets, on both sides -/
theorem zbi_c (b : Bool) : zbi b = 0 ∨ zbi b = 1 := by cases b <;> simp [zbi]
section zsh
variable {n : Int} {F R : Nat → Int} {L Q : List Int}
/-- the flag down, the reference walks to the row's end -/
theorem r_sc0 (hR : zRy 184 R L) {E : Int} : ∀ (k : Nat) (T U : List Int) (fu : Nat) (x : Int), T.length ≤ k → zbal T → L = U ++ (T ++ Q) → T.length < fu → x = (U.length : Int) → E = (U.length : Int) + T.length → f_X8_isShort_101 184 R E (fun (z21 : Int × Int) => gB z21.2 (some z21.2)) fu x 0 = some 0
  | k, T, U, 0, x, hk, hT, hL, hf, hx, hE => by omega
  | k, T, U, fu + 1, x, hk, hT, hL, hf, hx, hE => by
    have h180 := hR.2
    have lL : L.length = U.length + (T.length + Q.length) := by rw [hL]; simp
    by_cases hn : T = []
    · have h0 : T.length = 0 := by rw [hn]; rfl
      simp (disch := omega) only [f_X8_isShort_101, z_lt_f, z_gB]
    · obtain ⟨X, T1, e, hX, hT1⟩ := zitF hT hn
      have hXl := zit_ne hX
      have lT : T.length = X.length + T1.length := by rw [e]; simp
      have ri := r_itemEnd hR.1 (A := U) (X := X) (T := T1 ++ Q) (by rw [hL, e]; simp) hX hx
      cases k with
      | zero => omega
      | succ k =>
        have ih := r_sc0 hR (E := E) k T1 (U ++ X) fu ((U.length : Int) + X.length) (by omega) hT1 (by rw [hL, e]; simp) (by omega) (by simp) (by simp; omega)
        simp (disch := omega) only [f_X8_isShort_101, z_lt_t, z_jn, z_eq_t, ri, z_bd, ih]
theorem e_sc_loop (hC : zCx 180 n F L) (hR : zRy 184 R L) (hQ : zbeg Q) {E : Int} {e : Int × Int × Int → Option Int} : ∀ (k : Nat) (T U : List Int) (fu1 fu2 : Nat) (x z i : Int), T.length ≤ k → zbal T → L = U ++ (T ++ Q) → T.length < fu1 → T.length < fu2 → x = (U.length : Int) → E = (U.length : Int) + T.length → 0 ≤ z → z ≤ i → i + zcnt T ≤ 59 → ∃ (b : Bool) (z' p' i' mm : Int), f_X6_standsAsOperand_44 180 n F e fu1 z x i = e (z', p', i') ∧ f_X8_isShort_101 184 R E (fun (z21 : Int × Int) => gB z21.2 (some z21.2)) fu2 x 1 = some (zbi b) ∧ z ≤ z' ∧ z' ≤ 60 ∧ (T ≠ [] → b = true → z < z') ∧ f_X3_mark 180 n F p' = some mm ∧ f_X7_startsItem mm = some (zbi (!b)) ∧ (T = [] → b = true ∧ z' = z)
  | k, T, U, 0, fu2, x, z, i, hk, hT, hL, h1, h2, hx, hE, hz, hzi, hi => by omega
  | k, T, U, fu1 + 1, 0, x, z, i, hk, hT, hL, h1, h2, hx, hE, hz, hzi, hi => by omega
  | k, T, U, fu1 + 1, fu2 + 1, x, z, i, hk, hT, hL, h1, h2, hx, hE, hz, hzi, hi => by
    have h180 := hC.1
    have h3 := hR.2
    have lL : L.length = U.length + (T.length + Q.length) := by rw [hL]; simp
    rcases c_next hC (A := U) (R2 := T) (Q := Q) hL hQ hT hx with ⟨i0, m, m1, m2⟩ | ⟨X, T1, m, m0, m1, m2, m3, m4, Y, m5⟩
    · have h0 : T.length = 0 := by rw [i0]; rfl
      refine ⟨true, z, x, i, m, ?_, ?_, by omega, by omega, fun h => absurd i0 h, m1, ?_⟩
      · simp (disch := omega) only [f_X6_standsAsOperand_44, z_lt_t, m1, z_bd, c_sc_f, z_eq_t]
      · simp (disch := omega) only [f_X8_isShort_101, z_lt_f, z_gB]
        rfl
      · exact ⟨by rw [c_st_f (by omega)]; rfl, fun _ => ⟨rfl, rfl⟩⟩
    · have hXl := zit_ne m1
      have hTn : T ≠ [] := by intro h; rw [h] at m0; have := congrArg List.length m0; simp at this; omega
      have lT : T.length = X.length + T1.length := by rw [m0]; simp
      have hm := (hR.1.at (A := U) (m := m) (T := Y ++ T1 ++ Q) (by rw [hL, m0, m5]; simp) hx).1
      have ci := c_ie hC (A := U) (X := X) (T := T1 ++ Q) (by rw [hL, m0]; simp) m1 hx
      have ri := r_itemEnd hR.1 (A := U) (X := X) (T := T1 ++ Q) (by rw [hL, m0]; simp) m1 hx
      have hcX : zcnt T = zcnt X + zcnt T1 := by rw [m0, zcnt_app]
      have hcX1 : 1 ≤ zcnt X := by rw [m5]; simp only [zcnt]; rw [if_pos (by simp [zsi]; omega)]; omega
      cases k with
      | zero => omega
      | succ k =>
        by_cases hs : m = 2 ∨ m = 3
        · obtain ⟨b, z', p', i', mm, a1, a2, a3, a4, a5, a6, a7, a8⟩ := e_sc_loop hC hR hQ (E := E) (e := e) k T1 (U ++ X) fu1 fu2 ((U.length : Int) + X.length) (z + 1) (i + 1) (by omega) m2 (by rw [hL, m0]; simp) (by omega) (by omega) (by simp) (by simp; omega) (by omega) (by omega) (by omega)
          refine ⟨b, z', p', i', mm, ?_, ?_, by omega, a4, fun _ _ => by omega, a6, a7, fun h => absurd h hTn⟩
          · simp (disch := omega) only [f_X6_standsAsOperand_44, z_lt_t, m3, z_bd, c_sc_t, z_eq_f, ci, a1]
          · rw [zr_op (by omega)] at hm
            rcases hs with rfl | rfl
            · simp (disch := omega) only [f_X8_isShort_101, z_lt_t, z_jn, z_eq_f, z_in, hm, z_eq_t, ri, z_bd, a2]
            · simp (disch := omega) only [f_X8_isShort_101, z_lt_t, z_jn, z_eq_f, z_in, hm, z_eq_t, ri, z_bd, a2]
        · have r0 := r_sc0 hR (Q := Q) (E := E) T1.length T1 (U ++ X) fu2 ((U.length : Int) + X.length) (Nat.le_refl _) m2 (by rw [hL, m0]; simp) (by omega) (by simp) (by simp; omega)
          refine ⟨false, z, x, i, m, ?_, ?_, by omega, by omega, fun _ h => absurd h (by decide), m3, ?_⟩
          · simp (disch := omega) only [f_X6_standsAsOperand_44, z_lt_t, m3, z_bd, c_sc_f, z_eq_t]
          · rcases m4 with m4 | m4
            · rw [zr_op m4] at hm
              simp (disch := omega) only [f_X8_isShort_101, z_lt_t, z_jn, z_eq_f, z_in, hm, ri, z_bd, r0]
              rfl
            · rw [zr_sy m4.1] at hm
              simp (disch := omega) only [f_X8_isShort_101, z_lt_t, z_jn, z_eq_f, z_in, hm, ri, z_bd, r0]
              rfl
          · exact ⟨by rw [c_st_t (by omega)]; rfl, fun h => absurd h hTn⟩
/-- a row's first mark as a base -/
def zbs (m : Int) : Bool := zle m || zdi m || decide (m = 4)
theorem zbs_n {m : Int} (h : m = 0 ∨ m = 6 ∨ 11 ≤ m ∧ m ≤ 15) : zle m = false ∧ zdi m = false ∧ m ≠ 4 ∧ m ≠ 5 := by
  refine ⟨decide_eq_false (by omega), decide_eq_false (by omega), by omega, by omega⟩
theorem zle_op {m : Int} (h : m ≤ 5) : zle m = false ∧ zdi m = false := ⟨decide_eq_false (by omega), decide_eq_false (by omega)⟩
theorem e_short (hC : zCx 180 n F L) (hR : zRy 184 R L) (hQ : zbeg Q) {T U : List Int} (hL : L = U ++ (T ++ Q)) (hT : zbal T) (hcn : zcnt T ≤ 60) {x : Int} (hx : x = (U.length : Int)) : ∃ b : Bool, f_X6_standsAsOperand 180 n F x = some (zbi b) ∧ f_X8_isShort 184 R x 1 = some (zbi b) := by
  have h180 := hC.1
  have h3 := hR.2
  have lL : L.length = U.length + (T.length + Q.length) := by rw [hL]; simp
  have re := r_re hR (A := U) (R := T) (Q := Q) hL hQ hT hx
  rcases c_next hC (A := U) (R2 := T) (Q := Q) hL hQ hT hx with ⟨i0, m, m1, m2⟩ | ⟨X, T1, m, m0, m1, m2, m3, m4, Y, m5⟩
  · have h0 : T.length = 0 := by rw [i0]; rfl
    obtain ⟨k1, k2, k3, k4⟩ := zbs_n m2
    refine ⟨false, ?_, ?_⟩
    · unfold f_X6_standsAsOperand
      rw [m1, z_bd, c_le (by omega), z_bd, k1, zbi_f]
      rw [z_jn, z_eq_t (by omega), c_di (by omega), z_bd, k2, zbi_f, z_eq_t (by omega), z_eq_f (by omega), z_eq_f (by omega), z_gB (by omega)]
    · unfold f_X8_isShort
      rw [re, z_bd, z_eq_t (by omega), z_gB (by omega)]; rfl
  · have hXl := zit_ne m1
    have lT : T.length = X.length + T1.length := by rw [m0]; simp
    have hm := (hR.1.at (A := U) (m := m) (T := Y ++ T1 ++ Q) (by rw [hL, m0, m5]; simp) hx).1
    have ci := c_ie hC (A := U) (X := X) (T := T1 ++ Q) (by rw [hL, m0]; simp) m1 hx
    have ri := r_itemEnd hR.1 (A := U) (X := X) (T := T1 ++ Q) (by rw [hL, m0]; simp) m1 hx
    have hcX : zcnt T = zcnt X + zcnt T1 := by rw [m0, zcnt_app]
    have hcX1 : 1 ≤ zcnt X := by rw [m5]; simp only [zcnt]; rw [if_pos (by simp [zsi]; omega)]; omega
    -- the kind of the first mark, as both read it
    have hk : ∃ m' : Int, R x.toNat = m' ∧ (-2147483648 ≤ m' ∧ m' ≤ 2147483647) ∧ zle m' = zle m ∧ zdi m' = zdi m ∧ (m' = -4 ↔ m = 4) ∧ (m' = -5 ↔ m = 5) := by
      rcases m4 with m4 | m4
      · rw [zr_op m4] at hm
        refine ⟨-m, hm, by omega, ?_, ?_, by omega, by omega⟩
        · rw [(zle_op m4.2).1, (zle_op (m := -m) (by omega)).1]
        · rw [(zle_op m4.2).2, (zle_op (m := -m) (by omega)).2]
      · rw [zr_sy m4.1] at hm
        exact ⟨m, hm, by omega, rfl, rfl, by omega, by omega⟩
    obtain ⟨m', hm', hb', kl, kd, k4, k5⟩ := hk
    have hmb : -2147483648 ≤ m ∧ m ≤ 2147483647 := by omega
    -- the class's test of the first mark
    have cfirst : ∀ {ρ : Type} (q : Unit → Option ρ) (z : Option ρ), cEq (zbi (zle m)) 0 (bd (f_X7_isDigit m) (fun r4 => cEq r4 0 (cEq m 4 (q ()) (cEq m 5 (q ()) z)) (q ()))) (q ()) = if zbs m = true ∨ m = 5 then q () else z := by
      intro ρ q z
      rw [c_di hmb, z_bd]
      unfold zbs
      cases hz1 : zle m
      · rw [zbi_f, z_eq_t (by omega)]
        cases hz2 : zdi m
        · rw [zbi_f, z_eq_t (by omega)]
          by_cases h4 : m = 4
          · rw [z_eq_t (by omega), if_pos]; left; simp [h4]
          · rw [z_eq_f (by omega)]
            by_cases h5 : m = 5
            · rw [z_eq_t (by omega), if_pos]; right; exact h5
            · rw [z_eq_f (by omega), if_neg]; simp [h4, h5]
        · rw [zbi_t, z_eq_f (by omega), if_pos]; left; simp
      · rw [zbi_t, z_eq_f (by omega), if_pos]; left; simp
    obtain ⟨b, z', p', i', mm, a1, a2, a3, a4, a5, a6, a7, a8⟩ := e_sc_loop hC hR hQ (E := (U.length : Int) + T.length) (e := fun (z10 : Int × Int × Int) => bd (f_X3_mark 180 n F z10.2.1) (fun r11 => bd (f_X7_startsItem r11) (fun r12 => jn (fun (z14 : Int) => jn (fun (z20 : Int) => gB z20 (some z20)) (fun k16 => jn (fun (z19 : Unit) => k16 0) (fun k15 => cEq z14 0 (k15 ()) (jn (fun (z18 : Unit) => k16 1) (fun k17 => cEq m 5 (cLt 0 z10.1 (k17 ()) (k15 ())) (k17 ())))))) (fun k13 => cEq r12 0 (k13 1) (k13 0))))) T1.length T1 (U ++ X) fuel fuel ((U.length : Int) + X.length) 0 0 (Nat.le_refl _) m2 (by rw [hL, m0]; simp) (by unfold fuel; omega) (by unfold fuel; omega) (by simp) (by simp; omega) (Int.le_refl 0) (Int.le_refl 0) (by omega)
    have ctail : f_X6_standsAsOperand 180 n F x = if zbs m = true ∨ m = 5 then some (zbi (b && (decide (m ≠ 5) || decide (0 < z')))) else some 0 := by
      unfold f_X6_standsAsOperand
      rw [m3, z_bd, c_le hmb, z_bd, z_jn]
      rw [z_gB (by omega)]
      refine (cfirst (fun _ => bd (f_X3_itemEnd 180 n F x) (fun r6 => f_X6_standsAsOperand_44 180 n F (fun (z10 : Int × Int × Int) => bd (f_X3_mark 180 n F z10.2.1) (fun r11 => bd (f_X7_startsItem r11) (fun r12 => jn (fun (z14 : Int) => jn (fun (z20 : Int) => gB z20 (some z20)) (fun k16 => jn (fun (z19 : Unit) => k16 0) (fun k15 => cEq z14 0 (k15 ()) (jn (fun (z18 : Unit) => k16 1) (fun k17 => cEq m 5 (cLt 0 z10.1 (k17 ()) (k15 ())) (k17 ())))))) (fun k13 => cEq r12 0 (k13 1) (k13 0))))) fuel 0 r6 0)) (some 0)).trans ?_
      rw [ci, z_bd, a1]
      simp only [a6, z_bd, a7, z_jn]
      congr 1
      cases b
      · simp (disch := omega) only [Bool.not_false, zbi_t, z_eq_f, z_eq_t, z_gB, Bool.false_and, zbi_f]
      · simp (disch := omega) only [Bool.not_true, zbi_f, z_eq_f, z_eq_t, Bool.true_and]
        by_cases h5 : m = 5
        · by_cases hz : 0 < z'
          · simp (disch := omega) only [z_eq_t, z_lt_t, z_gB]
            simp [h5, hz, zbi]
          · simp (disch := omega) only [z_eq_t, z_lt_f, z_gB]
            simp [h5, hz, zbi]
        · simp (disch := omega) only [z_eq_f, z_gB]
          simp [h5, zbi]
    have hcase : (zbs m = true ∧ m ≠ 5 ∧ ((f_X8_isLetter m' = some 1) ∨ (f_X8_isLetter m' = some 0 ∧ f_X8_isDigit m' = some 1) ∨ (f_X8_isLetter m' = some 0 ∧ f_X8_isDigit m' = some 0 ∧ m' = -4))) ∨ (zbs m = false ∧ f_X8_isLetter m' = some 0 ∧ f_X8_isDigit m' = some 0 ∧ m' ≠ -4) := by
      have q1 := r_le hb'
      have q2 := r_di hb'
      rw [kl] at q1
      rw [kd] at q2
      unfold zbs
      cases hz1 : zle m
      · rw [hz1] at q1
        cases hz2 : zdi m
        · rw [hz2] at q2
          by_cases h4 : m = 4
          · left
            refine ⟨by simp [h4], by omega, Or.inr (Or.inr ⟨q1, q2, by omega⟩)⟩
          · right
            exact ⟨by simp [h4], q1, q2, by omega⟩
        · rw [hz2] at q2
          left
          have := of_decide_eq_true hz2
          exact ⟨by simp, by omega, Or.inr (Or.inl ⟨q1, q2⟩)⟩
      · rw [hz1] at q1
        left
        have := of_decide_eq_true hz1
        exact ⟨by simp, by omega, Or.inl q1⟩
    by_cases hT1 : T1 = []
    · -- one item alone
      have l1 : T1.length = 0 := by rw [hT1]; rfl
      obtain ⟨b1, b2⟩ := a8 hT1
      subst b1
      refine ⟨zbs m, ?_, ?_⟩
      · rw [ctail]
        rcases hcase with ⟨h1, h2, -⟩ | ⟨h1, -⟩
        · rw [if_pos (Or.inl h1), h1]; simp [h2]
        · by_cases h5 : m = 5
          · rw [if_pos (Or.inr h5), h1, b2]; simp [h5, zbi]
          · rw [if_neg (by simp [h1, h5]), h1]; rfl
      · unfold f_X8_isShort
        rcases hcase with ⟨h1, h2, h3 | ⟨h3, h4⟩ | ⟨h3, h4, h6⟩⟩ | ⟨h1, h3, h4, h6⟩
        · rw [h1]; simp (disch := omega) only [re, z_bd, z_eq_f, z_in, ri, hm', h3, z_jn, z_eq_t, z_gB, zbi_t]
        · rw [h1]; simp (disch := omega) only [re, z_bd, z_eq_f, z_in, ri, hm', h3, h4, z_jn, z_eq_t, z_gB, zbi_t]
        · rw [h1]; simp (disch := omega) only [re, z_bd, z_eq_f, z_in, ri, hm', h3, h4, z_jn, z_eq_t, z_gB, zbi_t]
        · rw [h1]; simp (disch := omega) only [re, z_bd, z_eq_f, z_in, ri, hm', h3, h4, z_jn, z_eq_t, z_gB, zbi_f]
    · have l1 : 0 < T1.length := List.length_pos_iff.mpr hT1
      have a2' : f_X8_isShort_101 184 R (x + T.length) (fun (z21 : Int × Int) => gB z21.2 (some z21.2)) fuel ((U.length : Int) + X.length) 1 = some (zbi b) := by rw [hx]; exact a2
      have r0 := r_sc0 hR (Q := Q) (E := (U.length : Int) + T.length) T1.length T1 (U ++ X) fuel ((U.length : Int) + X.length) (Nat.le_refl _) m2 (by rw [hL, m0]; simp) (by unfold fuel; omega) (by simp) (by simp; omega)
      refine ⟨(zbs m || decide (m = 5)) && b, ?_, ?_⟩
      · rw [ctail]
        by_cases h5 : zbs m = true ∨ m = 5
        · rw [if_pos h5]
          have e5 : (zbs m || decide (m = 5)) = true := by
            rcases h5 with h | h
            · simp [h]
            · simp [h]
          rw [e5, Bool.true_and]
          cases hb : b
          · rfl
          · have := a5 hT1 hb
            simp [this]
        · rw [if_neg h5]
          have e5 : (zbs m || decide (m = 5)) = false := by
            cases hz : zbs m
            · simp; intro h; exact h5 (Or.inr h)
            · exact absurd (Or.inl hz) h5
          rw [e5]; rfl
      · unfold f_X8_isShort
        rcases hcase with ⟨h1, h2, h3 | ⟨h3, h4⟩ | ⟨h3, h4, h6⟩⟩ | ⟨h1, h3, h4, h6⟩
        · rw [h1]; simp (disch := omega) only [re, z_bd, z_eq_f, z_in, ri, hm', h3, z_jn, a2, Bool.true_or, Bool.true_and]
        · rw [h1]; simp (disch := omega) only [re, z_bd, z_eq_f, z_in, ri, hm', h3, h4, z_jn, z_eq_t, a2, Bool.true_or, Bool.true_and]
        · rw [h1]; simp (disch := omega) only [re, z_bd, z_eq_f, z_in, ri, hm', h3, h4, z_jn, z_eq_t, a2, Bool.true_or, Bool.true_and]
        · by_cases h5 : m = 5
          · rw [h1]; simp (disch := omega) only [re, z_bd, z_eq_f, z_in, ri, hm', h3, h4, z_jn, z_eq_t, a2, h5, decide_true, Bool.or_true, Bool.true_and]
          · rw [h1]; simp (disch := omega) only [re, z_bd, z_eq_f, z_in, ri, hm', h3, h4, z_jn, z_eq_t, r0]
            simp [h5, zbi]
theorem e_base (hC : zCx 180 n F L) (hR : zRy 184 R L) (hQ : zbeg Q) {T U : List Int} (hL : L = U ++ (T ++ Q)) (hT : zbal T) {x : Int} (hx : x = (U.length : Int)) : ∃ b : Bool, f_X6_standsAsBase 180 n F x = some (zbi b) ∧ f_X8_isShort 184 R x 0 = some (zbi b) := by
  have h180 := hC.1
  have h3 := hR.2
  have lL : L.length = U.length + (T.length + Q.length) := by rw [hL]; simp
  have re := r_re hR (A := U) (R := T) (Q := Q) hL hQ hT hx
  rcases c_next hC (A := U) (R2 := T) (Q := Q) hL hQ hT hx with ⟨i0, m, m1, m2⟩ | ⟨X, T1, m, m0, m1, m2, m3, m4, Y, m5⟩
  · have h0 : T.length = 0 := by rw [i0]; rfl
    obtain ⟨k1, k2, k3, k4⟩ := zbs_n m2
    refine ⟨false, ?_, ?_⟩
    · unfold f_X6_standsAsBase
      rw [m1, z_bd, c_le (by omega), z_bd, k1, zbi_f, c_di (by omega), k2, zbi_f]
      simp (disch := omega) only [z_jn, z_eq_t, z_eq_f, z_bd, z_gB]
    · unfold f_X8_isShort
      rw [re, z_bd, z_eq_t (by omega), z_gB (by omega)]; rfl
  · have hXl := zit_ne m1
    have lT : T.length = X.length + T1.length := by rw [m0]; simp
    have hm := (hR.1.at (A := U) (m := m) (T := Y ++ T1 ++ Q) (by rw [hL, m0, m5]; simp) hx).1
    have ci := c_ie hC (A := U) (X := X) (T := T1 ++ Q) (by rw [hL, m0]; simp) m1 hx
    have ri := r_itemEnd hR.1 (A := U) (X := X) (T := T1 ++ Q) (by rw [hL, m0]; simp) m1 hx
    have hmb : -2147483648 ≤ m ∧ m ≤ 2147483647 := by omega
    have hk : ∃ m' : Int, R x.toNat = m' ∧ (-2147483648 ≤ m' ∧ m' ≤ 2147483647) ∧ zle m' = zle m ∧ zdi m' = zdi m ∧ (m' = -4 ↔ m = 4) := by
      rcases m4 with m4 | m4
      · rw [zr_op m4] at hm
        refine ⟨-m, hm, by omega, ?_, ?_, by omega⟩
        · rw [(zle_op m4.2).1, (zle_op (m := -m) (by omega)).1]
        · rw [(zle_op m4.2).2, (zle_op (m := -m) (by omega)).2]
      · rw [zr_sy m4.1] at hm
        exact ⟨m, hm, by omega, rfl, rfl, by omega⟩
    obtain ⟨m', hm', hb', kl, kd, k4⟩ := hk
    have hnext : ∃ (m2' : Int) (b2 : Bool), f_X3_mark 180 n F ((U.length : Int) + X.length) = some m2' ∧ f_X7_startsItem m2' = some (zbi b2) ∧ (b2 = true ↔ T1 ≠ []) := by
      rcases c_next hC (A := U ++ X) (R2 := T1) (Q := Q) (by rw [hL, m0]; simp) hQ m2 (x := (U.length : Int) + X.length) (by simp) with ⟨i0, w, w1, w2⟩ | ⟨X2, T2, w, w0, w1, w2, w3, w4, Y2, w5⟩
      · exact ⟨w, false, w1, by rw [c_st_f (by omega)]; rfl, by simp [i0]⟩
      · refine ⟨w, true, w3, by rw [c_st_t (by omega)]; rfl, by simp; intro h; rw [w0] at h; have := zit_ne w1; simp only [List.append_eq_nil_iff] at h; rw [h.1] at this; simp at this⟩
    obtain ⟨m2', b2, n1, n2, n3⟩ := hnext
    have q1 := r_le hb'
    have q2 := r_di hb'
    rw [kl] at q1
    rw [kd] at q2
    have p1 := c_le hmb
    have p2 := c_di hmb
    refine ⟨zbs m && !b2, ?_, ?_⟩
    · unfold f_X6_standsAsBase zbs
      rw [m3, z_bd, p1, z_bd, p2, ci]
      cases hz1 : zle m <;> cases hz2 : zdi m <;> by_cases h4 : m = 4 <;> cases b2 <;> simp (disch := omega) only [zbi_f, zbi_t, z_jn, z_eq_t, z_eq_f, z_bd, z_gB, n1, n2] <;> simp [h4, zbi]
    · have hlen : T1.length = 0 ↔ b2 = false := by
        rw [List.length_eq_zero_iff]
        cases b2
        · simp only [iff_true]
          by_cases h : T1 = []
          · exact h
          · exact absurd (n3.mpr h) (by decide)
        · simp; exact n3.mp rfl
      unfold f_X8_isShort zbs
      rw [re, z_bd, z_eq_f (by omega), z_in (by omega), ri, z_bd, hm', q1, z_bd, q2]
      cases hb2 : b2
      · have l1 : T1.length = 0 := hlen.mpr hb2
        cases hz1 : zle m <;> cases hz2 : zdi m <;> by_cases h4 : m = 4 <;> simp (disch := omega) only [zbi_f, zbi_t, z_jn, z_eq_t, z_eq_f, z_bd, z_gB] <;> simp [h4, zbi]
      · have l1 : 0 < T1.length := by
          rcases Nat.eq_zero_or_pos T1.length with h | h
          · have := hlen.mp h; rw [hb2] at this; cases this
          · exact h
        cases hz1 : zle m <;> cases hz2 : zdi m <;> by_cases h4 : m = 4 <;> simp (disch := omega) only [zbi_f, zbi_t, z_jn, z_eq_t, z_eq_f, z_bd, z_gB] <;> simp [zbi]
end zsh
