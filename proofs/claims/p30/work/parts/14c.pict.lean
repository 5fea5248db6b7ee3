/-! the drawing: rows and the whole -/
/-- the widths of a row's items, one behind another -/
def zsw (w : Nat → Int) : Nat → Nat → List Int → Int
  | 0, _, _ => 0
  | _ + 1, _, [] => 0
  | k + 1, p, m :: t => ziw w p (m :: t) + zsw w k (p + zie 0 (m :: t)) ((m :: t).drop (zie 0 (m :: t)))
theorem zsw_it {w : Nat → Int} {k p : Nat} {X R : List Int} (hX : zit X) : zsw w (k + 1) p (X ++ R) = ziw w p X + zsw w k (p + X.length) R := by
  have e1 := zie_it R hX
  have e2 := ziw_app (w := w) (p := p) (R := R) hX
  obtain ⟨m, Y, e, -, -⟩ := zit_first hX
  subst e
  simp only [List.cons_append] at e1 e2 ⊢
  simp only [zsw]
  rw [e1, e2]
  congr 2
  have : m :: (Y ++ R) = (m :: Y) ++ R := rfl
  rw [this, List.drop_left' rfl]
theorem zsw_nil {w : Nat → Int} {k p : Nat} : zsw w k p [] = 0 := by cases k <;> rfl
theorem zsw_fuel {w : Nat → Int} : ∀ (k k' p : Nat) (T : List Int), zbal T → T.length ≤ k → T.length ≤ k' → zsw w k p T = zsw w k' p T
  | 0, k', p, T, hT, h1, h2 => by
    have : T = [] := List.length_eq_zero_iff.mp (by omega)
    subst this; rw [zsw_nil, zsw_nil]
  | k + 1, k', p, T, hT, h1, h2 => by
    by_cases hn : T = []
    · subst hn; rw [zsw_nil, zsw_nil]
    · obtain ⟨X, R, rfl, hX, hR⟩ := zitF hT hn
      have hl := zit_ne hX
      rw [List.length_append] at h1 h2
      obtain ⟨k2, rfl⟩ : ∃ f, k' = f + 1 := ⟨k' - 1, by omega⟩
      rw [zsw_it hX, zsw_it hX, zsw_fuel k k2 _ R hR (by omega) (by omega)]
/-- the items of a row are where the reference has their widths -/
def zis2 (iw w : Nat → Int) (p : Nat) (T : List Int) : Prop := ∀ T1 X T2 : List Int, T = T1 ++ (X ++ T2) → zit X → zbal T1 → iw (p + T1.length) = ziw w (p + T1.length) X
section zpr
variable {n : Int} {F R : Nat → Int} {L : List Int} {w a b : Nat → Int}
theorem zsl_up {wi hi lo : Nat → Int} {q : Nat} (hs : zsl L w a b wi hi lo q) (x y z : Int) : zsl L w a b (va_up wi q x) (va_up hi q y) (va_up lo q z) q := by
  intro U T Q h1 h2 h3 h4 h5
  obtain ⟨g1, g2, g3, g4⟩ := hs U T Q h1 h2 h3 h4 h5
  exact ⟨g1, by rw [zup_ne (by omega)]; exact g2, by rw [zup_ne (by omega)]; exact g3, by rw [zup_ne (by omega)]; exact g4⟩
theorem e_row_loop (hC : zCx 180 n F L) (hR : zRy 184 R L) {q : Nat} {Q : List Int} (hQ : zbeg Q) {y2 : Int} {e : (Nat → Int) × (Nat → Int) × (Nat → Int) × Int × Int × Int × Int × Int → Option ((Nat → Int) × (Nat → Int) × (Nat → Int))} {e2 : (Nat → Int) × (Nat → Int) × (Nat → Int) × (Nat → Int) × Int × Int → Option ((Nat → Int) × (Nat → Int) × (Nat → Int) × (Nat → Int))} {E : Int} : ∀ (k : Nat) (T U : List Int) (fu1 fu2 : Nat) (wi hi lo iw : Nat → Int) (i : Int), T.length ≤ k → zbal T → L = U ++ (T ++ Q) → q ≤ U.length → zsl L w a b wi hi lo q → T.length < fu1 → T.length < fu2 → E = (U.length : Int) + T.length → 0 ≤ i → i + zcnt T ≤ 60 → (0 ≤ wi q ∧ wi q ≤ 1 + 2 * U.length ∧ 0 ≤ hi q ∧ 0 ≤ lo q ∧ hi q + lo q ≤ 2 * (U.length - q)) → ∃ (i' : Int) (iw' : Nat → Int) (h' l' : Int), f_X4_measureRow_40 180 n F y2 e fu1 a b w (wi q) (hi q) (lo q) (U.length : Int) i = e (a, b, w, wi q + zsw w T.length U.length T, h', l', E, i') ∧ f_X8_layRow_39 184 R (q : Int) e2 fu2 hi iw lo wi E (U.length : Int) = e2 (va_up hi q h', iw', va_up lo q l', va_up wi q (wi q + zsw w T.length U.length T), E, E) ∧ (0 ≤ h' ∧ 0 ≤ l' ∧ h' + l' ≤ 2 * (U.length + T.length - q)) ∧ (0 ≤ zsw w T.length U.length T ∧ zsw w T.length U.length T ≤ 2 * T.length ∧ (T ≠ [] → 1 ≤ zsw w T.length U.length T)) ∧ zis2 iw' w U.length T ∧ (∀ j : Nat, (∀ T1 X T2 : List Int, T = T1 ++ (X ++ T2) → zit X → zbal T1 → j ≠ U.length + T1.length) → iw' j = iw j)
  | k, T, U, 0, fu2, wi, hi, lo, iw, i, hk, hT, hL, hq, hs, h1, h2, hE, hi0, hi1, hb => by omega
  | k, T, U, fu1 + 1, 0, wi, hi, lo, iw, i, hk, hT, hL, hq, hs, h1, h2, hE, hi0, hi1, hb => by omega
  | k, T, U, fu1 + 1, fu2 + 1, wi, hi, lo, iw, i, hk, hT, hL, hq, hs, h1, h2, hE, hi0, hi1, hb => by
    have h180 := hC.1
    have h3 := hR.2
    have lL : L.length = U.length + (T.length + Q.length) := by rw [hL]; simp
    have hself : ∀ {f : Nat → Int}, va_up f q (f q) = f := by
      intro f; funext j; simp only [va_up]; split
      · rename_i h; rw [h]
      · rfl
    rcases c_next hC (A := U) (R2 := T) (Q := Q) hL hQ hT (x := (U.length : Int)) rfl with ⟨i0, m, m1, m2⟩ | ⟨X, T1, m, m0, m1, m2, m3, m4, Y, m5⟩
    · subst i0
      simp only [List.length_nil] at hE ⊢
      refine ⟨i, iw, hi q, lo q, ?_, ?_, by omega, by rw [zsw_nil]; simp, ?_, fun _ _ => rfl⟩
      · rw [zsw_nil, hE]
        by_cases hi60 : i < 60
        · simp (disch := omega) only [f_X4_measureRow_40, z_lt_t, m1, z_bd, c_st_f, z_eq_t]
          simp
        · simp (disch := omega) only [f_X4_measureRow_40, z_lt_f]
          simp
      · rw [zsw_nil, hE]
        simp (disch := omega) only [f_X8_layRow_39, z_lt_f, hself, Int.add_zero]
        simp [hself]
      · intro T1 X T2 e hX _
        have := congrArg List.length e
        have := zit_ne hX
        simp at *
        omega
    · have hXl := zit_ne m1
      have lT : T.length = X.length + T1.length := by rw [m0]; simp
      have eL : L = U ++ (X ++ (T1 ++ Q)) := by rw [hL, m0]; simp
      obtain ⟨b1, b2, b3, ⟨b4, b5⟩, b6, b7, b8⟩ := c_box hC hs eL m1 hq (x := (U.length : Int)) rfl
      have ci := c_ie hC (A := U) (X := X) (T := T1 ++ Q) eL m1 (x := (U.length : Int)) rfl
      have rb := r_box hR (iw := iw) (e := e2) hs eL m1 hq (E := E) (by omega) (by omega) fu2
      have hcX : zcnt T = zcnt X + zcnt T1 := by rw [m0, zcnt_app]
      have hcX1 : 1 ≤ zcnt X := by rw [m5]; simp only [zcnt]; rw [if_pos (by simp [zsi]; omega)]; omega
      have mh := mx_s (hi q) (zih a b U.length X)
      have ml := mx_s (lo q) (zil a b U.length X)
      have lUX : ((U ++ X).length : Int) = (U.length : Int) + X.length := by simp
      have lUX' : (U ++ X).length = U.length + X.length := by simp
      cases k with
      | zero => omega
      | succ k =>
        obtain ⟨i', iw', h', l', g1, g2, g3, g4, g5, g6⟩ := e_row_loop hC hR hQ (y2 := y2) (e := e) (e2 := e2) (E := E) k T1 (U ++ X) fu1 fu2 (va_up wi q (wi q + ziw w U.length X)) (va_up hi q (mxI (hi q) (zih a b U.length X))) (va_up lo q (mxI (lo q) (zil a b U.length X))) (va_up iw U.length (ziw w U.length X)) (i + 1) (by omega) m2 (by rw [eL]; simp) (by omega) (zsl_up hs _ _ _) (by omega) (by omega) (by omega) (by omega) (by omega) (by simp only [zup_eq]; omega)
        simp only [zup_eq, zup_up] at g1 g2
        rw [lUX] at g1 g2
        rw [lUX'] at g1 g2 g3 g4 g5 g6
        have hsw : zsw w T.length U.length T = ziw w U.length X + zsw w T1.length (U.length + X.length) T1 := by
          rw [m0]
          obtain ⟨k2, hk2⟩ : ∃ f, (X ++ T1).length = f + 1 := ⟨(X ++ T1).length - 1, by rw [List.length_append]; omega⟩
          rw [hk2, zsw_it m1, zsw_fuel k2 T1.length _ T1 m2 (by rw [List.length_append] at hk2; omega) (Nat.le_refl _)]
        have hassoc : wi q + zsw w T.length U.length T = wi q + ziw w U.length X + zsw w T1.length (U.length + X.length) T1 := by rw [hsw]; omega
        refine ⟨i', iw', h', l', ?_, ?_, by omega, by rw [hsw]; omega, ?_, ?_⟩
        · rw [hassoc]
          simp (disch := omega) only [f_X4_measureRow_40, z_lt_t, m3, z_bd, c_st_t, z_eq_f, b1, b2, b3, z_gR, ci]
          exact g1
        · rw [hassoc, rb]
          exact g2
        · intro T1' X' T2' e3 hX' hT1'
          by_cases hn : T1' = []
          · subst hn
            have e4 : X' = X := by
              have z1 := zie_it T2' hX'
              have z2 := zie_it T1 m1
              rw [← m0, e3, List.nil_append, z1] at z2
              have e5 : X' ++ T2' = X ++ T1 := by rw [← m0, e3]; rfl
              exact (List.append_inj e5 z2).1
            subst e4
            simp only [List.length_nil, Nat.add_zero]
            rw [g6 U.length (fun T3 X3 T4 e6 hX3 hT3 => by omega), zup_eq]
          · obtain ⟨X2, T3, e4, hX2, hT3⟩ := zitF hT1' hn
            have e5 : X2 = X := by
              have z1 := zie_it (T3 ++ (X' ++ T2')) hX2
              have z2 := zie_it T1 m1
              have e6 : X ++ T1 = X2 ++ (T3 ++ (X' ++ T2')) := by rw [← m0, e3, e4]; simp
              rw [e6, z1] at z2
              exact (List.append_inj e6.symm z2).1
            subst e5
            have e7 : T1 = T3 ++ (X' ++ T2') := by
              have e6 : X2 ++ T1 = X2 ++ (T3 ++ (X' ++ T2')) := by rw [← m0, e3, e4]; simp
              exact List.append_cancel_left e6
            have := g5 T3 X' T2' e7 hX' hT3
            rw [e4, List.length_append, show U.length + (X2.length + T3.length) = U.length + X2.length + T3.length by omega]
            exact this
        · intro j hj
          have hjU : j ≠ U.length := by
            have := hj [] X T1 (by rw [m0]; rfl) m1 rfl
            simpa using this
          rw [g6 j (fun T3 X3 T4 e6 hX3 hT3 => ?_), zup_ne hjU]
          have := hj (X ++ T3) X3 T4 (by rw [m0, e6]; simp) hX3 (zbal_app (zit_bal m1) hT3)
          rw [List.length_append] at this
          omega
end zpr
