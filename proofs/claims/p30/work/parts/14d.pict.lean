/-! the drawing: all rows -/
theorem zsw_up {w : Nat → Int} {q : Nat} {v : Int} : ∀ (k p : Nat) (T : List Int), q ≤ p → zsw (va_up w q v) k p T = zsw w k p T
  | 0, p, T, h => rfl
  | k + 1, p, [], h => rfl
  | k + 1, p, m :: t, h => by
    have ih := zsw_up (w := w) (q := q) (v := v) k (p + zie 0 (m :: t)) ((m :: t).drop (zie 0 (m :: t))) (by omega)
    simp only [zsw]
    rw [ih]
    congr 1
    simp only [ziw]
    rw [zup_ne (by omega), zup_ne (by omega)]
theorem ziw_up {w : Nat → Int} {q p : Nat} {v : Int} (h : q ≤ p) (X : List Int) : ziw (va_up w q v) p X = ziw w p X := by
  cases X with
  | nil => rfl
  | cons m Y => simp only [ziw]; rw [zup_ne (by omega), zup_ne (by omega)]
/-- all rows behind q are laid -/
def zgd (L : List Int) (w a b wi hi lo iw : Nat → Int) (P : Nat → Prop) : Prop := ∀ U T Q : List Int, L = U ++ (T ++ Q) → zend U → zbeg Q → zbal T → P U.length → (zbd w a b U.length T.length ∧ wi U.length = w U.length ∧ hi U.length = a U.length ∧ lo U.length = b U.length) ∧ w U.length = (if T = [] then 1 else zsw w T.length U.length T) ∧ zis2 iw w U.length T
theorem zgd_sl {L : List Int} {w a b wi hi lo iw : Nat → Int} {q : Nat} (h : zgd L w a b wi hi lo iw (fun j => q < j)) : zsl L w a b wi hi lo q := fun U T Q h1 h2 h3 h4 h5 => (h U T Q h1 h2 h3 h4 h5).1
/-- a row that begins behind a mark of a structure -/
theorem zrow_at {L U B : List Int} (hb : zbal L) (hL : L = U ++ B) (hU : zend U) : ∃ T Q, B = T ++ Q ∧ zbeg Q ∧ zbal T := by
  obtain ⟨P, R0, R2, Q, e1, e2, h1, h2, h3, h4, -⟩ := zrow2 (A := U) (B := B) (by rw [← hL]; exact hb)
  exact ⟨R2, Q, e2, h2, h4⟩
theorem zpre_eq {A B A' B' L : List Int} (h1 : L = A ++ B) (h2 : L = A' ++ B') (h : A.length = A'.length) : A = A' ∧ B = B' := by
  rw [h1] at h2
  exact List.append_inj h2 h
theorem zrow_un {L U T Q U' T' Q' : List Int} (h1 : L = U ++ (T ++ Q)) (h2 : L = U' ++ (T' ++ Q')) (hQ : zbeg Q) (hQ' : zbeg Q') (hT : zbal T) (hT' : zbal T') (h : U.length = U'.length) : U = U' ∧ T = T' ∧ Q = Q' := by
  obtain ⟨e1, e2⟩ := zpre_eq h1 h2 h
  have z1 := zre_at hQ hT
  have z2 := zre_at hQ' hT'
  rw [e2, z2] at z1
  obtain ⟨e3, e4⟩ := List.append_inj e2 z1.symm
  exact ⟨e1, e3, e4⟩
section zpm
variable {n : Int} {F R : Nat → Int} {L : List Int}
set_option maxHeartbeats 4000000 in
theorem e_rowm (hC : zCx 180 n F L) (hR : zRy 184 R L) (hbL : zbal L) (hcL : zcnt L ≤ 60) {U T Q : List Int} (hL : L = U ++ (T ++ Q)) (hU : zend U) (hQ : zbeg Q) (hT : zbal T) {w a b wi hi lo iw : Nat → Int} (hg : zgd L w a b wi hi lo iw (fun j => U.length < j)) : ∃ w' a' b' wi' hi' lo' iw', f_X4_measureRow 180 a b w n F (U.length : Int) = some (a', b', w') ∧ f_X8_layRow 184 hi iw lo wi R (U.length : Int) = some (hi', iw', lo', wi') ∧ zgd L w' a' b' wi' hi' lo' iw' (fun j => U.length ≤ j) := by
  have h180 := hC.1
  have h3 := hR.2
  have lL : L.length = U.length + (T.length + Q.length) := by rw [hL]; simp
  have hcT : zcnt T ≤ 60 := by
    have : zcnt L = zcnt U + (zcnt T + zcnt Q) := by rw [hL, zcnt_app, zcnt_app]
    omega
  have hs := zgd_sl hg
  have re := r_re hR (A := U) (R := T) (Q := Q) hL hQ hT (x := (U.length : Int)) rfl
  have hn0 : ((U.length : Nat) : Int).toNat = U.length := Int.toNat_natCast _
  obtain ⟨z0, hz0, hz0c, hz0r⟩ : ∃ z0 : Int, (z0 = if T = [] then 1 else 0) ∧ (∃ m, f_X3_mark 180 n F (U.length : Int) = some m ∧ f_X7_startsItem m = some (1 - z0)) ∧ (T = [] ↔ z0 = 1) := by
    rcases c_next hC (A := U) (R2 := T) (Q := Q) hL hQ hT (x := (U.length : Int)) rfl with ⟨i0, m, m1, m2⟩ | ⟨X, T1, m, m0, m1, m2, m3, m4, Y, m5⟩
    · exact ⟨1, by rw [if_pos i0], ⟨m, m1, by rw [c_st_f (by omega)]; rfl⟩, by simp [i0]⟩
    · have hne : T ≠ [] := by rw [m0, m5]; simp
      exact ⟨0, by rw [if_neg hne], ⟨m, m3, by rw [c_st_t (by omega)]; rfl⟩, by simp [hne]⟩
  obtain ⟨m, hm1, hm2⟩ := hz0c
  have hz01 : z0 = 0 ∨ z0 = 1 := by rw [hz0]; split <;> simp
  obtain ⟨i', iw', h', l', g1, g2, g3, g4, g5, g6⟩ := e_row_loop hC hR (q := U.length) hQ (y2 := (U.length : Int)) (w := w) (a := a) (b := b) (e := fun (z13 : (Nat → Int) × (Nat → Int) × (Nat → Int) × Int × Int × Int × Int × Int) => jn (fun (z15 : (Nat → Int) × (Nat → Int) × (Nat → Int)) => some (z15.1, z15.2.1, z15.2.2)) (fun k14 => cLt (U.length : Int) 0 (k14 (z13.1, z13.2.1, z13.2.2.1)) (cLt (U.length : Int) 181 (cLt (U.length : Int) 181 (cLt (U.length : Int) 181 (gIn (U.length : Int) 181 (gIn (U.length : Int) 181 (gIn (U.length : Int) 181 (k14 (va_up z13.1 (U.length : Int).toNat z13.2.2.2.2.1, va_up z13.2.1 (U.length : Int).toNat z13.2.2.2.2.2.1, va_up z13.2.2.1 (U.length : Int).toNat z13.2.2.2.1))))) (k14 (z13.1, z13.2.1, z13.2.2.1))) (k14 (z13.1, z13.2.1, z13.2.2.1))) (k14 (z13.1, z13.2.1, z13.2.2.1))))) (e2 := fun (z21 : (Nat → Int) × (Nat → Int) × (Nat → Int) × (Nat → Int) × Int × Int) => some (z21.1, z21.2.1, z21.2.2.1, z21.2.2.2.1)) (E := (U.length : Int) + T.length) T.length T U fuel fuel (va_up wi U.length z0) (va_up hi U.length 0) (va_up lo U.length 0) iw 0 (Nat.le_refl _) hT hL (Nat.le_refl _) (zsl_up hs _ _ _) (by unfold fuel; omega) (by unfold fuel; omega) rfl (Int.le_refl 0) (by omega) (by simp only [zup_eq]; omega)
  simp only [zup_eq, zup_up] at g1 g2
  refine ⟨va_up w U.length (z0 + zsw w T.length U.length T), va_up a U.length h', va_up b U.length l', va_up wi U.length (z0 + zsw w T.length U.length T), va_up hi U.length h', va_up lo U.length l', iw', ?_, ?_, ?_⟩
  · unfold f_X4_measureRow
    rw [hm1, z_bd, hm2, z_bd]
    rcases hz01 with hz | hz
    · rw [hz] at g1 ⊢
      simp (disch := omega) only [z_jn, z_eq_t, z_eq_f]
      simp (disch := omega) only [z_jn, z_lt_f, z_lt_t, z_in, hn0] at g1 ⊢
      exact g1
    · rw [hz] at g1 ⊢
      simp (disch := omega) only [z_jn, z_eq_t, z_eq_f]
      simp (disch := omega) only [z_jn, z_lt_f, z_lt_t, z_in, hn0] at g1 ⊢
      exact g1
  · unfold f_X8_layRow
    rw [re, z_bd, z_jn]
    have hT0 : T = [] → T.length = 0 := fun h => by rw [h]; rfl
    have hT1 : T ≠ [] → 0 < T.length := fun h => List.length_pos_iff.mpr h
    rcases hz01 with hz | hz
    · have : 0 < T.length := hT1 (fun h => by have := hz0r.mp h; omega)
      rw [hz] at g2 ⊢
      simp (disch := omega) only [z_eq_f, z_in, hn0]
      exact g2
    · have : T.length = 0 := hT0 (hz0r.mpr hz)
      rw [hz] at g2 ⊢
      simp (disch := omega) only [z_eq_t, z_in, hn0]
      exact g2
  · intro U' T' Q' h1 h2 h4 h5 h6
    by_cases hu : U'.length = U.length
    · obtain ⟨rfl, rfl, rfl⟩ := zrow_un h1 hL h4 hQ h5 hT hu
      refine ⟨⟨⟨⟨?_, ?_⟩, ?_, ?_, ?_⟩, ?_, ?_, ?_⟩, ?_, ?_⟩
      · rw [zup_eq]
        rcases hz01 with hz | hz
        · have := g4.2.2 (fun h => by have := hz0r.mp h; omega)
          omega
        · omega
      · rw [zup_eq]; omega
      · rw [zup_eq]; exact g3.1
      · rw [zup_eq]; exact g3.2.1
      · rw [zup_eq, zup_eq]; omega
      · rw [zup_eq, zup_eq]
      · rw [zup_eq, zup_eq]
      · rw [zup_eq, zup_eq]
      · rw [zup_eq, hz0]
        by_cases hT0 : T' = []
        · rw [if_pos hT0, if_pos hT0, hT0, zsw_nil]; rfl
        · rw [if_neg hT0, if_neg hT0, zsw_up _ _ _ (Nat.le_refl _)]; omega
      · intro T1 X T2 e hX hT1
        rw [g5 T1 X T2 e hX hT1, ziw_up (by omega)]
    · have hlt : U.length < U'.length := by omega
      obtain ⟨⟨⟨⟨v1, v2⟩, v3, v4, v5⟩, v6, v7, v8⟩, v9, v10⟩ := hg U' T' Q' h1 h2 h4 h5 hlt
      have ne : U'.length ≠ U.length := by omega
      refine ⟨⟨⟨⟨?_, ?_⟩, ?_, ?_, ?_⟩, ?_, ?_, ?_⟩, ?_, ?_⟩
      · rw [zup_ne ne]; exact v1
      · rw [zup_ne ne]; exact v2
      · rw [zup_ne ne]; exact v3
      · rw [zup_ne ne]; exact v4
      · rw [zup_ne ne, zup_ne ne]; exact v5
      · rw [zup_ne ne, zup_ne ne]; exact v6
      · rw [zup_ne ne, zup_ne ne]; exact v7
      · rw [zup_ne ne, zup_ne ne]; exact v8
      · rw [zup_ne ne, zsw_up _ _ _ (by omega)]; exact v9
      · intro T1 X T2 e hX hT1
        rw [ziw_up (by omega), g6 (U'.length + T1.length) (fun T3 X3 T4 e3 hX3 hT3 he => ?_)]
        · exact v10 T1 X T2 e hX hT1
        · have p1 : L = (U' ++ T1) ++ (X ++ T2 ++ Q') := by rw [h1, e]; simp
          have p2 : L = (U ++ T3) ++ (X3 ++ T4 ++ Q) := by rw [hL, e3]; simp
          obtain ⟨p3, -⟩ := zpre_eq p1 p2 (by simp; omega)
          have q1 := zrs_at h2 hT1
          have q2 := zrs_at hU hT3
          rw [p3, q2] at q1
          omega
theorem e_boxes_loop (hC : zCx 180 n F L) (hR : zRy 184 R L) (hbL : zbal L) (hcL : zcnt L ≤ 60) : ∀ (p fu1 fu2 : Nat) (w a b wi hi lo iw : Nat → Int), p ≤ L.length → p + 2 ≤ fu1 → p + 1 ≤ fu2 → zgd L w a b wi hi lo iw (fun j => p < j) → ∃ w' a' b' wi' hi' lo' iw', f_X4_measure_5 180 n F (fun (z8 : (Nat → Int) × (Nat → Int) × (Nat → Int) × Int) => some (z8.1, z8.2.1, z8.2.2.1)) fu1 a b w (p : Int) = some (a', b', w') ∧ f_X8_layBoxes_8 184 R (fun (z7 : (Nat → Int) × (Nat → Int) × (Nat → Int) × (Nat → Int) × Int) => bd (f_X8_layRow 184 z7.1 z7.2.1 z7.2.2.1 z7.2.2.2.1 R 0) (fun r8 => some (r8.1, r8.2.1, r8.2.2.1, r8.2.2.2))) fu2 hi iw lo wi ((p : Int) - 1) = some (hi', iw', lo', wi') ∧ zgd L w' a' b' wi' hi' lo' iw' (fun _ => True)
  | p, 0, fu2, w, a, b, wi, hi, lo, iw, hp, h1, h2, hg => by omega
  | p, fu1 + 1, 0, w, a, b, wi, hi, lo, iw, hp, h1, h2, hg => by omega
  | 0, fu1 + 1, fu2 + 1, w, a, b, wi, hi, lo, iw, hp, h1, h2, hg => by
    have h180 := hC.1
    obtain ⟨w', a', b', wi', hi', lo', iw', g1, g2, g3⟩ := e_rowm hC hR hbL hcL (U := []) (T := L) (Q := []) (by simp) (Or.inl rfl) (Or.inl rfl) hbL hg
    refine ⟨w', a', b', wi', hi', lo', iw', ?_, ?_, fun U T Q e1 e2 e3 e4 _ => g3 U T Q e1 e2 e3 e4 (Nat.zero_le _)⟩
    · have hm := hC.out (x := ((0 : Nat) : Int) - 1) (by simp)
      obtain ⟨f1, rfl⟩ : ∃ f, fu1 = f + 1 := ⟨fu1 - 1, by omega⟩
      have g1' : f_X4_measureRow 180 a b w n F ((0 : Nat) : Int) = some (a', b', w') := g1
      simp (disch := omega) only [f_X4_measure_5, z_lt_f, z_lt_t, hm, z_bd, z_jn, z_eq_t, g1']
    · have g2' : f_X8_layRow 184 hi iw lo wi R 0 = some (hi', iw', lo', wi') := g2
      simp (disch := omega) only [f_X8_layBoxes_8, z_lt_t, g2', z_bd]
  | p + 1, fu1 + 1, fu2 + 1, w, a, b, wi, hi, lo, iw, hp, h1, h2, hg => by
    have h180 := hC.1
    have h3 := hR.2
    obtain ⟨A, B, eL, lA⟩ := zat (L := L) (x := ((p + 1 : Nat) : Int)) (by omega)
    have lA' : A.length = p + 1 := by omega
    obtain ⟨A0, m, eA⟩ : ∃ A0 m, A = A0 ++ [m] := by
      rcases List.eq_nil_or_concat A with h | ⟨A0, m, h⟩
      · rw [h] at lA'; simp at lA'
      · exact ⟨A0, m, by rw [h, List.concat_eq_append]⟩
    have lA0 : A0.length = p := by rw [eA] at lA'; simpa using lA'
    have eL2 : L = A0 ++ m :: B := by rw [← eL, eA]; simp
    have hm := hC.at (A := A0) (m := m) (T := B) eL2 (x := ((p + 1 : Nat) : Int) - 1) (by omega)
    have hr := (hR.1.at (A := A0) (m := m) (T := B) eL2 (x := ((p + 1 : Nat) : Int) - 1) (by omega)).1
    have hv := zv_rc hm.2.1
    have ep : ((p + 1 : Nat) : Int) - 1 = (p : Int) := by omega
    have ep1 : ((p + 1 : Nat) : Int) - 1 + 1 = ((p + 1 : Nat) : Int) := by omega
    have ep2 : ((p + 1 : Nat) : Int) + (-1) = (p : Int) := by omega
    have ep3 : ((p + 1 : Nat) : Int) - 1 + (-1) = (p : Int) - 1 := by omega
    by_cases hst : (1 ≤ m ∧ m ≤ 5) ∨ m = 6
    · have hU : zend A := Or.inr ⟨A0, m, eA, by omega, by omega⟩
      obtain ⟨T, Q, e1, hQ, hT⟩ := zrow_at hbL eL.symm hU
      obtain ⟨w', a', b', wi', hi', lo', iw', g1, g2, g3⟩ := e_rowm hC hR hbL hcL (U := A) (T := T) (Q := Q) (by rw [← eL, e1]) hU hQ hT (by rw [lA']; exact hg)
      rw [lA'] at g1 g2 g3
      obtain ⟨w2, a2, b2, wi2, hi2, lo2, iw2, k1, k2, k3⟩ := e_boxes_loop hC hR hbL hcL p fu1 fu2 w' a' b' wi' hi' lo' iw' (by omega) (by omega) (by omega) (fun U T Q e1 e2 e3 e4 e5 => g3 U T Q e1 e2 e3 e4 (by omega))
      refine ⟨w2, a2, b2, wi2, hi2, lo2, iw2, ?_, ?_, k3⟩
      · rcases hst with h | h
        · simp (disch := omega) only [f_X4_measure_5, z_lt_f, hm.1, z_bd, z_jn, z_eq_f, c_on_t, g1, ep2, k1]
        · simp (disch := omega) only [f_X4_measure_5, z_lt_f, hm.1, z_bd, z_jn, z_eq_f, z_eq_t, c_on_f, g1, ep2, k1]
      · rcases hst with h | h
        · rw [zr_op h] at hr
          simp (disch := omega) only [f_X8_layBoxes_8, z_lt_f, z_in, hr, r_bg_t, z_bd, z_jn, z_eq_f, ep1, g2, ep3, k2]
        · subst h
          rw [zr_6] at hr
          simp (disch := omega) only [f_X8_layBoxes_8, z_lt_f, z_in, hr, r_bg_f, z_bd, z_jn, z_eq_t, ep1, g2, ep3, k2]
    · obtain ⟨w2, a2, b2, wi2, hi2, lo2, iw2, k1, k2, k3⟩ := e_boxes_loop hC hR hbL hcL p fu1 fu2 w a b wi hi lo iw (by omega) (by omega) (by omega) (fun U T Q e1 e2 e3 e4 e5 => by
        refine hg U T Q e1 e2 e3 e4 ?_
        by_cases hUp : U.length = p + 1
        · exfalso
          obtain ⟨e6, -⟩ := zpre_eq e1 eL.symm (by omega)
          rcases e2 with h | ⟨P0, o, h, h4, h5⟩
          · rw [h] at hUp; simp at hUp
          · rw [e6, eA] at h
            have := List.append_inj_right' h rfl
            simp only [List.cons.injEq, and_true] at this
            omega
        · show p + 1 < U.length
          have : p < U.length := e5
          omega)
      refine ⟨w2, a2, b2, wi2, hi2, lo2, iw2, ?_, ?_, k3⟩
      · simp (disch := omega) only [f_X4_measure_5, z_lt_f, hm.1, z_bd, z_jn, z_eq_f, z_eq_t, c_on_f, ep2, k1]
      · rcases hv with h | h | h | h
        · rw [zr_sy h.1] at hr
          simp (disch := omega) only [f_X8_layBoxes_8, z_lt_f, z_in, hr, r_bg_f, z_bd, z_jn, z_eq_t, z_eq_f, ep3, k2]
        · omega
        · omega
        · rw [zr_cl h] at hr
          simp (disch := omega) only [f_X8_layBoxes_8, z_lt_f, z_in, hr, r_bg_f, z_bd, z_jn, z_eq_t, z_eq_f, ep3, k2]
/-- both measure the same -/
theorem e_measure {w a b wi hi lo iw : Nat → Int} (hC : zCx 180 n F L) (hR : zRy 184 R L) (hbL : zbal L) (hcL : zcnt L ≤ 60) : ∃ w' a' b' wi' hi' lo' iw', f_X4_measure 180 a b w n F = some (a', b', w') ∧ f_X8_layBoxes 184 hi iw lo wi R = some (hi', iw', lo', wi') ∧ zgd L w' a' b' wi' hi' lo' iw' (fun _ => True) := by
  have h180 := hC.1
  have h3 := hR.2
  obtain ⟨w', a', b', wi', hi', lo', iw', g1, g2, g3⟩ := e_boxes_loop hC hR hbL hcL L.length fuel fuel w a b wi hi lo iw (Nat.le_refl _) (by unfold fuel; omega) (by unfold fuel; omega) (fun U T Q e1 e2 e3 e4 e5 => by
    exfalso
    have := congrArg List.length e1
    simp only [List.length_append] at this
    have e5' : L.length < U.length := e5
    omega)
  refine ⟨w', a', b', wi', hi', lo', iw', ?_, ?_, g3⟩
  · unfold f_X4_measure
    rw [← h180.1] at g1; exact g1
  · unfold f_X8_layBoxes
    rw [z_in (by omega), z180, h3.1]; exact g2
end zpm
