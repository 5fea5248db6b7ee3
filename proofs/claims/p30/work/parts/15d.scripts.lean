/-! scripts -/
theorem e_measF {n ca fr : Int} {F R w a b wi hi lo iw : Nat → Int} (hF : zF n ca fr F R) : ∃ w' a' b' wi' hi' lo' iw', f_X4_measure 180 a b w n F = some (a', b', w') ∧ f_X8_layBoxes 184 hi iw lo wi R = some (hi', iw', lo', wi') ∧ wi' 0 = w' 0 ∧ hi' 0 = a' 0 ∧ lo' 0 = b' 0 ∧ (1 ≤ w' 0 ∧ w' 0 ≤ 400) ∧ 0 ≤ a' 0 ∧ 0 ≤ b' 0 ∧ a' 0 + b' 0 ≤ 400 := by
  obtain ⟨A, S, B, hI, hC, hR⟩ := hF
  obtain ⟨w', a', b', wi', hi', lo', iw', g1, g2, g3⟩ := e_measure (w := w) (a := a) (b := b) (wi := wi) (hi := hi) (lo := lo) (iw := iw) hC.1 hR.1 hI.bal hI.2.1
  obtain ⟨⟨⟨⟨v1, v2⟩, v3, v4, v5⟩, v6, v7, v8⟩, -, -⟩ := g3 [] (A ++ (S ++ B)) [] (by simp) (Or.inl rfl) (Or.inl rfl) hI.bal trivial
  have hl := hI.len
  simp only [List.length_nil, List.length_append] at v1 v2 v3 v4 v5 v6 v7 v8
  exact ⟨w', a', b', wi', hi', lo', iw', g1, g2, v6, v7, v8, ⟨v1, by omega⟩, v3, v4, by omega⟩
set_option maxHeartbeats 4000000 in
theorem e_does {n ca fr v : Int} {F R w a b wi hi lo iw : Nat → Int} (hF : zF n ca fr F R) (hv : 0 ≤ v ∧ v ≤ 9999) : ∃ ok n' ca' fr' a' b' w' F' G hi' iw' lo' wi', f_X7_obeys n ca fr a b w F v = some (ok, n', ca', fr', a', b', w', F') ∧ f_X8_does hi iw lo R wi (v / 1000) (v / 100 % 10) (v % 100) = some (ok, hi', iw', lo', G, wi') ∧ zF n' ca' fr' F' G ∧ (ok = 0 ∨ ok = 1) := by
  have t1 : v.tdiv 1000 = v / 1000 := ztdiv hv.1
  have t2 : v.tmod 1000 = v % 1000 := Int.tmod_eq_emod_of_nonneg hv.1
  have hf : 0 ≤ v / 1000 ∧ v / 1000 ≤ 9 := by omega
  have hr : v % 1000 = 100 * (v / 100 % 10) + v % 100 := by omega
  have ha : 0 ≤ v / 100 % 10 ∧ v / 100 % 10 ≤ 9 := by omega
  have ht : 0 ≤ v % 100 ∧ v % 100 ≤ 99 := by omega
  generalize v / 1000 = f at *
  generalize v / 100 % 10 = q at *
  generalize v % 100 = t at *
  generalize v % 1000 = r at *
  by_cases f1 : f = 1
  · obtain ⟨ok, n', ca', fr', F', G, g1, g2, g3, g4⟩ := e_typesT (x := r) hF (by omega)
    have g2' : f_X8_types 184 R (100 * q + t) = some (ok, G) := by rw [← hr]; exact g2
    refine ⟨ok, n', ca', fr', a, b, w, F', G, hi, iw, lo, wi, ?_, ?_, g3, g4⟩
    · unfold f_X7_obeys
      simp (disch := omega) only [z_gR, t1, t2, z_eq_t, g1, z_bd, z_gB]
    · unfold f_X8_does
      simp (disch := omega) only [z_jn, z_eq_t, g2', z_bd, z_gB]
  · by_cases q0 : q = 0
    · have hrt : r = t := by omega
      subst hrt
      have hf9 : f = 0 ∨ f = 2 ∨ f = 3 ∨ f = 4 ∨ f = 5 ∨ f = 6 ∨ f = 7 ∨ f = 8 ∨ f = 9 := by omega
      rcases hf9 with h | h | h | h | h | h | h | h | h
      · refine ⟨0, n, ca, fr, a, b, w, F, R, hi, iw, lo, wi, ?_, ?_, hF, Or.inl rfl⟩
        · unfold f_X7_obeys
          simp (disch := omega) only [z_gR, t1, t2, z_eq_f, z_lt_t, z_gB]
        · unfold f_X8_does
          simp (disch := omega) only [z_jn, z_eq_f, z_gB]
      · obtain ⟨ok, n', ca', fr', F', G, g1, g2, g3, g4⟩ := e_wrapsT (x := r) hF (by omega)
        refine ⟨ok, n', ca', fr', a, b, w, F', G, hi, iw, lo, wi, ?_, ?_, g3, g4⟩
        · unfold f_X7_obeys
          simp (disch := omega) only [z_gR, t1, t2, z_eq_f, z_eq_t, z_lt_t, g1, z_bd, z_gB]
        · unfold f_X8_does
          rcases g4 with rfl | rfl
          · simp (disch := omega) only [z_jn, z_eq_f, z_eq_t, g2, z_bd, z_gB]
          · simp (disch := omega) only [z_jn, z_eq_f, z_eq_t, g2, z_bd, z_gB]
      · obtain ⟨p, G, g1, g2, g3⟩ := e_movesT (x := r) hF (by omega)
        refine ⟨1, n, p, p, a, b, w, F, G, hi, iw, lo, wi, ?_, ?_, g3, Or.inr rfl⟩
        · unfold f_X7_obeys
          simp (disch := omega) only [z_gR, t1, t2, z_eq_f, z_eq_t, z_lt_t, g1, z_bd, z_gB]
        · unfold f_X8_does
          simp (disch := omega) only [z_jn, z_eq_f, z_eq_t, g2, z_bd, z_gB]
      · obtain ⟨p, G, g1, g2, g3⟩ := e_movesT (x := -r) hF (by omega)
        refine ⟨1, n, p, p, a, b, w, F, G, hi, iw, lo, wi, ?_, ?_, g3, Or.inr rfl⟩
        · unfold f_X7_obeys
          simp (disch := omega) only [z_gR, t1, t2, z_eq_f, z_eq_t, z_lt_t, g1, z_bd, z_gB]
        · unfold f_X8_does
          simp (disch := omega) only [z_jn, z_eq_f, z_eq_t, g2, z_bd, z_gB]
      · by_cases r0 : r = 0
        · obtain ⟨ok, n', ca', fr', F', G, g1, g2, g3, g4⟩ := e_backsT hF
          refine ⟨ok, n', ca', fr', a, b, w, F', G, hi, iw, lo, wi, ?_, ?_, g3, g4⟩
          · unfold f_X7_obeys
            rcases g4 with rfl | rfl <;> simp (disch := omega) only [z_gR, t1, t2, z_jn, z_eq_f, z_eq_t, z_lt_t, g1, z_bd, z_gB]
          · unfold f_X8_does
            rcases g4 with rfl | rfl <;> simp (disch := omega) only [z_jn, z_eq_f, z_eq_t, g2, z_bd, z_gB]
        · refine ⟨0, n, ca, fr, a, b, w, F, R, hi, iw, lo, wi, ?_, ?_, hF, Or.inl rfl⟩
          · unfold f_X7_obeys
            simp (disch := omega) only [z_gR, t1, t2, z_jn, z_eq_f, z_eq_t, z_lt_t, z_gB]
          · unfold f_X8_does
            simp (disch := omega) only [z_jn, z_eq_f, z_eq_t, z_gB]
      · by_cases r0 : r = 0
        · obtain ⟨ok, ca', fr', G, g1, g2, g3, g4⟩ := e_growT hF
          refine ⟨ok, n, ca', fr', a, b, w, F, G, hi, iw, lo, wi, ?_, ?_, g3, g4⟩
          · unfold f_X7_obeys
            rcases g4 with rfl | rfl <;> simp (disch := omega) only [z_gR, t1, t2, z_jn, z_eq_f, z_eq_t, z_lt_t, g1, z_bd, z_gB]
          · unfold f_X8_does
            rcases g4 with rfl | rfl <;> simp (disch := omega) only [z_jn, z_eq_f, z_eq_t, g2, z_bd, z_gB]
        · refine ⟨0, n, ca, fr, a, b, w, F, R, hi, iw, lo, wi, ?_, ?_, hF, Or.inl rfl⟩
          · unfold f_X7_obeys
            simp (disch := omega) only [z_gR, t1, t2, z_jn, z_eq_f, z_eq_t, z_lt_t, z_gB]
          · unfold f_X8_does
            simp (disch := omega) only [z_jn, z_eq_f, z_eq_t, z_gB]
      · obtain ⟨c, a1, a2, a3, a4⟩ := e_all hF
        by_cases hc : c = r
        · refine ⟨1, n, ca, fr, a, b, w, F, R, hi, iw, lo, wi, ?_, ?_, hF, Or.inr rfl⟩
          · unfold f_X7_obeys
            simp (disch := omega) only [z_gR, t1, t2, z_jn, z_eq_f, z_eq_t, z_lt_t, a1, z_bd, z_gB]
          · unfold f_X8_does
            simp (disch := omega) only [z_jn, z_eq_f, z_eq_t, z_in, z180, a2, z_bd, z_gB]
        · refine ⟨0, n, ca, fr, a, b, w, F, R, hi, iw, lo, wi, ?_, ?_, hF, Or.inl rfl⟩
          · unfold f_X7_obeys
            simp (disch := omega) only [z_gR, t1, t2, z_jn, z_eq_f, z_eq_t, z_lt_t, a1, z_bd, z_gB]
          · unfold f_X8_does
            simp (disch := omega) only [z_jn, z_eq_f, z_eq_t, z_in, z180, a2, z_bd, z_gB]
      · obtain ⟨c0, c1⟩ : R 181 = ca ∧ (0 ≤ ca ∧ ca ≤ 180) := by
          obtain ⟨A, S, B, hI, hC, hR⟩ := hF
          have := hI.len
          have e1 := hC.2.1
          exact ⟨by rw [hR.2.1, e1], by omega⟩
        by_cases hc : ca = r
        · refine ⟨1, n, ca, fr, a, b, w, F, R, hi, iw, lo, wi, ?_, ?_, hF, Or.inr rfl⟩
          · unfold f_X7_obeys
            simp (disch := omega) only [z_gR, t1, t2, z_jn, z_eq_f, z_eq_t, z_lt_t, z_gB]
          · unfold f_X8_does
            simp (disch := omega) only [z_jn, z_eq_f, z_eq_t, z_in, z181, c0, z_gB]
        · refine ⟨0, n, ca, fr, a, b, w, F, R, hi, iw, lo, wi, ?_, ?_, hF, Or.inl rfl⟩
          · unfold f_X7_obeys
            simp (disch := omega) only [z_gR, t1, t2, z_jn, z_eq_f, z_eq_t, z_lt_t, z_gB]
          · unfold f_X8_does
            simp (disch := omega) only [z_jn, z_eq_f, z_eq_t, z_in, z181, c0, z_gB]
      · obtain ⟨w', a', b', wi', hi', lo', iw', m1, m2, m3, m4, m5, m6, -⟩ := e_measF (w := w) (a := a) (b := b) (wi := wi) (hi := hi) (lo := lo) (iw := iw) hF
        have hwd := c_wd (w := w') (x := 0) 0 rfl (by omega)
        have e0 : (0 : Int).toNat = 0 := rfl
        by_cases hc : w' 0 = r
        · refine ⟨1, n, ca, fr, a', b', w', F, R, hi', iw', lo', wi', ?_, ?_, hF, Or.inr rfl⟩
          · unfold f_X7_obeys
            simp (disch := omega) only [z_gR, t1, t2, z_jn, z_eq_f, z_eq_t, z_lt_t, m1, hwd, z_bd, z_gB]
          · unfold f_X8_does
            simp (disch := omega) only [z_jn, z_eq_f, z_eq_t, m2, z_bd, z_in, e0, m3, z_gB]
        · refine ⟨0, n, ca, fr, a', b', w', F, R, hi', iw', lo', wi', ?_, ?_, hF, Or.inl rfl⟩
          · unfold f_X7_obeys
            simp (disch := omega) only [z_gR, t1, t2, z_jn, z_eq_f, z_eq_t, z_lt_t, m1, hwd, z_bd, z_gB]
          · unfold f_X8_does
            simp (disch := omega) only [z_jn, z_eq_f, z_eq_t, m2, z_bd, z_in, e0, m3, z_gB]
    · have hob : f_X7_obeys n ca fr a b w F v = some (0, n, ca, fr, a, b, w, F) := by
        unfold f_X7_obeys
        simp (disch := omega) only [z_gR, t1, t2, z_eq_f, z_lt_f, z_gB]
      by_cases f9 : f = 9
      · obtain ⟨w', a', b', wi', hi', lo', iw', m1, m2, m3, m4, m5, m6, -⟩ := e_measF (w := w) (a := a) (b := b) (wi := wi) (hi := hi) (lo := lo) (iw := iw) hF
        refine ⟨0, n, ca, fr, a, b, w, F, R, hi', iw', lo', wi', hob, ?_, hF, Or.inl rfl⟩
        unfold f_X8_does
        simp (disch := omega) only [z_jn, z_eq_f, z_eq_t, m2, z_bd, z_gB]
      · refine ⟨0, n, ca, fr, a, b, w, F, R, hi, iw, lo, wi, hob, ?_, hF, Or.inl rfl⟩
        have hf9 : f = 0 ∨ f = 2 ∨ f = 3 ∨ f = 4 ∨ f = 5 ∨ f = 6 ∨ f = 7 ∨ f = 8 := by omega
        unfold f_X8_does
        rcases hf9 with h | h | h | h | h | h | h | h <;> simp (disch := omega) only [z_jn, z_eq_f, z_eq_t, z_gB]
/-! groups of four digits -/
def zdv : Nat → Int → Int
  | 0, y => y
  | r + 1, y => zdv r (y / 10000)
def ztp : Nat → Int → Int
  | 0, y => y
  | r + 1, y => ztp r (y * 10)
theorem c_wg {g : Int} (hg : 0 ≤ g ∧ g ≤ 4) : ∀ (r fu : Nat) (y i : Int), i = g - (r : Int) → (r : Int) ≤ g → r < fu → 0 ≤ y → y ≤ 9223372036854775807 → f_X7_withoutGroups_5 g (fun (z1 : Int × Int) => some z1.1) fu y i = some (zdv r y)
  | r, 0, y, i, hi, hr, hf, h0, h1 => by omega
  | 0, fu + 1, y, i, hi, hr, hf, h0, h1 => by
    simp (disch := omega) only [f_X7_withoutGroups_5, z_lt_f, zdv]
  | r + 1, fu + 1, y, i, hi, hr, hf, h0, h1 => by
    have t1 : y.tdiv 10000 = y / 10000 := ztdiv h0
    have ih := c_wg hg r fu (y / 10000) (i + 1) (by omega) (by omega) (by omega) (by omega) (by omega)
    simp (disch := omega) only [f_X7_withoutGroups_5, z_lt_t, z_gL, t1, ih, zdv]
    rw [if_neg (by decide)]
theorem c_without {g y : Int} (hg : 0 ≤ g ∧ g ≤ 4) (h0 : 0 ≤ y) (h1 : y ≤ 9223372036854775807) : f_X7_withoutGroups y g = some (zdv g.toNat y) :=
  c_wg hg g.toNat fuel y 0 (by omega) (by omega) (by unfold fuel; omega) h0 h1
theorem r_tp {g : Int} (hg : 0 ≤ g ∧ g ≤ 16) : ∀ (r fu : Nat) (y i : Int), i = g - (r : Int) → (r : Int) ≤ g → r < fu → f_X8_tenTo_4 g (fun (z1 : Int × Int) => some z1.1) fu y i = some (ztp r y)
  | r, 0, y, i, hi, hr, hf => by omega
  | 0, fu + 1, y, i, hi, hr, hf => by
    simp (disch := omega) only [f_X8_tenTo_4, z_lt_f, ztp]
  | r + 1, fu + 1, y, i, hi, hr, hf => by
    have ih := r_tp hg r fu (y * 10) (i + 1) (by omega) (by omega) (by omega)
    simp (disch := omega) only [f_X8_tenTo_4, z_lt_t, ih, ztp]
theorem r_tenTo {g : Int} (hg : 0 ≤ g ∧ g ≤ 16) : f_X8_tenTo g = some (ztp g.toNat 1) :=
  r_tp hg g.toNat fuel 1 0 (by omega) (by omega) (by unfold fuel; omega)
