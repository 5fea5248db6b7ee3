/-! drawing and the linear text: what the editor answers -/
theorem e_drawing {n ca fr rf x : Int} {F R w a b wi hi lo iw : Nat → Int} (hF : zF n ca fr F R) (hx : -2147483648 ≤ x ∧ x ≤ 2147483647) : ∃ t v v' k a' b' w' hi' iw' lo' wi', f_X7_drawing n F a b w x = some (t, v, a', b', w') ∧ f_X8_drawing rf hi iw lo R wi x = some (v', k, hi', iw', lo', wi') ∧ zag t k v v' 1 9 := by
  obtain ⟨w', a', b', wi', hi', lo', iw', m1, m2, m3, m4, m5, m6, m7, m8, m9⟩ := e_measF (w := w) (a := a) (b := b) (wi := wi) (hi := hi) (lo := lo) (iw := iw) hF
  by_cases h : 0 ≤ x ∧ x ≤ 2
  · have i1 := r_in_t (x := x) (a := 0) (b := 2) (by omega)
    have hx' : x = 0 ∨ x = 1 ∨ x = 2 := by omega
    have q1 := c_wd (w := w') 0 (x := 0) rfl (by omega)
    have q2 := c_ln (a := a') (b := b') 0 (x := 0) rfl (by omega)
    have q3 := c_ab (w := a') 0 (x := 0) rfl (by omega)
    have z0 : (0 : Int).toNat = 0 := rfl
    rcases hx' with h | h | h <;> subst h
    · refine ⟨0, w' 0, w' 0, 0, a', b', w', hi', iw', lo', wi', ?_, ?_, Or.inl ⟨rfl, rfl, rfl, by omega, by omega⟩⟩
      · unfold f_X7_drawing
        simp (disch := omega) only [m1, z_bd, z_eq_t, q1]
      · unfold f_X8_drawing
        simp (disch := omega) only [z_gR, i1, z_bd, z_jn, z_eq_f, z_eq_t, r_rf_0, m2, z_in, z0, m3]
    · refine ⟨0, a' 0 + 1 + b' 0, a' 0 + 1 + b' 0, 0, a', b', w', hi', iw', lo', wi', ?_, ?_, Or.inl ⟨rfl, rfl, rfl, by omega, by omega⟩⟩
      · unfold f_X7_drawing
        simp (disch := omega) only [m1, z_bd, z_eq_f, z_eq_t, q2]
      · unfold f_X8_drawing
        simp (disch := omega) only [z_gR, i1, z_bd, z_jn, z_eq_f, z_eq_t, r_rf_0, m2, z_in, z0, m4, m5]
    · refine ⟨0, a' 0, a' 0, 0, a', b', w', hi', iw', lo', wi', ?_, ?_, Or.inl ⟨rfl, rfl, rfl, by omega, by omega⟩⟩
      · unfold f_X7_drawing
        simp (disch := omega) only [m1, z_bd, z_eq_f, z_eq_t, q3]
      · unfold f_X8_drawing
        simp (disch := omega) only [z_gR, i1, z_bd, z_jn, z_eq_f, z_eq_t, r_rf_0, m2, z_in, z0, m4]
  · have i1 := r_in_f (x := x) (a := 0) (b := 2) (by omega)
    have i3 := r_rf_1 (a := rf) (k := 1) (Or.inl rfl)
    refine ⟨1, 0, 0, 1, a', b', w', hi, iw, lo, wi, ?_, ?_, Or.inr (Or.inl ⟨rfl, rfl⟩)⟩
    · unfold f_X7_drawing
      simp (disch := omega) only [m1, z_bd, z_eq_f]
    · unfold f_X8_drawing
      simp (disch := omega) only [z_gR, i1, i3, z_bd, z_jn, z_eq_f, z_eq_t]
theorem e_drawn {n ca fr rf x y pr pc ph : Int} {F R w a b wi hi lo iw : Nat → Int} (hF : zF n ca fr F R) (hx : -2147483648 ≤ x ∧ x ≤ 2147483647) (hy : -2147483648 ≤ y ∧ y ≤ 2147483647) : ∃ t v v' k pr' pc' ph' a' b' w' hi' iw' lo' wi', f_X7_drawn n pr pc ph F a b w x y = some (t, v, pr', pc', ph', a', b', w') ∧ f_X8_drawn rf hi iw lo R wi x y = some (v', k, hi', iw', lo', wi') ∧ zag t k v v' 3 9 := by
  obtain ⟨A, S, B, hI, hC, hR⟩ := hF
  obtain ⟨w', a', b', wi', hi', lo', iw', m1, m2, g3⟩ := e_measure (w := w) (a := a) (b := b) (wi := wi) (hi := hi) (lo := lo) (iw := iw) hC.1 hR.1 hI.bal hI.2.1
  obtain ⟨⟨⟨⟨v1, v2⟩, v3, v4, v5⟩, v6, v7, v8⟩, -, -⟩ := g3 [] (A ++ (S ++ B)) [] (by simp) (Or.inl rfl) (Or.inl rfl) hI.bal trivial
  have hl := hI.len
  simp only [List.length_nil, List.length_append] at v1 v2 v3 v4 v5 v6 v7 v8
  have q1 := c_wd (w := w') 0 (x := 0) rfl (by omega)
  have q2 := c_ln (a := a') (b := b') 0 (x := 0) rfl (by omega)
  have q3 := c_ab (w := a') 0 (x := 0) rfl (by omega)
  have z0 : (0 : Int).toNat = 0 := rfl
  have z1 := r_rf_1 (a := rf) (k := 1) (Or.inl rfl)
  by_cases h : 0 ≤ x ∧ x < w' 0
  · have i1 := r_in_t (x := x) (a := 0) (b := w' 0 - 1) (by omega)
    by_cases h2 : 0 ≤ y ∧ y ≤ a' 0 + b' 0
    · have i2 := r_in_t (x := y) (a := 0) (b := a' 0 + b' 0) (by omega)
      obtain ⟨v, c1, c2, c3, s1, s2, s3, s4⟩ := e_sign hC.1 hR.1 hI.2.1 hI.2.2 g3 (e24 := fun (z3 : Int × Int × Int × Int) => some (32, z3.1, z3.2.1, z3.2.2.1)) 5 [] (A ++ (S ++ B)) [] fuel fuel x (y - a' 0) 0 (by simp) (Or.inl rfl) (Or.inl rfl) hI.bal (by simp [zlv]) (Int.le_refl 0) (by omega) (by unfold fuel; omega) (by unfold fuel; omega) ⟨⟨h.1, h.2⟩, by simp only [List.length_nil]; omega, by simp only [List.length_nil]; omega⟩
      simp only [List.length_nil, Int.natCast_zero, Int.ofNat_zero] at s1 s2
      refine ⟨0, v, v, 0, c1, c2, c3, a', b', w', hi', iw', lo', wi', ?_, ?_, Or.inl ⟨rfl, rfl, rfl, by omega, by omega⟩⟩
      · unfold f_X7_drawn
        simp (disch := omega) only [m1, z_bd, z_jn, z_lt_f, z_lt_t, q1, q2]
        unfold f_X4_signAt
        rw [q3, z_bd]
        rw [s1, z_bd]
      · unfold f_X8_drawn
        simp (disch := omega) only [m2, z_bd, z_jn, z_gR, z_in, z0, v6, v7, v8, i1, i2, z_eq_f, z_eq_t, r_rf_0]
        unfold f_X8_signAt
        rw [s2, z_bd]
    · have i2 := r_in_f (x := y) (a := 0) (b := a' 0 + b' 0) (by omega)
      refine ⟨3, 0, 0, 1, pr, pc, ph, a', b', w', hi', iw', lo', wi', ?_, ?_, Or.inr (Or.inl ⟨rfl, rfl⟩)⟩
      · unfold f_X7_drawn
        by_cases h3 : y < 0
        · simp (disch := omega) only [m1, z_bd, z_jn, z_lt_f, z_lt_t, q1]
        · simp (disch := omega) only [m1, z_bd, z_jn, z_lt_f, z_lt_t, q1, q2]
      · unfold f_X8_drawn
        simp (disch := omega) only [m2, z_bd, z_jn, z_gR, z_in, z0, v6, v7, v8, i1, i2, z_eq_f, z_eq_t, z1]
  · have i1 := r_in_f (x := x) (a := 0) (b := w' 0 - 1) (by omega)
    refine ⟨3, 0, 0, 1, pr, pc, ph, a', b', w', hi', iw', lo', wi', ?_, ?_, Or.inr (Or.inl ⟨rfl, rfl⟩)⟩
    · unfold f_X7_drawn
      by_cases h3 : x < 0
      · simp (disch := omega) only [m1, z_bd, z_jn, z_lt_t]
      · simp (disch := omega) only [m1, z_bd, z_jn, z_lt_f, q1]
    · unfold f_X8_drawn
      simp (disch := omega) only [m2, z_bd, z_jn, z_gR, z_in, z0, v6, i1, z_eq_f, z_eq_t, z1]
theorem zgetD_mem : ∀ (W : List Int) (i : Nat), i < W.length → W.getD i 0 ∈ W
  | [], i, h => absurd h (Nat.not_lt_zero i)
  | a :: W, 0, h => List.mem_cons_self
  | a :: W, i + 1, h => List.mem_cons_of_mem a (zgetD_mem W i (Nat.lt_of_succ_lt_succ h))
theorem zCW_at {F : Nat → Int} {W : List Int} {x : Int} (h : zCW F W) (hx : 0 ≤ x ∧ x < W.length) : F x.toNat = W.getD x.toNat 0 ∧ 32 ≤ F x.toNat ∧ F x.toNat ≤ 122 := by
  have h1 := (zC_iff.mp h.1) x.toNat (by omega)
  have h2 : W.getD x.toNat 0 ∈ W := zgetD_mem W x.toNat (by omega)
  have h3 := h.2 _ h2
  rw [h1]
  exact ⟨rfl, h3⟩
theorem e_linearAt {n ca fr wl ls rf x : Int} {F R br sg pile line : Nat → Int} (hF : zF n ca fr F R) (hx : -2147483648 ≤ x ∧ x ≤ 2147483647) : ∃ t v v' k wl' br' sg' ls' line' pile', f_X7_linearAt n wl F br sg x = some (t, v, wl', br', sg') ∧ f_X8_linearAt rf ls line R pile x = some (v', k, ls', line', pile') ∧ zag t k v v' 3 9 := by
  obtain ⟨W, br', sg', pile', line', w1, w2, w3, w4, w5⟩ := e_writeF (wl := wl) (ls := ls) (br := br) (sg := sg) (pile := pile) (line := line) hF
  by_cases h : 0 ≤ x ∧ x < W.length
  · have i1 := r_in_t (x := x) (a := 0) (b := (W.length : Int) - 1) (by omega)
    have u1 := zCW_at w3 h
    have u2 := zCW_at w4 h
    have u3 : line' x.toNat = sg' x.toNat := by rw [u1.1, u2.1]
    refine ⟨0, sg' x.toNat, sg' x.toNat, 0, W.length, br', sg', W.length, line', pile', ?_, ?_, Or.inl ⟨rfl, rfl, rfl, by omega, by omega⟩⟩
    · unfold f_X7_linearAt f_X6_signAt
      simp (disch := omega) only [w1, z_bd, z_jn, z_lt_f, z_lt_t, z_in]
    · unfold f_X8_linearAt
      simp (disch := omega) only [w2, z_bd, z_jn, z_gR, i1, z_eq_f, z_eq_t, r_rf_0, z_in, u3]
  · have i1 := r_in_f (x := x) (a := 0) (b := (W.length : Int) - 1) (by omega)
    have i3 := r_rf_1 (a := rf) (k := 1) (Or.inl rfl)
    refine ⟨3, 0, 0, 1, W.length, br', sg', W.length, line', pile', ?_, ?_, Or.inr (Or.inl ⟨rfl, rfl⟩)⟩
    · unfold f_X7_linearAt
      by_cases h3 : x < 0
      · simp (disch := omega) only [w1, z_bd, z_jn, z_lt_t]
      · simp (disch := omega) only [w1, z_bd, z_jn, z_lt_f]
    · unfold f_X8_linearAt
      simp (disch := omega) only [w2, z_bd, z_jn, z_gR, i1, i3, z_eq_f, z_eq_t]
theorem e_linearLength {n ca fr wl ls rf : Int} {F R br sg pile line : Nat → Int} (hF : zF n ca fr F R) : ∃ v wl' br' sg' ls' line' pile', f_X7_linearLength n wl F br sg = some (v, wl', br', sg') ∧ f_X8_linearLength rf ls line R pile = some (v, 0, ls', line', pile') ∧ 0 ≤ v ∧ v ≤ 300 := by
  obtain ⟨W, br', sg', pile', line', w1, w2, w3, w4, w5⟩ := e_writeF (wl := wl) (ls := ls) (br := br) (sg := sg) (pile := pile) (line := line) hF
  refine ⟨W.length, W.length, br', sg', W.length, line', pile', ?_, ?_, by omega, by omega⟩
  · unfold f_X7_linearLength
    simp only [w1, z_bd]
  · unfold f_X8_linearLength
    simp only [w2, z_bd]
/-- the text to be read, on both sides -/
def zTx (n n2 : Int) (F F2 : Nat → Int) : Prop := n = n2 ∧ (0 ≤ n ∧ n ≤ 120) ∧ ∀ j : Nat, (j : Int) < n → F j = F2 j ∧ 0 ≤ F j ∧ F j ≤ 255
theorem e_append {n n2 rf x : Int} {F F2 : Nat → Int} (h : zTx n n2 F F2) (hx : -2147483648 ≤ x ∧ x ≤ 2147483647) : ∃ t v v' k n' n2' F' F2', f_X7_append n F x = some (t, v, n', F') ∧ f_X8_append rf n2 F2 x = some (v', k, n2', F2') ∧ zag t k v v' 1 2 ∧ zTx n' n2' F' F2' := by
  obtain ⟨h1, h2, h3⟩ := h
  subst h1
  by_cases hb : 0 ≤ x ∧ x ≤ 255
  · have i1 := r_in_t (x := x) (a := 0) (b := 255) (by omega)
    by_cases hn : n < 120
    · refine ⟨0, n + 1, n + 1, 0, n + 1, n + 1, va_up F n.toNat x, va_up F2 n.toNat x, ?_, ?_, Or.inl ⟨rfl, rfl, rfl, by omega, by omega⟩, rfl, by omega, fun j hj => ?_⟩
      · unfold f_X7_append f_X5_hasRoom f_X5_addSign
        simp (disch := omega) only [z_bd, z_jn, z_lt_f, z_lt_t, z_gB, z_eq_f, z_in]
      · unfold f_X8_append
        simp (disch := omega) only [z_bd, z_jn, z_gR, i1, z_eq_f, z_eq_t, r_rf_0, z_in]
      · by_cases e : j = n.toNat
        · subst e
          rw [zup_eq, zup_eq]
          exact ⟨rfl, hb⟩
        · rw [zup_ne e, zup_ne e]
          exact h3 j (by omega)
    · have i3 := r_rf_1 (a := rf) (k := 2) (Or.inr rfl)
      refine ⟨2, 0, 0, 2, n, n, F, F2, ?_, ?_, Or.inr (Or.inr ⟨rfl, rfl, by decide⟩), rfl, h2, h3⟩
      · unfold f_X7_append f_X5_hasRoom
        simp (disch := omega) only [z_bd, z_jn, z_lt_f, z_lt_t, z_gB, z_eq_f, z_eq_t]
      · unfold f_X8_append
        simp (disch := omega) only [z_bd, z_jn, z_gR, i1, i3, z_eq_f, z_eq_t]
  · have i1 := r_in_f (x := x) (a := 0) (b := 255) (by omega)
    have i3 := r_rf_1 (a := rf) (k := 1) (Or.inl rfl)
    refine ⟨1, 0, 0, 1, n, n, F, F2, ?_, ?_, Or.inr (Or.inl ⟨rfl, rfl⟩), rfl, h2, h3⟩
    · unfold f_X7_append
      by_cases h4 : x < 0
      · simp (disch := omega) only [z_jn, z_lt_t]
      · simp (disch := omega) only [z_jn, z_lt_f, z_lt_t]
    · unfold f_X8_append
      simp (disch := omega) only [z_bd, z_jn, z_gR, i1, i3, z_eq_f, z_eq_t]
theorem e_clearText {n n2 rf : Int} {F F2 : Nat → Int} (h : zTx n n2 F F2) : f_X7_clearText n = some (n, 0) ∧ f_X8_clearText rf n2 = some (n, 0, 0) ∧ zTx 0 0 F F2 := by
  obtain ⟨h1, h2, h3⟩ := h
  subst h1
  exact ⟨rfl, rfl, rfl, by omega, fun j hj => by omega⟩
