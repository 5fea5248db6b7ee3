/-! the drawing: the sign at a column and a line -/
section zps
variable {n : Int} {F R : Nat → Int} {L : List Int} {w a b wi hi lo iw : Nat → Int}
abbrev zgF (L : List Int) (w a b wi hi lo iw : Nat → Int) : Prop := zgd L w a b wi hi lo iw (fun _ => True)
theorem zgF_sl (hg : zgF L w a b wi hi lo iw) (q : Nat) : zsl L w a b wi hi lo q := fun U T Q h1 h2 h3 h4 _ => (hg U T Q h1 h2 h3 h4 trivial).1
theorem e_col (hC : zCx 180 n F L) (hR : zRy 184 R L) (hg : zgF L w a b wi hi lo iw) {Q : List Int} {row h : Int} {e : Int × Int × Int → Option (Int × Int)} {e2 : Int × Int × Int → Option Int} : ∀ (k : Nat) (T U : List Int) (fu1 fu2 : Nat) (x i : Int), T.length ≤ k → zbal T → L = U ++ (T ++ Q) → T.length < fu1 → T.length < fu2 → zis2 iw w U.length T → (0 ≤ x ∧ x ≤ 2000) → x < zsw w T.length U.length T → 0 ≤ i → i + zcnt T ≤ 60 → ∃ (T1 X T2 : List Int) (x' i' : Int), T = T1 ++ (X ++ T2) ∧ zit X ∧ zbal T1 ∧ 0 ≤ x' ∧ x' < ziw w (U.length + T1.length) X ∧ f_X4_itemAtColumn_7 180 row w n F e fu1 x (U.length : Int) i = e (x', ((U.length + T1.length : Nat) : Int), i') ∧ f_X8_signAt_72 184 hi iw lo wi R e2 fu2 x h (U.length : Int) = e2 (x', h, ((U.length + T1.length : Nat) : Int))
  | k, T, U, 0, fu2, x, i, hk, hT, hL, h1, h2, hz, hx, hxw, hi0, hi1 => by omega
  | k, T, U, fu1 + 1, 0, x, i, hk, hT, hL, h1, h2, hz, hx, hxw, hi0, hi1 => by omega
  | k, T, U, fu1 + 1, fu2 + 1, x, i, hk, hT, hL, h1, h2, hz, hx, hxw, hi0, hi1 => by
    have h180 := hC.1
    have h3 := hR.2
    have lL : L.length = U.length + (T.length + Q.length) := by rw [hL]; simp
    by_cases hn : T = []
    · subst hn; rw [zsw_nil] at hxw; omega
    · obtain ⟨X, T1, rfl, hX, hT1⟩ := zitF hT hn
      have hXl := zit_ne hX
      have eL : L = U ++ (X ++ (T1 ++ Q)) := by rw [hL]; simp
      obtain ⟨b1, -, -, ⟨b4, b5⟩, -⟩ := c_box hC (zgF_sl hg 0) eL hX (Nat.zero_le _) (x := (U.length : Int)) rfl
      have ci := c_ie hC (A := U) (X := X) (T := T1 ++ Q) eL hX (x := (U.length : Int)) rfl
      have ri := r_itemEnd hR.1 (A := U) (X := X) (T := T1 ++ Q) eL hX (x := (U.length : Int)) rfl
      have hw := hz [] X T1 rfl hX rfl
      simp only [List.length_nil, Nat.add_zero] at hw
      have hcX : zcnt (X ++ T1) = zcnt X + zcnt T1 := zcnt_app _ _
      have hcX1 : 1 ≤ zcnt X := by
        obtain ⟨m, Y, e, e2, -⟩ := zit_first hX
        rw [e]; simp only [zcnt]; rw [if_pos e2]; omega
      simp only [List.length_append] at hk h1 h2 lL hxw
      have hU0 : ((U.length : Nat) : Int).toNat = U.length := Int.toNat_natCast _
      by_cases hxc : x < ziw w U.length X
      · refine ⟨[], X, T1, x, i, rfl, hX, rfl, hx.1, by simpa using hxc, ?_, ?_⟩
        · simp (disch := omega) only [f_X4_itemAtColumn_7, z_lt_t, b1, z_bd]
          rfl
        · simp (disch := omega) only [f_X8_signAt_72, z_in, hU0, hw, z_lt_t]
          rfl
      · have hsw : zsw w (X.length + T1.length) U.length (X ++ T1) = ziw w U.length X + zsw w T1.length (U.length + X.length) T1 := by
          obtain ⟨k2, hk2⟩ : ∃ f, X.length + T1.length = f + 1 := ⟨X.length + T1.length - 1, by omega⟩
          rw [hk2, zsw_it hX, zsw_fuel k2 T1.length _ T1 hT1 (by omega) (Nat.le_refl _)]
        rw [hsw] at hxw
        cases k with
        | zero => omega
        | succ k =>
          have lUX : (U ++ X).length = U.length + X.length := by simp
          obtain ⟨T3, X3, T4, x', i', g1, g2, g3, g4, g5, g6, g7⟩ := e_col hC hR hg (Q := Q) (row := row) (h := h) (e := e) (e2 := e2) k T1 (U ++ X) fu1 fu2 (x - ziw w U.length X) (i + 1) (by omega) hT1 (by rw [eL]; simp) (by omega) (by omega) (by
            intro A1 X1 B1 e3 hX1 hA1
            have := hz (X ++ A1) X1 B1 (by rw [e3]; simp) hX1 (zbal_app (zit_bal hX) hA1)
            rw [List.length_append] at this
            rw [lUX, show U.length + X.length + A1.length = U.length + (X.length + A1.length) by omega]
            exact this) (by omega) (by rw [lUX]; omega) (by omega) (by omega)
          rw [lUX] at g5 g6 g7
          have e8 : U.length + (X ++ T3).length = U.length + X.length + T3.length := by simp; omega
          refine ⟨X ++ T3, X3, T4, x', i', by rw [g1]; simp, g2, zbal_app (zit_bal hX) g3, g4, by rw [e8]; exact g5, ?_, ?_⟩
          · rw [e8]
            simp (disch := omega) only [f_X4_itemAtColumn_7, z_lt_t, z_lt_f, b1, z_bd, ci]
            simp only [Int.natCast_add] at g6 ⊢
            exact g6
          · rw [e8]
            simp (disch := omega) only [f_X8_signAt_72, z_in, hU0, hw, z_lt_f, ri, z_bd]
            simp only [Int.natCast_add] at g7 ⊢
            exact g7
/-- in a row's box -/
def zib (w a b : Nat → Int) (q : Nat) (x h : Int) : Prop := (0 ≤ x ∧ x < w q) ∧ -(a q) ≤ h ∧ h ≤ b q
theorem c_beside {q : Nat} {h x : Int} (hx : x = (q : Int)) (hq : q ≤ 180) (hb : 0 ≤ a q ∧ 0 ≤ b q ∧ a q + b q ≤ 1000 ∧ -2000 ≤ h ∧ h ≤ 2000) : f_X4_isBeside h a b x = some (zbi (decide (-(a q) ≤ h ∧ h ≤ b q))) := by
  unfold f_X4_isBeside
  rw [c_ab q hx hq, z_bd, c_bl q hx hq]
  by_cases h1 : -(a q) ≤ h ∧ h ≤ b q
  · rw [decide_eq_true h1]
    simp (disch := omega) only [z_jn, z_lt_f, z_bd, z_gB, zbi_t]
  · rw [decide_eq_false h1]
    by_cases h2 : h < -(a q)
    · simp (disch := omega) only [z_jn, z_lt_t, z_gB, zbi_f]
    · simp (disch := omega) only [z_jn, z_lt_f, z_lt_t, z_bd, z_gB, zbi_f]
theorem c_enter {q : Nat} {row c h c2 h2 x : Int} (hx : x = (q : Int)) (hq : q ≤ 180) (hb : (1 ≤ w q ∧ w q ≤ 1000) ∧ 0 ≤ a q ∧ 0 ≤ b q ∧ a q + b q ≤ 1000) (hc : -2000 ≤ c - c2 ∧ c - c2 ≤ 2000 ∧ -2000 ≤ h - h2 ∧ h - h2 ≤ 2000) : (zib w a b q (c - c2) (h - h2) ∧ f_X4_enterSlot row c h a b w x c2 h2 = some (-9, x, c - c2, h - h2)) ∨ (¬ zib w a b q (c - c2) (h - h2) ∧ f_X4_enterSlot row c h a b w x c2 h2 = some (32, row, c - c2, h - h2)) := by
  have hbs := c_beside (a := a) (b := b) (h := h - h2) hx hq (by omega)
  unfold f_X4_enterSlot zib
  rw [c_wd q hx hq, hbs]
  by_cases h0 : c - c2 < 0
  · right
    refine ⟨fun hh => by omega, ?_⟩
    simp (disch := omega) only [z_jn, z_lt_t]
  · by_cases h1 : c - c2 < w q
    · by_cases h3 : -(a q) ≤ h - h2 ∧ h - h2 ≤ b q
      · left
        refine ⟨⟨by omega, h3⟩, ?_⟩
        rw [decide_eq_true h3]
        simp (disch := omega) only [z_jn, z_lt_t, z_lt_f, z_bd, zbi_t, z_eq_f]
      · right
        refine ⟨fun hh => h3 hh.2, ?_⟩
        rw [decide_eq_false h3]
        simp (disch := omega) only [z_jn, z_lt_t, z_lt_f, z_bd, zbi_f, z_eq_t]
    · right
      refine ⟨fun hh => by omega, ?_⟩
      simp (disch := omega) only [z_jn, z_lt_f, z_bd]
/-- the reference outside a row's box -/
theorem r_outside {q fu : Nat} {c h : Int} (hq : q ≤ 180) (hb : (1 ≤ w q ∧ w q ≤ 1000) ∧ 0 ≤ a q ∧ 0 ≤ b q ∧ a q + b q ≤ 1000) (hc : -2000 ≤ c ∧ c ≤ 2000 ∧ -2000 ≤ h ∧ h ≤ 2000) (he : wi q = w q ∧ hi q = a q ∧ lo q = b q) (ho : ¬ zib w a b q c h) : f_X8_signAt_9 184 hi iw lo wi R (fu + 1) (q : Int) c h = some 32 := by
  have hq0 : ((q : Nat) : Int).toNat = q := Int.toNat_natCast _
  unfold zib at ho
  by_cases h0 : c < 0
  · simp (disch := omega) only [f_X8_signAt_9, z_jn, z_lt_t]
  · by_cases h1 : c < w q
    · by_cases h2 : h < -(a q)
      · simp (disch := omega) only [f_X8_signAt_9, z_jn, z_lt_t, z_lt_f, z_in, hq0, he.1, he.2.1]
      · simp (disch := omega) only [f_X8_signAt_9, z_jn, z_lt_t, z_lt_f, z_in, hq0, he.1, he.2.1, he.2.2]
    · simp (disch := omega) only [f_X8_signAt_9, z_jn, z_lt_f, z_in, hq0, he.1]
end zps
