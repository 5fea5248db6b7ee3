/-! p30: the signs of a row's box -/
section SG
variable {n : Int} {F : Nat → Int} {L : List Int} {w a b : Nat → Int}
theorem zms_any (hg : zms L w a b (fun _ => True)) (q : Nat) : zms L w a b (fun j => q < j) := fun U T Q h1 h2 h3 h4 _ => hg U T Q h1 h2 h3 h4 trivial
/-- the item at a column -/
theorem c_col (hC : zCx 180 n F L) (hg : zms L w a b (fun _ => True)) {row : Int} {e : Int × Int × Int → Option (Int × Int)} : ∀ (k : Nat) (T1 U X B : List Int) (fu : Nat) (x' i : Int), T1.length ≤ k → zbal T1 → zit X → L = U ++ (T1 ++ (X ++ B)) → T1.length < fu → 0 ≤ x' → x' < (zdm X).1 → 0 ≤ i → i + zcnt T1 ≤ 59 → ∃ i', f_X4_itemAtColumn_7 180 row w n F e fu ((zdm T1).1 + x') (U.length : Int) i = e (x', (U.length : Int) + T1.length, i')
  | k, T1, U, X, B, 0, x', i, hk, hT, hX, hL, hf, hx0, hx1, hi0, hi1 => by omega
  | k, T1, U, X, B, fu + 1, x', i, hk, hT, hX, hL, hf, hx0, hx1, hi0, hi1 => by
    have h180 := hC.1
    by_cases hn : T1 = []
    · subst hn
      rw [List.nil_append] at hL
      obtain ⟨b1, -, -, ⟨b4, b5⟩, -⟩ := c_box hC (zms_sl (zms_any hg U.length)) hL hX (Nat.le_refl _) (x := (U.length : Int)) rfl
      obtain ⟨d1, -, -⟩ := zms_it (zms_any hg U.length) hL hX (Nat.le_refl _)
      have lL : L.length = U.length + (X.length + B.length) := by rw [hL]; simp
      refine ⟨i, ?_⟩
      rw [zdm_nil]
      simp only [List.length_nil]
      rw [show ((0 : Int), (0 : Int), (0 : Int)).1 + x' = x' by show (0 : Int) + x' = x'; omega, show (U.length : Int) + ((0 : Nat) : Int) = U.length by omega]
      simp (disch := omega) only [f_X4_itemAtColumn_7, z_lt_t, b1, z_bd]
    · obtain ⟨Y, R, rfl, hY, hR⟩ := zitF hT hn
      have hYl := zit_ne hY
      rw [List.length_append] at hk hf
      have eL : L = U ++ (Y ++ (R ++ (X ++ B))) := by rw [hL]; simp
      have lL : L.length = U.length + (Y.length + (R.length + (X.length + B.length))) := by rw [eL]; simp
      obtain ⟨b1, -, -, ⟨b4, b5⟩, -⟩ := c_box hC (zms_sl (zms_any hg U.length)) eL hY (Nat.le_refl _) (x := (U.length : Int)) rfl
      obtain ⟨d1, -, -⟩ := zms_it (zms_any hg U.length) eL hY (Nat.le_refl _)
      have ci := c_ie hC eL hY (x := (U.length : Int)) rfl
      have hcn : zcnt (Y ++ R) = zcnt Y + zcnt R := zcnt_app Y R
      have hcY : 1 ≤ zcnt Y := by
        obtain ⟨m, Z, e1, e2, -⟩ := zit_first hY
        rw [e1]; simp only [zcnt]; rw [if_pos e2]; omega
      obtain ⟨o1, -, -⟩ := zdm_o hR
      obtain ⟨⟨r1, -⟩, -⟩ := zdm_b hR
      obtain ⟨⟨x1, -⟩, -⟩ := zdm_b (zit_bal hX)
      cases k with
      | zero => omega
      | succ k =>
        obtain ⟨i', ih⟩ := c_col hC hg (row := row) (e := e) k R (U ++ Y) X B fu x' (i + 1) (by omega) hR hX (by rw [eL]; simp) (by omega) hx0 hx1 (by omega) (by omega)
        rw [show ((U ++ Y).length : Int) = (U.length : Int) + Y.length by simp] at ih
        refine ⟨i', ?_⟩
        rw [zdm_app (zit_bal hY) hR]
        have e1 : (zbp (zdm Y) (zdm R)).1 + x' = ziw w U.length Y + ((zdm R).1 + x') := by
          show (zdm Y).1 + (zdm R).1 + x' = _
          rw [d1]; omega
        rw [e1]
        have e2 : ziw w U.length Y + ((zdm R).1 + x') - ziw w U.length Y = (zdm R).1 + x' := by omega
        simp (disch := omega) only [f_X4_itemAtColumn_7, z_lt_t, z_lt_f, b1, z_bd, ci, e2]
        rw [List.length_append, show (U.length : Int) + ((Y.length + R.length : Nat) : Int) = (U.length : Int) + Y.length + R.length by omega]
        exact ih
theorem c_at (hC : zCx 180 n F L) (hg : zms L w a b (fun _ => True)) {U T1 X B : List Int} (hL : L = U ++ (T1 ++ (X ++ B))) (hT : zbal T1) (hX : zit X) (hc : zcnt T1 ≤ 59) {x' : Int} (hx : 0 ≤ x' ∧ x' < (zdm X).1) : f_X4_itemAtColumn 180 (U.length : Int) ((zdm T1).1 + x') w n F = some ((U.length : Int) + T1.length, x') := by
  have h180 := hC.1
  have lL : L.length = U.length + (T1.length + (X.length + B.length)) := by rw [hL]; simp
  obtain ⟨i', e⟩ := c_col hC hg (row := (U.length : Int)) (e := fun (z4 : Int × Int × Int) => some (z4.2.1, z4.1)) T1.length T1 U X B fuel x' 0 (Nat.le_refl _) hT hX hL (by unfold fuel; omega) hx.1 hx.2 (Int.le_refl 0) (by omega)
  unfold f_X4_itemAtColumn
  exact e
/-- the signs of a row, as they are looked up -/
def zRow (n : Int) (F : Nat → Int) (w a b : Nat → Int) (U T : List Int) : Prop := ∃ g : Int → Int → Int, (∀ (e24 : Int × Int × Int × Int → Option (Int × Int × Int × Int)) (fu : Nat) (y x h : Int), y = zlv U → 5 - y < fu → zib w a b U.length x h → ∃ c1 c2 c3, f_X4_signAt_24 180 a b w n F e24 fu (U.length : Int) x h y = some (g x h, c1, c2, c3)) ∧ (∀ x h, 32 ≤ g x h ∧ g x h ≤ 122) ∧ ∀ s, zok s → zG g (w U.length) (a U.length) (b U.length) s = zrc s T
def zItm (n : Int) (F : Nat → Int) (w a b : Nat → Int) (U : List Int) (p : Nat) (X : List Int) : Prop := ∃ g : Int → Int → Int, (∀ (e24 : Int × Int × Int × Int → Option (Int × Int × Int × Int)) (fu : Nat) (y x0 x' h : Int), y = zlv U → 5 - y < fu → f_X4_itemAtColumn 180 (U.length : Int) x0 w n F = some ((p : Int), x') → (0 ≤ x' ∧ x' < (zdm X).1) → (-(a U.length) ≤ h ∧ h ≤ b U.length) → ∃ c1 c2 c3, f_X4_signAt_24 180 a b w n F e24 fu (U.length : Int) x0 h y = some (g x' h, c1, c2, c3)) ∧ (∀ x h, 32 ≤ g x h ∧ g x h ≤ 122) ∧ ∀ s, zok s → ∀ α β : Int, (zdm X).2.1 ≤ α → (zdm X).2.2 ≤ β → z2 0 (zdm X).1.toNat (-α) (α + 1 + β).toNat (fun x h => zis9 (g x h) s) = zri s X
theorem zpl_b {g : Int → Int → Int} (hg : ∀ x h, 32 ≤ g x h ∧ g x h ≤ 122) (w a b sx sh x h : Int) : 32 ≤ zpl g w a b sx sh x h ∧ zpl g w a b sx sh x h ≤ 122 := by
  unfold zpl
  split
  · exact hg _ _
  · omega
/-- a slot is entered, or a blank -/
theorem m_enter {U U' : List Int} {g : Int → Int → Int} {e24 : Int × Int × Int × Int → Option (Int × Int × Int × Int)} {fu : Nat} {y x0 x' h sx sh : Int} (hg : ∀ (e24 : Int × Int × Int × Int → Option (Int × Int × Int × Int)) (fu : Nat) (y x h : Int), y = zlv U' → 5 - y < fu → zib w a b U'.length x h → ∃ c1 c2 c3, f_X4_signAt_24 180 a b w n F e24 fu (U'.length : Int) x h y = some (g x h, c1, c2, c3)) (hgb : ∀ x h, 32 ≤ g x h ∧ g x h ≤ 122) (hlv : zlv U' = y + 1) (hy : y ≤ 5 ∧ 0 ≤ y) (hf : 5 - y < fu + 1) (hs : f_X4_signInRow 180 (U.length : Int) x0 h a b w n F = f_X4_enterSlot (U.length : Int) x' h a b w (U'.length : Int) sx sh) (hq : U'.length ≤ 180) (hb : (1 ≤ w U'.length ∧ w U'.length ≤ 1000) ∧ 0 ≤ a U'.length ∧ 0 ≤ b U'.length ∧ a U'.length + b U'.length ≤ 1000) (hc : -2000 ≤ x' - sx ∧ x' - sx ≤ 2000 ∧ -2000 ≤ h - sh ∧ h - sh ≤ 2000) : ∃ c1 c2 c3, f_X4_signAt_24 180 a b w n F e24 (fu + 1) (U.length : Int) x0 h y = some (zpl g (w U'.length) (a U'.length) (b U'.length) sx sh x' h, c1, c2, c3) := by
  rcases c_enter (row := (U.length : Int)) (c := x') (h := h) (c2 := sx) (h2 := sh) (x := (U'.length : Int)) rfl hq hb hc with ⟨z1, z2⟩ | ⟨z1, z2⟩
  · obtain ⟨c1, c2, c3, e⟩ := hg e24 fu (y + 1) (x' - sx) (h - sh) hlv.symm (by omega) z1
    refine ⟨c1, c2, c3, ?_⟩
    rw [zpl_in z1]
    simp (disch := omega) only [f_X4_signAt_24, z_lt_f, hs, z2, z_bd, z_eq_t, e]
  · refine ⟨(U.length : Int), x' - sx, h - sh, ?_⟩
    rw [zpl_out z1]
    simp (disch := omega) only [f_X4_signAt_24, z_lt_f, hs, z2, z_bd, z_eq_f]
/-- a sign is given at once -/
theorem m_once {U : List Int} {e24 : Int × Int × Int × Int → Option (Int × Int × Int × Int)} {fu : Nat} {y x0 h v c1 c2 c3 : Int} (hy : y ≤ 5 ∧ 0 ≤ y) (hs : f_X4_signInRow 180 (U.length : Int) x0 h a b w n F = some (v, c1, c2, c3)) (hv : 32 ≤ v ∧ v ≤ 122) : f_X4_signAt_24 180 a b w n F e24 (fu + 1) (U.length : Int) x0 h y = some (v, c1, c2, c3) := by
  simp (disch := omega) only [f_X4_signAt_24, z_lt_f, hs, z_bd, z_eq_f]
theorem zpl_is {g : Int → Int → Int} {w a b sx sh x h s : Int} (hs : s ≠ 32) (q : ¬ ((0 ≤ x - sx ∧ x - sx < w) ∧ (-a ≤ h - sh ∧ h - sh ≤ b))) : zis9 (zpl g w a b sx sh x h) s = 0 := by
  rw [zpl_out q]
  exact zis9_n (fun z => hs z.symm)
end SG
