/-! the reader: the end of a chain, a fraction's line -/
/-- the last factor as it stays when its chain ends -/
def zuc (un pl : Int) (F G : List Int) : Prop := (un = 0 ∧ G = F) ∨ (un = 1 ∧ zuf pl F G)
theorem zuf.le {pl : Int} {F G : List Int} (h : zuf pl F G) : G.length ≤ F.length := by
  rcases h with ⟨-, h⟩ | ⟨-, h⟩ <;> subst h
  · exact Nat.le_refl _
  · simp only [List.length_append, List.length_cons, List.length_nil]; omega
theorem c_endF {st fa un pl n : Int} {M : Nat → Int} {A F G : List Int} (hst : st = 0 ∨ st = 1) (hs0 : st = 0 → un = 0) (H : zCx 360 n M (A ++ F)) (hfa : un = 1 → fa = (A.length : Int)) (hp : zuc un pl F G) (hpl : pl = 0 ∨ pl = 1) (hr : (A.length : Int) + F.length + un ≤ 360) : ∃ pl' n' M', f_X5_endFactor st fa un pl n M = some (0, pl', n', M') ∧ zCx 360 n' M' (A ++ (G ++ zpd un)) ∧ (pl' = 0 ∨ pl' = 1) := by
  rcases hp with ⟨p1, p2⟩ | ⟨p1, p2⟩
  · subst p1 p2
    refine ⟨pl, n, M, ?_, by rw [zpd_0, List.append_nil]; exact H, hpl⟩
    unfold f_X5_endFactor
    rcases hst with h | h
    · subst h
      simp (disch := omega) only [z_jn, z_eq_f]
    · subst h
      simp (disch := omega) only [z_jn, z_eq_t]
  · subst p1
    have h1 : st = 1 := by
      rcases hst with h | h
      · exact absurd (hs0 h) (by omega)
      · exact h
    subst h1
    obtain ⟨n', M', a1, a2⟩ := c_endOp H (hfa rfl) p2 (Or.inr rfl) hr
    refine ⟨0, n', M', ?_, a2, Or.inl rfl⟩
    unfold f_X5_endFactor
    simp (disch := omega) only [z_jn, z_eq_t, z_eq_f, a1, z_bd]
/-- an array that is changed at one place -/
def zsm (F G : Nat → Int) (d : Nat) : Prop := ∀ j, j ≠ d → G j = F j
theorem zsm_up {F : Nat → Int} {d : Nat} {v : Int} : zsm F (va_up F d v) d := fun _ h => zup_ne h
theorem zsm_up2 {F : Nat → Int} {d : Nat} {v w : Int} : zsm F (va_up (va_up F d v) d w) d := fun _ h => by rw [zup_ne h, zup_ne h]
theorem zsm_id {F : Nat → Int} {d : Nat} : zsm F F d := fun _ _ => rfl
theorem zsm.tr {F G H : Nat → Int} {d : Nat} (h : zsm F G d) (h2 : zsm G H d) : zsm F H d := fun j hj => by rw [h2 j hj, h j hj]
theorem zr_11 : zr 11 = -11 := by decide
theorem zr_1 : zr 1 = -1 := by decide
theorem r_close {rs dp un pl : Int} {rd bel cha fac pla : Nat → Int} {A F G : List Int} (H : zRd rs rd (A ++ F)) (hl : A.length + F.length ≤ 500) (hp : zuc un pl F G) (hd : 0 ≤ dp ∧ dp < 128) (h1 : bel dp.toNat = un) (h2 : un = 1 → pla dp.toNat = pl) (h3 : un = 1 → fac dp.toNat = (A.length : Int)) : ∃ rs' pla' rd', f_X8_closeChain rs dp bel cha fac pla rd = some (rs', va_up bel dp.toNat 0, va_up cha dp.toNat (-9), pla', rd') ∧ zRd rs' rd' (A ++ (G ++ zpd un)) ∧ pla' dp.toNat = 0 ∧ zsm pla pla' dp.toNat := by
  rcases hp with ⟨p1, p2⟩ | ⟨p1, p2⟩
  · subst p1 p2
    refine ⟨rs, va_up pla dp.toNat 0, rd, ?_, by rw [zpd_0, List.append_nil]; exact H, zup_eq, zsm_up⟩
    unfold f_X8_closeChain
    simp (disch := omega) only [z_in, z_jn, h1, z_eq_t, z_gB]
  · subst p1
    have hle := p2.le
    obtain ⟨rd1, a1, a2⟩ := r_unwrap (dp := dp) (fac := fac) H (by omega) p2 hd (h2 rfl) (fun _ => h3 rfl)
    obtain ⟨rd2, b1, b2⟩ := r_add (m := 11) (z := -11) a2 zr_11.symm (by simp; omega)
    refine ⟨_, va_up (va_up pla dp.toNat 0) dp.toNat 0, rd2, ?_, by rw [zpd_1, ← List.append_assoc]; exact b2, zup_eq, zsm_up2⟩
    unfold f_X8_closeChain
    simp (disch := omega) only [z_in, z_jn, h1, z_eq_f, z_gB, a1, b1, z_bd]
/-- what stands before the last factor of a row -/
def zlh (un : Int) (G N : List Int) : List Int := if un = 0 then G else G ++ 1 :: (N ++ [6])
theorem zlh_0 {G N : List Int} : zlh 0 G N = G := rfl
theorem zlh_1 {G N : List Int} : zlh 1 G N = G ++ 1 :: (N ++ [6]) := rfl
theorem zr_6' : (-10 : Int) = zr 6 := by decide
theorem c_divide {st ch fa un pl n : Int} {M : Nat → Int} {P G N F X : List Int} (hst : st = 1) (H : zCx 360 n M (P ++ (zlh un G N ++ F))) (hch : ch = (P.length : Int) + G.length) (hfa : fa = (P.length : Int) + (zlh un G N).length) (hp : zuf pl F X) (hu : un = 0 ∨ un = 1) (hr : (P.length : Int) + (zlh un G N).length + F.length + un + 2 ≤ 360) : ∃ n' M' Y, f_X5_takesDivision st ch fa un pl n M = some (1, 2, n', 1, 0, n', M') ∧ zCx 360 n' M' (P ++ (zlh 1 G Y ++ [])) ∧ Y = (if un = 0 then X else 1 :: (N ++ 6 :: (X ++ [11]))) := by
  subst hst
  have hle := hp.le
  obtain ⟨n1, M1, a1, a2⟩ := c_endOp (A := P ++ zlh un G N) (by simpa using H) (by simp; omega) hp hu (by simp; omega)
  rcases hu with hu | hu
  · subst hu
    rw [zlh_0] at hr a2
    obtain ⟨M2, b1, b2⟩ := c_insert (N := 360) (n := n1) (F := M1) (X := P ++ G) (Y := X) (by simpa [zpd_0] using a2) (x := ch) (m := 1) (by simp; omega) (by unfold zv; omega) (by simp; omega)
    obtain ⟨M3, c1, c2⟩ := c_add b2 (m := 6) (by unfold zv; omega) (by simp; omega)
    refine ⟨n1 + 1 + 1, M3, X, ?_, by simpa [zlh_1] using c2, rfl⟩
    unfold f_X5_takesDivision
    simp (disch := omega) only [z_eq_t, a1, b1, c1, z_bd, z_gB]
  · subst hu
    rw [zlh_1] at hr a2
    simp only [List.length_append, List.length_cons, List.length_nil] at hr
    obtain ⟨M2, b1, b2⟩ := c_insert (N := 360) (n := n1) (F := M1) (X := P ++ G) (Y := 1 :: (N ++ 6 :: (X ++ [11]))) (by simpa [zpd_1] using a2) (x := ch) (m := 1) (by simp; omega) (by unfold zv; omega) (by simp; omega)
    obtain ⟨M3, c1, c2⟩ := c_add b2 (m := 6) (by unfold zv; omega) (by simp; omega)
    refine ⟨n1 + 1 + 1, M3, 1 :: (N ++ 6 :: (X ++ [11])), ?_, by simpa [zlh_1] using c2, rfl⟩
    unfold f_X5_takesDivision
    simp (disch := omega) only [z_eq_t, a1, b1, c1, z_bd, z_gB]
theorem r_line {rs dp un pl : Int} {rd bel cha fac pla : Nat → Int} {P G N F X : List Int} (H : zRd rs rd (P ++ (zlh un G N ++ F))) (hl : P.length + (zlh un G N).length + F.length ≤ 500) (hp : zuf pl F X) (hu : un = 0 ∨ un = 1) (hd : 0 ≤ dp ∧ dp < 128) (h1 : bel dp.toNat = un) (h2 : pla dp.toNat = pl) (h3 : fac dp.toNat = (P.length : Int) + (zlh un G N).length) (h4 : cha dp.toNat = (P.length : Int) + G.length) : ∃ rs' rd' Y, f_X8_line rs dp bel cha fac pla rd = some (rs', va_up bel dp.toNat 1, va_up fac dp.toNat rs', va_up pla dp.toNat 0, rd') ∧ zRd rs' rd' (P ++ (zlh 1 G Y ++ [])) ∧ Y = (if un = 0 then X else 1 :: (N ++ 6 :: (X ++ [11]))) := by
  have hle := hp.le
  obtain ⟨rd1, a1, a2⟩ := r_unwrap (A := P ++ zlh un G N) (dp := dp) (fac := fac) (pla := pla) (by simpa using H) (by simp; omega) hp hd h2 (fun _ => by rw [h3]; simp)
  generalize ((P ++ zlh un G N).length : Int) + X.length = q at a1 a2
  rcases hu with hu | hu
  · subst hu
    rw [zlh_0] at hl a2
    obtain ⟨rd2, b1, b2⟩ := r_insert (X := P ++ G) (Y := X) (by simpa [zlh_0] using a2) (x := cha dp.toNat) (m := 1) (z := -1) (by rw [h4]; simp) zr_1.symm (by simp; omega)
    obtain ⟨rd3, c1, c2⟩ := r_add b2 zr_6' (by simp; omega)
    refine ⟨_, rd3, X, ?_, by simpa [zlh_1] using c2, rfl⟩
    unfold f_X8_line
    simp (disch := omega) only [z_in, z_jn, h1, z_eq_t, a1, b1, c1, z_bd, z_gB]
  · subst hu
    rw [zlh_1] at hl a2
    simp only [List.length_append, List.length_cons, List.length_nil] at hl
    obtain ⟨rd2, b1, b2⟩ := r_add a2 zr_11.symm (by simp; omega)
    obtain ⟨rd3, c1, c2⟩ := r_insert (X := P ++ G) (Y := 1 :: (N ++ 6 :: (X ++ [11]))) (by simpa using b2) (x := cha dp.toNat) (m := 1) (z := -1) (by rw [h4]; simp) zr_1.symm (by simp; omega)
    obtain ⟨rd4, d1, d2⟩ := r_add c2 zr_6' (by simp; omega)
    refine ⟨_, rd4, 1 :: (N ++ 6 :: (X ++ [11])), ?_, by simpa [zlh_1] using d2, rfl⟩
    unfold f_X8_line
    simp (disch := omega) only [z_in, z_jn, h1, z_eq_f, a1, b1, c1, d1, z_bd, z_gB]
