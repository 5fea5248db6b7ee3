/-! the reader: what both sides do to the line that is read -/
def zRd (rs : Int) (rd : Nat → Int) (C : List Int) : Prop := rs = (C.length : Int) ∧ zR rd C
theorem zR_add {F : Nat → Int} {X : List Int} {m : Int} (h : zR F X) : zR (va_up F X.length (zr m)) (X ++ [m]) := by
  rw [zR_iff] at h ⊢
  intro i hi
  simp only [List.length_append, List.length_cons, List.length_nil] at hi
  simp only [va_up]
  rw [zg_app]
  by_cases h2 : i < X.length
  · rw [if_neg (by omega), if_pos h2, h i h2]
  · have : i = X.length := by omega
    subst this
    simp
theorem r_add {rs : Int} {rd : Nat → Int} {C : List Int} (H : zRd rs rd C) {m z : Int} (hz : z = zr m) (hl : C.length < 512) : ∃ rd', f_X8_add rs rd z = some (rs + 1, rd') ∧ zRd (rs + 1) rd' (C ++ [m]) := by
  obtain ⟨h1, h2⟩ := H
  subst hz
  refine ⟨va_up rd C.length (zr m), ?_, by simp; omega, zR_add h2⟩
  unfold f_X8_add
  rw [z_in (by omega), show rs.toNat = C.length by omega]
theorem r_un_loop {dp : Int} {fac pla : Nat → Int} {e : Int × (Nat → Int) × (Nat → Int) × Int → Option (Int × (Nat → Int) × (Nat → Int))} : ∀ (Z P : List Int) (g : Int) (fu : Nat) (F : Nat → Int) (rs y : Int), zR F (P ++ g :: Z) → rs = (P.length : Int) + 1 + Z.length → rs ≤ 512 → Z.length < fu → y = (P.length : Int) → ∃ F', f_X8_unwrap_32 dp fac e fu rs pla F y = e (rs, pla, F', rs - 1) ∧ zR F' (P ++ Z)
  | Z, P, g, 0, F, rs, y, h, hn, hn2, hf, hy => by omega
  | [], P, g, fu + 1, F, rs, y, h, hn, hn2, hf, hy => by
    simp only [List.length_nil] at hn
    refine ⟨F, ?_, by simpa using zR_pre h⟩
    simp (disch := omega) only [f_X8_unwrap_32, z_lt_f]
    rw [show y = rs - 1 by omega]
  | m :: Z, P, g, fu + 1, F, rs, y, h, hn, hn2, hf, hy => by
    simp only [List.length_cons] at hn hf
    have hm : F (y + 1).toNat = zr m := by
      rw [show (y + 1).toNat = (P ++ [g]).length by simp; omega]
      exact h (P ++ [g]) m Z (by simp)
    have key := zR_set (m' := m) h
    obtain ⟨F', a1, a2⟩ := r_un_loop (e := e) (dp := dp) (fac := fac) (pla := pla) Z (P ++ [m]) m fu (va_up F P.length (zr m)) rs (y + 1) (by simpa using key) (by simp; omega) hn2 (by omega) (by simp; omega)
    refine ⟨F', ?_, by simpa using a2⟩
    have e1 : y.toNat = P.length := by omega
    simp (disch := omega) only [f_X8_unwrap_32, z_in, z_lt_t, hm, e1, a1]
/-- the last factor, with and without the parentheses around it -/
def zuf (pl : Int) (F G : List Int) : Prop := (pl = 0 ∧ G = F) ∨ (pl = 1 ∧ F = 5 :: (G ++ [15]))
theorem r_unwrap {rs dp pl : Int} {rd fac pla : Nat → Int} {A F G : List Int} (H : zRd rs rd (A ++ F)) (hl : A.length + F.length ≤ 512) (hp : zuf pl F G) (hd : 0 ≤ dp ∧ dp < 128) (h1 : pla dp.toNat = pl) (h2 : pl = 1 → fac dp.toNat = (A.length : Int)) : ∃ rd', f_X8_unwrap rs dp fac pla rd = some ((A.length : Int) + G.length, va_up pla dp.toNat 0, rd') ∧ zRd ((A.length : Int) + G.length) rd' (A ++ G) := by
  obtain ⟨h3, h4⟩ := H
  simp only [List.length_append] at h3
  rcases hp with ⟨p1, p2⟩ | ⟨p1, p2⟩
  · subst p2
    refine ⟨rd, ?_, by simp, h4⟩
    unfold f_X8_unwrap
    simp (disch := omega) only [z_in, z_jn, h1, z_eq_t, z_gB]
    rw [show (A.length : Int) + G.length = rs by omega]
  · subst p2
    simp only [List.length_append, List.length_cons, List.length_nil] at h3 hl
    have h5 := h2 p1
    have h6 : zR rd (A ++ 5 :: G) := zR_pre (B := [15]) (by simpa using h4)
    obtain ⟨F', a1, a2⟩ := r_un_loop (dp := dp) (fac := fac) (pla := pla) (e := fun (z2 : Int × (Nat → Int) × (Nat → Int) × Int) => some (z2.1 - 1, va_up z2.2.1 dp.toNat 0, z2.2.2.1)) G A 5 fuel rd (rs - 1) (A.length : Int) h6 (by omega) (by omega) (by unfold fuel; omega) rfl
    refine ⟨F', ?_, by simp, a2⟩
    unfold f_X8_unwrap
    simp (disch := omega) only [z_in, z_jn, h1, z_eq_f, h5, z_gB]
    rw [a1]
    rw [show rs - 1 - 1 = (A.length : Int) + G.length by omega]
theorem r_in_loop {m : Int} {e : Int × (Nat → Int) × Int → Option (Int × (Nat → Int))} (X : List Int) : ∀ (R Q : List Int) (fu : Nat) (F : Nat → Int) (rs y : Int), zR F (X ++ R.reverse) → zR (fun i => F (X.length + R.length + 1 + i)) Q → X.length + R.length + Q.length < 512 → R.length < fu → y = (X.length : Int) + R.length → ∃ F', f_X8_insert_5 X.length m e fu rs F y = e (rs, F', X.length) ∧ zR F' X ∧ zR (fun i => F' (X.length + 1 + i)) (R.reverse ++ Q)
  | R, Q, 0, F, rs, y, h, hq, hl, hf, hy => by omega
  | [], Q, fu + 1, F, rs, y, h, hq, hl, hf, hy => by
    simp only [List.length_nil] at hy hl hq
    refine ⟨F, ?_, by simpa using h, by simpa using hq⟩
    simp (disch := omega) only [f_X8_insert_5, z_lt_f]
    rw [show y = (X.length : Int) by omega]
  | b :: R, Q, fu + 1, F, rs, y, h, hq, hl, hf, hy => by
    simp only [List.length_cons] at hy hl hq hf
    have hm : F (y - 1).toNat = zr b := by
      have := h (X ++ R.reverse) b [] (by simp)
      rw [← this]; congr 1; simp; omega
    have e1 : y.toNat = X.length + R.length + 1 := by omega
    have h' : zR F (X ++ R.reverse) := zR_pre (B := [b]) (by simpa using h)
    obtain ⟨F', a1, a2, a3⟩ := r_in_loop (e := e) (m := m) X R (b :: Q) fu (va_up F (X.length + R.length + 1) (zr b)) rs (y + (-1)) (zR_out h' (by simp)) (by
      rw [zR_iff] at hq ⊢
      intro i hi
      simp only [va_up]
      rw [zg_cons]
      by_cases hi0 : i = 0
      · subst hi0; simp
      · rw [if_neg (by omega), if_neg hi0, ← hq (i - 1) (by simp at hi; omega)]
        congr 1; omega) (by simp; omega) (by omega) (by omega)
    refine ⟨F', ?_, a2, by simpa using a3⟩
    simp (disch := omega) only [f_X8_insert_5, z_in, z_lt_t, hm, e1, a1]
theorem r_insert {rs x z m : Int} {rd : Nat → Int} {X Y : List Int} (H : zRd rs rd (X ++ Y)) (hx : x = (X.length : Int)) (hz : z = zr m) (hl : X.length + Y.length < 512) : ∃ rd', f_X8_insert rs rd x z = some (rs + 1, rd') ∧ zRd (rs + 1) rd' (X ++ m :: Y) := by
  obtain ⟨h1, h2⟩ := H
  simp only [List.length_append] at h1
  subst hx
  subst hz
  obtain ⟨F', a1, a2, a3⟩ := r_in_loop (m := zr m) (e := fun (z1 : Int × (Nat → Int) × Int) => gIn (X.length : Int) 512 (some (z1.1 + 1, va_up z1.2.1 (X.length : Int).toNat (zr m)))) X Y.reverse [] fuel rd rs rs (by simpa using h2) (by intro A b T e; simp at e) (by simp; omega) (by unfold fuel; simp; omega) (by simp; omega)
  have eX : (X.length : Int).toNat = X.length := by omega
  refine ⟨va_up F' X.length (zr m), ?_, by simp; omega, ?_⟩
  · unfold f_X8_insert
    rw [a1]
    simp (disch := omega) only [z_in, eX]
  · rw [List.reverse_reverse, List.append_nil] at a3
    rw [zR_iff] at a2 a3 ⊢
    intro i hi
    simp only [List.length_append, List.length_cons] at hi
    simp only [va_up]
    rw [zg_app, zg_cons]
    by_cases e1 : i = X.length
    · subst e1; simp
    · rw [if_neg e1]
      by_cases e2 : i < X.length
      · rw [if_pos e2]; exact a2 i e2
      · rw [if_neg e2, if_neg (by omega), ← a3 (i - X.length - 1) (by omega)]
        congr 1; omega
/-- the fraction's end, if one is pending -/
def zpd (un : Int) : List Int := if un = 0 then [] else [11]
theorem zpd_0 : zpd 0 = [] := rfl
theorem zpd_1 : zpd 1 = [11] := rfl
theorem c_endOp {n fa un pl : Int} {M : Nat → Int} {A F G : List Int} (H : zCx 360 n M (A ++ F)) (hfa : fa = (A.length : Int)) (hp : zuf pl F G) (hu : un = 0 ∨ un = 1) (hr : (A.length : Int) + F.length + un ≤ 360) : ∃ n' M', f_X5_endOperand fa un pl n M = some (0, 0, n', M') ∧ zCx 360 n' M' (A ++ (G ++ zpd un)) := by
  have hn := H.1.1
  simp only [List.length_append] at hn
  rcases hp with ⟨p1, p2⟩ | ⟨p1, p2⟩
  · subst p1 p2
    rcases hu with hu | hu
    · subst hu
      refine ⟨n, M, ?_, by rw [zpd_0, List.append_nil]; exact H⟩
      unfold f_X5_endOperand
      simp (disch := omega) only [z_jn, z_eq_t]
    · subst hu
      obtain ⟨M2, b1, b2⟩ := c_add H (m := 11) (by unfold zv; omega) (by simp; omega)
      refine ⟨n + 1, M2, ?_, by rw [zpd_1]; simpa using b2⟩
      unfold f_X5_endOperand
      simp (disch := omega) only [z_jn, z_eq_t, z_eq_f, b1, z_bd, z_gB]
  · subst p1 p2
    simp only [List.length_append, List.length_cons, List.length_nil] at hn hr
    obtain ⟨M1, a1, a2⟩ := c_remove (N := 360) (n := n) (F := M) (X := A ++ 5 :: G) (Y := [15]) (Z := []) (by simpa using H) (x := n - 1) (y := n) (by simp; omega) (by simp; omega)
    obtain ⟨M2, b1, b2⟩ := c_remove (N := 360) (n := n - ([15] : List Int).length) (F := M1) (X := A) (Y := [5]) (Z := G) (by simpa using a2) (x := fa) (y := fa + 1) hfa (by simp; omega)
    rcases hu with hu | hu
    · subst hu
      refine ⟨_, M2, ?_, by rw [zpd_0, List.append_nil]; exact b2⟩
      unfold f_X5_endOperand
      simp (disch := omega) only [z_jn, z_eq_t, z_eq_f, a1, b1, z_bd, z_gB]
    · subst hu
      obtain ⟨M3, c1, c2⟩ := c_add b2 (m := 11) (by unfold zv; omega) (by simp; omega)
      refine ⟨_, M3, ?_, by rw [zpd_1, ← List.append_assoc]; exact c2⟩
      unfold f_X5_endOperand
      simp (disch := omega) only [z_jn, z_eq_t, z_eq_f, a1, b1, c1, z_bd, z_gB]
