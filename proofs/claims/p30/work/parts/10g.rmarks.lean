/-! the reference's lines: items, counts -/
section zry
variable {N : Nat} {F : Nat → Int} {L : List Int}
/-- an item's end, its first mark given -/
theorem r_itemEnd (H : zRx N F L) {A X T : List Int} (hL : L = A ++ (X ++ T)) (hX : zit X) {x : Int} (hx : x = (A.length : Int)) : f_X8_itemEnd N F x = some ((A.length : Int) + X.length) := by
  rcases zit_form hX with ⟨m, rfl, a, b⟩ | ⟨o, c, Y, rfl, a, b, rfl, hY⟩
  · obtain ⟨hm, hv, hb⟩ := H.at (A := A) (m := m) (T := T) hL hx
    rw [zr_sy a] at hm
    unfold f_X8_itemEnd
    simp (disch := omega) only [z_in, hm, r_bg_f, z_bd, z_jn, z_eq_t]
    exact congrArg some (by simp; omega)
  · obtain ⟨hm, hv, hb⟩ := H.at (A := A) (m := o) (T := Y ++ [o + 10] ++ T) (by simpa using hL) hx
    rw [zr_op ⟨a, b⟩] at hm
    have e1 : zeo 0 (Y ++ (o + 10) :: T) = Y.length := by
      rw [zeo_dr _ (Int.le_refl 0) hY]
      simp only [zeo]
      rw [if_pos (by omega)]; rfl
    have e2 := r_endOf H (A := A ++ [o]) (T := Y ++ (o + 10) :: T) (by rw [hL]; simp) (x := x + 1) (by simp; omega) (by rw [e1]; simp)
    rw [e1] at e2
    unfold f_X8_itemEnd
    simp (disch := omega) only [z_in, hm, r_bg_t, z_bd, z_jn, z_eq_f, e2]
    exact congrArg some (by simp; omega)
/-- an item's start, at its end -/
theorem r_itemStart (H : zRx N F L) {A X T : List Int} (hL : L = A ++ (X ++ T)) (hX : zit X) {x : Int} (hx : x = (A.length : Int) + X.length) : f_X8_itemStart N F x = some (A.length : Int) := by
  rcases zit_form hX with ⟨m, rfl, a, b⟩ | ⟨o, c, Y, rfl, a, b, rfl, hY⟩
  · simp only [List.length_cons, List.length_nil] at hx
    obtain ⟨hm, hv, hb⟩ := H.at (A := A) (m := m) (T := T) hL (x := x - 1) (by omega)
    rw [zr_sy a] at hm
    unfold f_X8_itemStart
    simp (disch := omega) only [z_in, hm, z_jn, z_eq_f]
    exact congrArg some (by omega)
  · simp only [List.length_cons, List.length_append, List.length_nil] at hx
    obtain ⟨hm, hv, hb⟩ := H.at (A := A ++ o :: Y) (m := o + 10) (T := T) (by rw [hL]; simp) (x := x - 1) (by simp; omega)
    rw [zr_cl (by omega)] at hm
    have e1 : zbo 0 (A ++ o :: Y).reverse = Y.length := by
      rw [List.reverse_append, List.reverse_cons, List.append_assoc, zbo_dr _ (Int.le_refl 0) hY]
      simp only [List.singleton_append, zbo]
      rw [if_pos (by omega)]; rfl
    have e2 := r_beginOf H (A := A ++ o :: Y) (T := (o + 10) :: T) (by rw [hL]; simp) (x := x - 1) (by simp; omega) (by rw [e1]; simp; omega)
    rw [e1] at e2
    unfold f_X8_itemStart
    simp (disch := omega) only [z_in, hm, z_jn, z_eq_t, e2, z_bd]
    exact congrArg some (by simp; omega)
theorem r_ii_loop (H : zRx N F L) {e : Int × Int → Option Int} (he : ∀ z y, e (z, y) = some z) {x2 : Int} (B : List Int) : ∀ (k : Nat) (S A : List Int) (fu : Nat) (z y : Int), S.length ≤ k → zbal S → L = A ++ (S ++ B) → S.length < fu → y = (A.length : Int) → x2 = (A.length : Int) + S.length → f_X8_itemsIn_5 N F x2 e fu z y = some (z + zni 0 S)
  | k, S, A, 0, z, y, hk, hS, hL, hf, hy, hx => by omega
  | k, S, A, fu + 1, z, y, hk, hS, hL, hf, hy, hx => by
    have hl : L.length = A.length + (S.length + B.length) := by rw [hL]; simp
    have h3 := H.2.2.2
    by_cases hn : S = []
    · subst hn
      simp only [List.length_nil] at hx
      simp (disch := omega) only [f_X8_itemsIn_5, z_lt_f, he, zni]
      exact congrArg some (by omega)
    · obtain ⟨X, R, rfl, hX, hR⟩ := zitF hS hn
      have hlx := zit_ne hX
      simp only [List.length_append] at hk hf hx hl
      have e1 := r_itemEnd H (A := A) (X := X) (T := R ++ B) (by rw [hL]; simp) hX hy
      cases k with
      | zero => omega
      | succ k =>
        have ih := r_ii_loop H he (x2 := x2) B k R (A ++ X) fu (z + 1) ((A.length : Int) + X.length) (by omega) hR (by rw [hL]; simp) (by omega) (by simp) (by simp; omega)
        simp (disch := omega) only [f_X8_itemsIn_5, z_lt_t, e1, z_bd, ih]
        rw [zni_it _ hX]
        exact congrArg some (by simp; omega)
theorem r_itemsIn (H : zRx N F L) {A S B : List Int} (hL : L = A ++ (S ++ B)) (hS : zbal S) {x y : Int} (hx : x = (A.length : Int)) (hy : y = (A.length : Int) + S.length) : f_X8_itemsIn N F x y = some (zni 0 S : Int) := by
  have hl : L.length = A.length + (S.length + B.length) := by rw [hL]; simp
  have h1 := H.2.2.2
  have := r_ii_loop H (e := fun (z2 : Int × Int) => some z2.1) (fun _ _ => rfl) (x2 := y) B S.length S A fuel 0 x (Nat.le_refl _) hS hL (by unfold fuel; omega) hx hy
  simpa [f_X8_itemsIn] using this
theorem r_al_loop (H : zRx N F L) {e : Int × Int → Option Int} (he : ∀ z y, e (z, y) = some z) {x2 : Int} (B : List Int) : ∀ (S A : List Int) (fu : Nat) (z y : Int), L = A ++ (S ++ B) → S.length < fu → y = (A.length : Int) → x2 = (A.length : Int) + S.length → f_X8_allIn_5 N F x2 e fu z y = some (z + zcnt S)
  | _, _, 0, _, _, _, hf, _, _ => by omega
  | [], A, fu + 1, z, y, hL, hf, hy, hx => by
    have hl : L.length = A.length + B.length := by rw [hL]; simp
    have h3 := H.2.2.2
    simp only [List.length_nil] at hx
    simp (disch := omega) only [f_X8_allIn_5, z_lt_f, he, zcnt]
    exact congrArg some (by omega)
  | m :: S, A, fu + 1, z, y, hL, hf, hy, hx => by
    obtain ⟨hm, hv, hb⟩ := H.at (A := A) (m := m) (T := S ++ B) hL hy
    simp only [List.length_cons, List.length_append] at hx hf hb
    have ih : ∀ z', f_X8_allIn_5 N F x2 e fu z' (y + 1) = some (z' + zcnt S) := fun z' =>
      r_al_loop H he B S (A ++ [m]) fu z' (y + 1) (by rw [hL]; simp) (by omega) (by simp; omega) (by simp; omega)
    rcases zv_rc hv with k | k | k | k
    · rw [zr_sy k.1] at hm
      have e1 : zsi m = true := by simp only [zsi, decide_eq_true_eq]; omega
      simp (disch := omega) only [f_X8_allIn_5, z_lt_t, z_in, z_jn, hm, ih, zcnt, e1, if_true]
      exact congrArg some (by omega)
    · rw [zr_op k] at hm
      have e1 : zsi m = true := by simp only [zsi, decide_eq_true_eq]; omega
      simp (disch := omega) only [f_X8_allIn_5, z_lt_t, z_lt_f, z_in, z_jn, hm, r_bg_t, z_bd, z_eq_f, ih, zcnt, e1, if_true]
      exact congrArg some (by omega)
    · subst k
      rw [zr_6] at hm
      have e1 : zsi 6 = false := by decide
      simp (disch := omega) only [f_X8_allIn_5, z_lt_t, z_lt_f, z_in, z_jn, hm, r_bg_f, z_bd, z_eq_t, ih, zcnt, e1]
      exact congrArg some (by simp)
    · rw [zr_cl k] at hm
      have e1 : zsi m = false := by simp only [zsi, decide_eq_false_iff_not]; omega
      simp (disch := omega) only [f_X8_allIn_5, z_lt_t, z_lt_f, z_in, z_jn, hm, r_bg_f, z_bd, z_eq_t, ih, zcnt, e1]
      exact congrArg some (by simp)
theorem r_all (H : zRx N F L) {A S B : List Int} (hL : L = A ++ (S ++ B)) {x y : Int} (hx : x = (A.length : Int)) (hy : y = (A.length : Int) + S.length) : f_X8_allIn N F x y = some (zcnt S : Int) := by
  have hl : L.length = A.length + (S.length + B.length) := by rw [hL]; simp
  have h1 := H.2.2.2
  have := r_al_loop H (e := fun (z6 : Int × Int) => some z6.1) (fun _ _ => rfl) (x2 := y) B S A fuel 0 x hL (by unfold fuel; omega) hx hy
  simpa [f_X8_allIn] using this
theorem r_lv_loop (H : zRx N F L) {e : Int × Int → Option Int} (he : ∀ z y, e (z, y) = some z) {x1 : Int} (B : List Int) : ∀ (S A : List Int) (fu : Nat) (d y : Int), L = A ++ (S ++ B) → S.length < fu → y = (A.length : Int) → x1 = (A.length : Int) + S.length → f_X8_levelAt_4 N F x1 e fu d y = some (d + zlv S)
  | _, _, 0, _, _, _, hf, _, _ => by omega
  | [], A, fu + 1, d, y, hL, hf, hy, hx => by
    have hl : L.length = A.length + B.length := by rw [hL]; simp
    have h3 := H.2.2.2
    simp only [List.length_nil] at hx
    simp (disch := omega) only [f_X8_levelAt_4, z_lt_f, zlv, he]
    exact congrArg some (by omega)
  | m :: S, A, fu + 1, d, y, hL, hf, hy, hx => by
    obtain ⟨hm, hv, hb⟩ := H.at (A := A) (m := m) (T := S ++ B) hL hy
    simp only [List.length_cons, List.length_append] at hx hf hb
    have ih : ∀ (d' : Int), f_X8_levelAt_4 N F x1 e fu d' (y + 1) = some (d' + zlv S) := fun d' =>
      r_lv_loop H he B S (A ++ [m]) fu d' (y + 1) (by rw [hL]; simp) (by omega) (by simp; omega) (by simp; omega)
    rcases zv_rc hv with k | k | k | k
    · rw [zr_sy k.1] at hm
      simp (disch := omega) only [f_X8_levelAt_4, z_lt_t, z_in, z_jn, hm, r_bg_f, z_bd, z_eq_t, z_eq_f, ih, zlv, zop_sy]
      exact congrArg some (by omega)
    · rw [zr_op k] at hm
      simp (disch := omega) only [f_X8_levelAt_4, z_lt_t, z_in, z_jn, hm, r_bg_t, z_bd, z_eq_t, z_eq_f, ih, zlv, zop_op]
      exact congrArg some (by omega)
    · subst k
      rw [zr_6] at hm
      simp (disch := omega) only [f_X8_levelAt_4, z_lt_t, z_in, z_jn, hm, r_bg_f, z_bd, z_eq_t, z_eq_f, ih, zlv, zop_6]
      exact congrArg some (by omega)
    · rw [zr_cl k] at hm
      simp (disch := omega) only [f_X8_levelAt_4, z_lt_t, z_in, z_jn, hm, r_bg_f, z_bd, z_eq_t, z_eq_f, ih, zlv, zop_cl]
      exact congrArg some (by omega)
theorem r_dp_loop (H : zRx N F L) {e : Int × Int × Int → Option Int} (he : ∀ z d y, e (z, d, y) = some d) {x1 : Int} (B : List Int) : ∀ (S A : List Int) (fu : Nat) (d b y : Int), L = A ++ (S ++ B) → S.length < fu → y = (A.length : Int) → x1 = (A.length : Int) + S.length → (-(A.length : Int) ≤ d ∧ d ≤ A.length ∧ -(A.length : Int) ≤ b ∧ b ≤ A.length) → f_X8_deepest_8 N F x1 e fu d b y = some (zmx d b S)
  | _, _, 0, _, _, _, _, hf, _, _, _ => by omega
  | [], A, fu + 1, d, b, y, hL, hf, hy, hx, hd => by
    have hl : L.length = A.length + B.length := by rw [hL]; simp
    have h3 := H.2.2.2
    simp only [List.length_nil] at hx
    simp (disch := omega) only [f_X8_deepest_8, z_lt_f, zmx, he]
  | m :: S, A, fu + 1, d, b, y, hL, hf, hy, hx, hd => by
    obtain ⟨hm, hv, hb⟩ := H.at (A := A) (m := m) (T := S ++ B) hL hy
    simp only [List.length_cons, List.length_append] at hx hf hb
    have ih : ∀ (d' b' : Int), (-(A.length : Int) - 1 ≤ d' ∧ d' ≤ A.length + 1 ∧ -(A.length : Int) - 1 ≤ b' ∧ b' ≤ A.length + 1) → f_X8_deepest_8 N F x1 e fu d' b' (y + 1) = some (zmx d' b' S) := fun d' b' hd' =>
      r_dp_loop H he B S (A ++ [m]) fu d' b' (y + 1) (by rw [hL]; simp) (by omega) (by simp; omega) (by simp; omega) (by simp; omega)
    rcases zv_rc hv with k | k | k | k
    · rw [zr_sy k.1] at hm
      by_cases h0 : b < d + 0 <;> simp (disch := omega) only [f_X8_deepest_8, z_lt_t, z_lt_f, z_in, z_jn, hm, r_bg_f, z_bd, z_eq_t, z_eq_f, ih, zmx, zop_sy, mx_t, mx_f]
    · rw [zr_op k] at hm
      by_cases h0 : b < d + 1 <;> simp (disch := omega) only [f_X8_deepest_8, z_lt_t, z_lt_f, z_in, z_jn, hm, r_bg_t, z_bd, z_eq_t, z_eq_f, ih, zmx, zop_op, mx_t, mx_f]
    · subst k
      rw [zr_6] at hm
      by_cases h0 : b < d + 0 <;> simp (disch := omega) only [f_X8_deepest_8, z_lt_t, z_lt_f, z_in, z_jn, hm, r_bg_f, z_bd, z_eq_t, z_eq_f, ih, zmx, zop_6, mx_t, mx_f]
    · rw [zr_cl k] at hm
      by_cases h0 : b < d + -1 <;> simp (disch := omega) only [f_X8_deepest_8, z_lt_t, z_lt_f, z_in, z_jn, hm, r_bg_f, z_bd, z_eq_t, z_eq_f, ih, zmx, zop_cl, mx_t, mx_f]
theorem r_level (H : zRx N F L) {A B : List Int} (hL : L = A ++ B) {x : Int} (hx : x = (A.length : Int)) : f_X8_levelAt N F x = some (zlv A) := by
  have hl : L.length = A.length + B.length := by rw [hL]; simp
  have h1 := H.2.2.2
  have := r_lv_loop H (e := fun (z4 : Int × Int) => some z4.1) (fun _ _ => rfl) (x1 := x) B A [] fuel 0 0 hL (by unfold fuel; omega) rfl (by simpa using hx)
  simpa [f_X8_levelAt] using this
theorem r_depth (H : zRx N F L) {A S B : List Int} (hL : L = A ++ (S ++ B)) {x y : Int} (hx : x = (A.length : Int)) (hy : y = (A.length : Int) + S.length) : f_X8_deepest N F x y = some (zmx 0 0 S) := by
  have hl : L.length = A.length + (S.length + B.length) := by rw [hL]; simp
  have h1 := H.2.2.2
  exact r_dp_loop H (e := fun (z6 : Int × Int × Int) => some z6.2.1) (fun _ _ _ => rfl) (x1 := y) B S A fuel 0 0 x hL (by unfold fuel; omega) hx hy (by omega)
end zry
