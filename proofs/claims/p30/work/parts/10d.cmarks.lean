/-! the class's lines: items, counts -/
section zcy
variable {N : Nat} {n : Int} {F : Nat → Int} {L : List Int}
theorem c_ie_loop (H : zCx N n F L) {e : Int × Int → Option Int} (he : ∀ d, e (d, n) = some n) : ∀ (T A : List Int) (fu : Nat) (d y : Int), L = A ++ T → T.length < fu → y = (A.length : Int) → (-(A.length : Int) ≤ d ∧ d ≤ A.length) → f_X3_itemEnd_4 N n F e fu d y = some ((A.length : Int) + zie d T)
  | _, _, 0, _, _, _, hf, _, _ => by omega
  | [], A, fu + 1, d, y, hL, hf, hy, hd => by
    have hn : n = y := by rw [H.1.1, hL]; simp; omega
    have h3 := H.1
    subst hn
    simp (disch := omega) only [f_X3_itemEnd_4, z_lt_f, he, zie]
    exact congrArg some (by omega)
  | m :: T, A, fu + 1, d, y, hL, hf, hy, hd => by
    obtain ⟨hm, hv, hb⟩ := H.at hL hy
    have ih : ∀ d' : Int, (-(A.length : Int) - 1 ≤ d' ∧ d' ≤ A.length + 1) → f_X3_itemEnd_4 N n F e fu d' (y + 1) = some ((A.length : Int) + 1 + zie d' T) := fun d' hd' => by
      have := c_ie_loop H he T (A ++ [m]) fu d' (y + 1) (by rw [hL]; simp) (by simp at hf; omega) (by simp; omega) (by simp; omega)
      rw [this]; simp
    have ho := zop_b m
    have hv2 := zv_rc hv
    by_cases h0 : d + zop m ≤ 0 <;> simp (disch := omega) only [f_X3_itemEnd_4, z_lt_t, z_lt_f, hm, z_bd, c_op, ih, zie, if_pos, if_neg] <;> exact congrArg some (by omega)
theorem c_is_loop (H : zCx N n F L) {e : Int × Int → Option Int} (he : ∀ d y, e (d, y) = some 0) : ∀ (R B : List Int) (fu : Nat) (d y : Int), L = R.reverse ++ B → R.length < fu → y = (R.length : Int) - 1 → (-(B.length : Int) ≤ d ∧ d ≤ B.length) → f_X3_itemStart_6 N n F e fu d y = some ((R.length : Int) - zis d R)
  | _, _, 0, _, _, _, hf, _, _ => by omega
  | [], B, fu + 1, d, y, hL, hf, hy, hd => by
    simp only [List.length_nil] at hy
    simp (disch := omega) only [f_X3_itemStart_6, z_lt_t, he, zis]
    rfl
  | m :: R, B, fu + 1, d, y, hL, hf, hy, hd => by
    have hL2 : L = R.reverse ++ m :: B := by rw [hL]; simp
    simp only [List.length_cons] at hy hf
    obtain ⟨hm, hv, hb⟩ := H.at hL2 (x := y) (by simp; omega)
    rw [List.length_reverse] at hb
    have ih : ∀ d' : Int, (-(B.length : Int) - 1 ≤ d' ∧ d' ≤ B.length + 1) → f_X3_itemStart_6 N n F e fu d' (y + (-1)) = some ((R.length : Int) - zis d' R) := fun d' hd' => 
      c_is_loop H he R (m :: B) fu d' (y + (-1)) hL2 (by omega) (by omega) (by simp; omega)
    have ho := zop_b m
    have hv2 := zv_rc hv
    by_cases h0 : d - zop m ≤ 0 <;> simp (disch := omega) only [f_X3_itemStart_6, z_lt_t, z_lt_f, hm, z_bd, c_op, ih, zis, if_pos, if_neg, List.length_cons] <;> exact congrArg some (by omega)
theorem c_ss_loop (H : zCx N n F L) {e : Int × Int → Option Int} (he : ∀ d, e (d, n) = some n) : ∀ (T A : List Int) (fu : Nat) (d y : Int), L = A ++ T → T.length < fu → y = (A.length : Int) → (-(A.length : Int) ≤ d ∧ d ≤ A.length) → f_X3_secondSlot_4 N n F e fu d y = some ((A.length : Int) + zss d T)
  | _, _, 0, _, _, _, hf, _, _ => by omega
  | [], A, fu + 1, d, y, hL, hf, hy, hd => by
    have hn : n = y := by rw [H.1.1, hL]; simp; omega
    have h3 := H.1
    subst hn
    simp (disch := omega) only [f_X3_secondSlot_4, z_lt_f, he, zss]
    exact congrArg some (by omega)
  | m :: T, A, fu + 1, d, y, hL, hf, hy, hd => by
    obtain ⟨hm, hv, hb⟩ := H.at hL hy
    have ih : ∀ d' : Int, (-(A.length : Int) - 1 ≤ d' ∧ d' ≤ A.length + 1) → f_X3_secondSlot_4 N n F e fu d' (y + 1) = some ((A.length : Int) + 1 + zss d' T) := fun d' hd' => by
      have := c_ss_loop H he T (A ++ [m]) fu d' (y + 1) (by rw [hL]; simp) (by simp at hf; omega) (by simp; omega) (by simp; omega)
      rw [this]; simp
    have ho := zop_b m
    have hv2 := zv_rc hv
    by_cases h0 : d = 1 <;> by_cases h6 : m = 6 <;> simp (disch := omega) only [f_X3_secondSlot_4, z_lt_t, z_eq_t, z_eq_f, hm, z_bd, z_jn, c_op, ih, zss, if_pos, if_neg] <;> exact congrArg some (by omega)
theorem c_ct_loop (H : zCx N n F L) {e : Int × Int → Option Int} {x2 : Int} (B : List Int) : ∀ (S A : List Int) (fu : Nat) (y3 y : Int), L = A ++ (S ++ B) → S.length < fu → y = (A.length : Int) → x2 = (A.length : Int) + S.length → f_X3_countItems_5 N n F x2 e fu y3 y = e (y3 + zcnt S, x2)
  | _, _, 0, _, _, _, hf, _, _ => by omega
  | [], A, fu + 1, y3, y, hL, hf, hy, hx => by
    have hl : L.length = A.length + B.length := by rw [hL]; simp
    have h3 := H.1
    simp only [List.length_nil] at hx
    have e2 : y = x2 := by omega
    subst e2
    simp (disch := omega) only [f_X3_countItems_5, z_lt_f, zcnt]
    rw [show y3 + ((0 : Nat) : Int) = y3 by omega]
  | m :: S, A, fu + 1, y3, y, hL, hf, hy, hx => by
    obtain ⟨hm, hv, hb⟩ := H.at (A := A) (m := m) (T := S ++ B) hL hy
    simp only [List.length_cons, List.length_append] at hx hf hb
    have ih : ∀ z, f_X3_countItems_5 N n F x2 e fu z (y + 1) = e (z + zcnt S, x2) := fun z =>
      c_ct_loop H B S (A ++ [m]) fu z (y + 1) (by rw [hL]; simp) (by omega) (by simp; omega) (by simp; omega)
    have hv2 := zv_rc hv
    by_cases h0 : (1 ≤ m ∧ m ≤ 5) ∨ 42 ≤ m
    · have e1 : zsi m = true := by simp only [zsi, decide_eq_true_eq]; exact h0
      simp (disch := omega) only [f_X3_countItems_5, z_lt_t, z_eq_t, z_eq_f, hm, z_bd, z_jn, c_st_t, c_st_f, ih, zcnt, e1, if_true]
      rw [show y3 + 1 + (zcnt S : Int) = y3 + ((1 + zcnt S : Nat) : Int) by omega]
    · have e1 : zsi m = false := by simp only [zsi, decide_eq_false_iff_not]; exact h0
      simp (disch := omega) only [f_X3_countItems_5, z_lt_t, z_eq_t, z_eq_f, hm, z_bd, z_jn, c_st_t, c_st_f, ih, zcnt, e1]
      simp
theorem c_ri_loop (H : zCx N n F L) {e : Int × Int × Int → Option Int} (he : ∀ z d, ∀ y, e (z, d, y) = some z) {x2 : Int} (B : List Int) : ∀ (S A : List Int) (fu : Nat) (y3 d y : Int), L = A ++ (S ++ B) → S.length < fu → y = (A.length : Int) → x2 = (A.length : Int) + S.length → (-(A.length : Int) ≤ d ∧ d ≤ A.length) → f_X3_rowItems_8 N n F x2 e fu y3 d y = some (y3 + zni d S)
  | _, _, 0, _, _, _, _, hf, _, _, _ => by omega
  | [], A, fu + 1, y3, d, y, hL, hf, hy, hx, hd => by
    have hl : L.length = A.length + B.length := by rw [hL]; simp
    have h3 := H.1
    simp only [List.length_nil] at hx
    simp (disch := omega) only [f_X3_rowItems_8, z_lt_f, zni, he]
    exact congrArg some (by omega)
  | m :: S, A, fu + 1, y3, d, y, hL, hf, hy, hx, hd => by
    obtain ⟨hm, hv, hb⟩ := H.at (A := A) (m := m) (T := S ++ B) hL hy
    simp only [List.length_cons, List.length_append] at hx hf hb
    have ih : ∀ z (d' : Int), (-(A.length : Int) - 1 ≤ d' ∧ d' ≤ A.length + 1) → f_X3_rowItems_8 N n F x2 e fu z d' (y + 1) = some (z + zni d' S) := fun z d' hd' =>
      c_ri_loop H he B S (A ++ [m]) fu z d' (y + 1) (by rw [hL]; simp) (by omega) (by simp; omega) (by simp; omega) (by simp; omega)
    have ho := zop_b m
    have hv2 := zv_rc hv
    by_cases h0 : (1 ≤ m ∧ m ≤ 5) ∨ 42 ≤ m
    · have e1 : zsi m = true := by simp only [zsi, decide_eq_true_eq]; exact h0
      by_cases h1 : d = 0 <;> simp (disch := omega) only [f_X3_rowItems_8, z_lt_t, z_eq_t, z_eq_f, hm, z_bd, z_jn, c_st_t, c_st_f, c_op, ih, zni, e1, and_true, if_pos, if_neg] <;> exact congrArg some (by omega)
    · have e1 : zsi m = false := by simp only [zsi, decide_eq_false_iff_not]; exact h0
      by_cases h1 : d = 0 <;> simp (disch := omega) only [f_X3_rowItems_8, z_lt_t, z_eq_t, z_eq_f, hm, z_bd, z_jn, c_st_t, c_st_f, c_op, ih, zni, e1, Bool.false_eq_true, and_false, if_false] <;> exact congrArg some (by omega)
theorem c_lv_loop (H : zCx N n F L) {e : Int × Int → Option Int} (he : ∀ z y, e (z, y) = some z) {x1 : Int} (B : List Int) : ∀ (S A : List Int) (fu : Nat) (d y : Int), L = A ++ (S ++ B) → S.length < fu → y = (A.length : Int) → x1 = (A.length : Int) + S.length → f_X3_levelOf_4 N n F x1 e fu d y = some (d + zlv S)
  | _, _, 0, _, _, _, hf, _, _ => by omega
  | [], A, fu + 1, d, y, hL, hf, hy, hx => by
    have hl : L.length = A.length + B.length := by rw [hL]; simp
    have h3 := H.1
    simp only [List.length_nil] at hx
    simp (disch := omega) only [f_X3_levelOf_4, z_lt_f, zlv, he]
    exact congrArg some (by omega)
  | m :: S, A, fu + 1, d, y, hL, hf, hy, hx => by
    obtain ⟨hm, hv, hb⟩ := H.at (A := A) (m := m) (T := S ++ B) hL hy
    simp only [List.length_cons, List.length_append] at hx hf hb
    have ih : ∀ (d' : Int), f_X3_levelOf_4 N n F x1 e fu d' (y + 1) = some (d' + zlv S) := fun d' =>
      c_lv_loop H he B S (A ++ [m]) fu d' (y + 1) (by rw [hL]; simp) (by omega) (by simp; omega) (by simp; omega)
    have hv2 := zv_rc hv
    simp (disch := omega) only [f_X3_levelOf_4, z_lt_t, hm, z_bd, c_op, ih, zlv]
    exact congrArg some (by omega)
theorem c_dp_loop (H : zCx N n F L) {e : Int × Int × Int → Option Int} (he : ∀ z d y, e (z, d, y) = some d) {x1 : Int} (B : List Int) : ∀ (S A : List Int) (fu : Nat) (d b y : Int), L = A ++ (S ++ B) → S.length < fu → y = (A.length : Int) → x1 = (A.length : Int) + S.length → (-(A.length : Int) ≤ d ∧ d ≤ A.length ∧ -(A.length : Int) ≤ b ∧ b ≤ A.length) → f_X3_depth_8 N n F x1 e fu d b y = some (zmx d b S)
  | _, _, 0, _, _, _, _, hf, _, _, _ => by omega
  | [], A, fu + 1, d, b, y, hL, hf, hy, hx, hd => by
    have hl : L.length = A.length + B.length := by rw [hL]; simp
    have h3 := H.1
    simp only [List.length_nil] at hx
    simp (disch := omega) only [f_X3_depth_8, z_lt_f, zmx, he]
  | m :: S, A, fu + 1, d, b, y, hL, hf, hy, hx, hd => by
    obtain ⟨hm, hv, hb⟩ := H.at (A := A) (m := m) (T := S ++ B) hL hy
    simp only [List.length_cons, List.length_append] at hx hf hb
    have ho := zop_b m
    have ih : ∀ (d' b' : Int), (-(A.length : Int) - 1 ≤ d' ∧ d' ≤ A.length + 1 ∧ -(A.length : Int) - 1 ≤ b' ∧ b' ≤ A.length + 1) → f_X3_depth_8 N n F x1 e fu d' b' (y + 1) = some (zmx d' b' S) := fun d' b' hd' =>
      c_dp_loop H he B S (A ++ [m]) fu d' b' (y + 1) (by rw [hL]; simp) (by omega) (by simp; omega) (by simp; omega) (by simp; omega)
    have hv2 := zv_rc hv
    have hx3 := mx_s b (d + zop m)
    simp (disch := omega) only [f_X3_depth_8, z_lt_t, hm, z_bd, z_gR, c_op, ih, zmx]
theorem c_itemEnd (H : zCx N n F L) {A T : List Int} (hL : L = A ++ T) {x : Int} (hx : x = (A.length : Int)) : f_X3_itemEnd N n F x = some ((A.length : Int) + zie 0 T) := by
  have hl : L.length = A.length + T.length := by rw [hL]; simp
  have h1 := H.1
  exact c_ie_loop H (fun _ => rfl) T A fuel 0 x hL (by unfold fuel; omega) hx (by omega)
theorem c_itemStart (H : zCx N n F L) {A T : List Int} (hL : L = A ++ T) {x : Int} (hx : x = (A.length : Int)) : f_X3_itemStart N n F x = some ((A.length : Int) - zis 0 A.reverse) := by
  have hl : L.length = A.length + T.length := by rw [hL]; simp
  have h1 := H.1
  have := c_is_loop H (e := fun (z3 : Int × Int) => some 0) (fun _ _ => rfl) A.reverse T fuel 0 (x - 1) (by rw [List.reverse_reverse]; exact hL) (by unfold fuel; simp; omega) (by simp; omega) (by omega)
  rw [List.length_reverse] at this
  exact this
theorem c_secondSlot (H : zCx N n F L) {A T : List Int} (hL : L = A ++ T) {x : Int} (hx : x = (A.length : Int)) : f_X3_secondSlot N n F x = some ((A.length : Int) + zss 0 T) := by
  have hl : L.length = A.length + T.length := by rw [hL]; simp
  have h1 := H.1
  exact c_ss_loop H (fun _ => rfl) T A fuel 0 x hL (by unfold fuel; omega) hx (by omega)
theorem c_count (H : zCx N n F L) {A S B : List Int} (hL : L = A ++ (S ++ B)) {x y : Int} (hx : x = (A.length : Int)) (hy : y = (A.length : Int) + S.length) : f_X3_countItems N n F x y = some (zcnt S : Int) := by
  have hl : L.length = A.length + (S.length + B.length) := by rw [hL]; simp
  have h1 := H.1
  have := c_ct_loop H (e := fun (z5 : Int × Int) => some z5.1) (x2 := y) B S A fuel 0 x hL (by unfold fuel; omega) hx hy
  simpa [f_X3_countItems] using this
theorem c_rowItems (H : zCx N n F L) {A S B : List Int} (hL : L = A ++ (S ++ B)) {x y : Int} (hx : x = (A.length : Int)) (hy : y = (A.length : Int) + S.length) : f_X3_rowItems N n F x y = some (zni 0 S : Int) := by
  have hl : L.length = A.length + (S.length + B.length) := by rw [hL]; simp
  have h1 := H.1
  have := c_ri_loop H (e := fun (z6 : Int × Int × Int) => some z6.1) (fun _ _ _ => rfl) (x2 := y) B S A fuel 0 0 x hL (by unfold fuel; omega) hx hy (by omega)
  simpa [f_X3_rowItems] using this
theorem c_level (H : zCx N n F L) {A B : List Int} (hL : L = A ++ B) {x : Int} (hx : x = (A.length : Int)) : f_X3_levelOf N n F x = some (zlv A) := by
  have hl : L.length = A.length + B.length := by rw [hL]; simp
  have h1 := H.1
  have := c_lv_loop H (e := fun (z3 : Int × Int) => some z3.1) (fun _ _ => rfl) (x1 := x) B A [] fuel 0 0 hL (by unfold fuel; omega) rfl (by simpa using hx)
  simpa [f_X3_levelOf] using this
theorem c_depth (H : zCx N n F L) {A S B : List Int} (hL : L = A ++ (S ++ B)) {x y : Int} (hx : x = (A.length : Int)) (hy : y = (A.length : Int) + S.length) : f_X3_depth N n F x y = some (zmx 0 0 S) := by
  have hl : L.length = A.length + (S.length + B.length) := by rw [hL]; simp
  have h1 := H.1
  exact c_dp_loop H (e := fun (z3 : Int × Int × Int) => some z3.2.1) (fun _ _ _ => rfl) (x1 := y) B S A fuel 0 0 x hL (by unfold fuel; omega) hx hy (by omega)
end zcy
