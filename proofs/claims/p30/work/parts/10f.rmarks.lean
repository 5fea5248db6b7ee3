/-! the reference's lines: mirrors are scans -/
def zr (m : Int) : Int := if 42 ≤ m then m else if m = 6 then -10 else if 10 < m then -11 else -m
theorem zr_sy {m : Int} (h : 42 ≤ m) : zr m = m := if_pos h
theorem zr_op {m : Int} (h : 1 ≤ m ∧ m ≤ 5) : zr m = -m := by unfold zr; rw [if_neg (by omega), if_neg (by omega), if_neg (by omega)]
theorem zr_6 : zr 6 = -10 := by decide
theorem zr_cl {m : Int} (h : 11 ≤ m ∧ m ≤ 15) : zr m = -11 := by unfold zr; rw [if_neg (by omega), if_neg (by omega), if_pos (by omega)]
theorem r_bg_t {m : Int} (h : -10 < m ∧ m < 0) : f_X8_isBegin m = some 1 := by
  unfold f_X8_isBegin
  simp (disch := omega) only [z_lt_t, z_lt_f, z_jn, z_gB]
theorem r_bg_f {m : Int} (h : (-2147483648 ≤ m ∧ m ≤ 2147483647) ∧ ¬ (-10 < m ∧ m < 0)) : f_X8_isBegin m = some 0 := by
  unfold f_X8_isBegin
  by_cases h1 : m < 0
  · simp (disch := omega) only [z_lt_t, z_lt_f, z_jn, z_gB]
  · simp (disch := omega) only [z_lt_t, z_lt_f, z_jn, z_gB]
def zR (F : Nat → Int) (L : List Int) : Prop := ∀ (A : List Int) (m : Int) (T : List Int), L = A ++ m :: T → F A.length = zr m
theorem zR_iff {F : Nat → Int} {L : List Int} : zR F L ↔ ∀ i, i < L.length → F i = zr (L.getD i 0) := by
  constructor
  · intro h i hi
    have e := h (L.take i) (L.getD i 0) (L.drop (i + 1)) (by
      rw [List.getD_eq_getElem?_getD, List.getElem?_eq_getElem hi, Option.getD_some, ← List.drop_eq_getElem_cons hi, List.take_append_drop])
    rw [List.length_take, Nat.min_eq_left (by omega)] at e
    exact e
  · intro h A m T e
    have := h A.length (by rw [e]; simp)
    rw [this, e]
    simp
/-- a stretch of the reference's cells -/
def zRx (N : Nat) (F : Nat → Int) (L : List Int) : Prop := (L.length ≤ N ∧ N ≤ 3000) ∧ zR F L ∧ (∀ m ∈ L, zv m) ∧ L.length ≤ 1000
/-- a page: the line and its size -/
def zRy (N : Nat) (F : Nat → Int) (L : List Int) : Prop := zRx N F L ∧ F 180 = (L.length : Int) ∧ L.length ≤ 180 ∧ 184 ≤ N
/-- the depth-scan to an end -/
def zeo : Int → List Int → Nat
  | _, [] => 0
  | d, m :: t => if d ≤ 0 ∧ (11 ≤ m ∧ m ≤ 15) then 0 else zeo (d + zop m) t + 1
def zbo : Int → List Int → Nat
  | _, [] => 0
  | d, m :: t => if d ≤ 0 ∧ (1 ≤ m ∧ m ≤ 5) then 0 else zbo (d - zop m) t + 1
theorem zeo_b : ∀ (A : List Int) (d : Int), zeo d A ≤ A.length
  | [], d => by simp [zeo]
  | m :: A, d => by have := zeo_b A (d + zop m); simp only [zeo, List.length_cons]; split <;> omega
theorem zbo_b : ∀ (A : List Int) (d : Int), zbo d A ≤ A.length
  | [], d => by simp [zbo]
  | m :: A, d => by have := zbo_b A (d - zop m); simp only [zbo, List.length_cons]; split <;> omega
theorem zeo_dr : ∀ {A : List Int} {d d' : Int} (t : List Int), 0 ≤ d → zdr d A = some d' → zeo d (A ++ t) = A.length + zeo d' t
  | [], d, d', t, hd, h => by simp only [zdr] at h; rw [Option.some.inj h]; simp
  | m :: A, d, d', t, hd, h => by
    simp only [zdr] at h
    split at h
    · cases h
    · rename_i hq
      have ih := zeo_dr t (by omega) h
      simp only [List.cons_append, zeo, List.length_cons]
      rw [if_neg, ih]
      · omega
      · rintro ⟨e1, e2⟩
        rw [zop_cl e2] at hq; omega
theorem zbo_dr : ∀ {A : List Int} {d d' : Int} (t : List Int), 0 ≤ d → zdr d A = some d' → zbo d' (A.reverse ++ t) = A.length + zbo d t
  | [], d, d', t, hd, h => by simp only [zdr] at h; rw [Option.some.inj h]; simp
  | m :: A, d, d', t, hd, h => by
    simp only [zdr] at h
    split at h
    · cases h
    · rename_i hq
      have ih := zbo_dr (m :: t) (by omega) h
      rw [List.reverse_cons, List.append_assoc, List.singleton_append, ih]
      simp only [zbo, List.length_cons]
      rw [if_neg, show d + zop m - zop m = d by omega]
      · omega
      · rintro ⟨e1, e2⟩
        rw [zop_op e2] at e1; omega
section zrx
variable {N : Nat} {F : Nat → Int} {L : List Int}
theorem zRx.at (h : zRx N F L) {A : List Int} {m : Int} {T : List Int} (e : L = A ++ m :: T) {x : Int} (hx : x = (A.length : Int)) : F x.toNat = zr m ∧ zv m ∧ (0 ≤ x ∧ x + 1 + T.length ≤ N ∧ (N : Int) ≤ 3000 ∧ x + 1 + T.length ≤ 1000) := by
  obtain ⟨⟨h1, h2⟩, h4, h5, h6⟩ := h
  have hm := h4 A m T e
  have hl : L.length = A.length + 1 + T.length := by rw [e]; simp; omega
  refine ⟨by rw [show x.toNat = A.length by omega]; exact hm, h5 m (by rw [e]; simp), by omega, by omega, by omega, by omega⟩
theorem r_re_loop (H : zRy N F L) {e : Int × Int → Option Int} (he : ∀ d y, e (d, y) = some y) : ∀ (T A : List Int) (fu : Nat) (d y : Int), L = A ++ T → T.length < fu → y = (A.length : Int) → (0 ≤ d ∧ d ≤ A.length) → f_X8_rowEnd_4 N F e fu d y = some ((A.length : Int) + zre d T)
  | _, _, 0, _, _, _, hf, _, _ => by omega
  | [], A, fu + 1, d, y, hL, hf, hy, hd => by
    obtain ⟨h1, h2, h3, h4⟩ := H
    have hn : (L.length : Int) = A.length := by rw [hL]; simp
    have h180 : F (180 : Int).toNat = (L.length : Int) := h2
    simp (disch := omega) only [f_X8_rowEnd_4, z_in, h180, z_lt_f, he, zre]
    exact congrArg some (by omega)
  | m :: T, A, fu + 1, d, y, hL, hf, hy, hd => by
    obtain ⟨hm, hv, hb⟩ := H.1.at hL hy
    obtain ⟨h1, h2, h3, h4⟩ := H
    have h180 : F (180 : Int).toNat = (L.length : Int) := h2
    have hl : L.length = A.length + 1 + T.length := by rw [hL]; simp; omega
    have ih : ∀ d' : Int, (0 ≤ d' ∧ d' ≤ A.length + 1) → f_X8_rowEnd_4 N F e fu d' (y + 1) = some ((A.length : Int) + 1 + zre d' T) := fun d' hd' => by
      have := r_re_loop ⟨h1, h2, h3, h4⟩ he T (A ++ [m]) fu d' (y + 1) (by rw [hL]; simp) (by simp at hf; omega) (by simp; omega) (by simp; omega)
      rw [this]; simp
    rcases zv_rc hv with k | k | k | k
    · rw [zr_sy k.1] at hm
      by_cases h0 : d = 0 <;> simp (disch := omega) only [f_X8_rowEnd_4, z_in, h180, z_lt_t, z_lt_f, hm, r_bg_f, z_bd, z_jn, z_eq_t, z_eq_f, he, ih, zre, if_pos, if_neg, zop_sy] <;> exact congrArg some (by omega)
    · rw [zr_op k] at hm
      by_cases h0 : d = 0 <;> simp (disch := omega) only [f_X8_rowEnd_4, z_in, h180, z_lt_t, z_lt_f, hm, r_bg_t, z_bd, z_jn, z_eq_t, z_eq_f, he, ih, zre, if_pos, if_neg, zop_op] <;> exact congrArg some (by omega)
    · subst k
      rw [zr_6] at hm
      by_cases h0 : d = 0 <;> simp (disch := omega) only [f_X8_rowEnd_4, z_in, h180, z_lt_t, z_lt_f, hm, r_bg_f, z_bd, z_jn, z_eq_t, z_eq_f, he, ih, zre, true_or, and_true, if_pos, if_neg, zop_6] <;> exact congrArg some (by omega)
    · rw [zr_cl k] at hm
      by_cases h0 : d = 0 <;> simp (disch := omega) only [f_X8_rowEnd_4, z_in, h180, z_lt_t, z_lt_f, hm, r_bg_f, z_bd, z_jn, z_eq_t, z_eq_f, he, ih, zre, if_pos, if_neg, zop_cl, ← Int.sub_eq_add_neg] <;> exact congrArg some (by omega)
theorem r_rs_loop (H : zRx N F L) {e : Int × Int → Option Int} (he : ∀ d y, e (d, y) = some (y + 1)) : ∀ (R B : List Int) (fu : Nat) (d y : Int), L = R.reverse ++ B → R.length < fu → y = (R.length : Int) - 1 → (0 ≤ d ∧ d ≤ B.length) → f_X8_rowStart_6 N F e fu d y = some ((R.length : Int) - zrs d R)
  | _, _, 0, _, _, _, hf, _, _ => by omega
  | [], B, fu + 1, d, y, hL, hf, hy, hd => by
    simp only [List.length_nil] at hy
    simp (disch := omega) only [f_X8_rowStart_6, z_lt_t, he, zrs]
    exact congrArg some (by simp; omega)
  | m :: R, B, fu + 1, d, y, hL, hf, hy, hd => by
    have hL2 : L = R.reverse ++ m :: B := by rw [hL]; simp
    simp only [List.length_cons] at hy hf
    obtain ⟨hm, hv, hb⟩ := H.at hL2 (x := y) (by simp; omega)
    have ih : ∀ d' : Int, (0 ≤ d' ∧ d' ≤ B.length + 1) → f_X8_rowStart_6 N F e fu d' (y + (-1)) = some ((R.length : Int) - zrs d' R) := fun d' hd' => 
      r_rs_loop H he R (m :: B) fu d' (y + (-1)) hL2 (by omega) (by omega) (by simp; omega)
    have ee : ∀ a : Int, a - (-1) = a + 1 := by intro a; omega
    have e3 : ∀ a : Int, a - 1 = a + (-1) := by intro a; omega
    have e4 : ∀ a : Int, a - 0 = a + 0 := by intro a; omega
    rcases zv_rc hv with k | k | k | k
    · rw [zr_sy k.1] at hm
      by_cases h0 : d = 0 <;> simp (disch := omega) only [f_X8_rowStart_6, z_in, z_lt_t, z_lt_f, hm, r_bg_f, z_bd, z_jn, z_eq_t, z_eq_f, he, ih, zrs, if_pos, if_neg, zop_sy, e4, List.length_cons] <;> exact congrArg some (by omega)
    · rw [zr_op k] at hm
      by_cases h0 : d = 0 <;> simp (disch := omega) only [f_X8_rowStart_6, z_in, z_lt_t, z_lt_f, hm, r_bg_t, z_bd, z_jn, z_eq_t, z_eq_f, he, ih, zrs, if_pos, if_neg, zop_op, e3, List.length_cons] <;> exact congrArg some (by omega)
    · subst k
      rw [zr_6] at hm
      by_cases h0 : d = 0 <;> simp (disch := omega) only [f_X8_rowStart_6, z_in, z_lt_t, z_lt_f, hm, r_bg_f, z_bd, z_jn, z_eq_t, z_eq_f, he, ih, zrs, true_or, and_true, if_pos, if_neg, zop_6, e4, List.length_cons] <;> exact congrArg some (by omega)
    · rw [zr_cl k] at hm
      by_cases h0 : d = 0 <;> simp (disch := omega) only [f_X8_rowStart_6, z_in, z_lt_t, z_lt_f, hm, r_bg_f, z_bd, z_jn, z_eq_t, z_eq_f, he, ih, zrs, if_pos, if_neg, zop_cl, ee, List.length_cons] <;> exact congrArg some (by omega)
theorem r_eo_loop (H : zRx N F L) {e : Int × Int → Option Int} (he : ∀ d y, e (d, y) = some y) : ∀ (T A : List Int) (fu : Nat) (d y : Int), L = A ++ T → T.length < fu → y = (A.length : Int) → (-(A.length : Int) ≤ d ∧ d ≤ A.length) → zeo d T < T.length → f_X8_endOf_4 N F e fu d y = some ((A.length : Int) + zeo d T)
  | _, _, 0, _, _, _, hf, _, _, _ => by omega
  | [], A, fu + 1, d, y, hL, hf, hy, hd, hz => by simp [zeo] at hz
  | m :: T, A, fu + 1, d, y, hL, hf, hy, hd, hz => by
    obtain ⟨hm, hv, hb⟩ := H.at hL hy
    simp only [List.length_cons] at hf
    have ih : ∀ d' : Int, (-(A.length : Int) - 1 ≤ d' ∧ d' ≤ A.length + 1) → zeo d' T < T.length → f_X8_endOf_4 N F e fu d' (y + 1) = some ((A.length : Int) + 1 + zeo d' T) := fun d' hd' hz' => by
      have := r_eo_loop H he T (A ++ [m]) fu d' (y + 1) (by rw [hL]; simp) (by omega) (by simp; omega) (by simp; omega) hz'
      rw [this]; simp
    have ho := zop_b m
    simp only [zeo, List.length_cons] at hz
    by_cases h0 : d ≤ 0 ∧ (11 ≤ m ∧ m ≤ 15)
    · rw [zr_cl h0.2] at hm
      simp (disch := omega) only [f_X8_endOf_4, z_in, z_lt_t, z_lt_f, hm, z_bd, z_jn, z_eq_t, z_eq_f, he, zeo, if_pos]
      exact congrArg some (by omega)
    · rw [if_neg h0] at hz
      have i1 := ih (d + zop m) (by omega) (by omega)
      simp only [zeo, if_neg h0]
      rcases zv_rc hv with k | k | k | k
      · rw [zr_sy k.1] at hm
        rw [zop_sy k.1] at i1 ⊢
        by_cases h1 : d ≤ 0 <;> simp (disch := omega) only [f_X8_endOf_4, z_in, z_lt_t, z_lt_f, hm, r_bg_f, z_bd, z_jn, z_eq_t, z_eq_f, i1] <;> exact congrArg some (by omega)
      · rw [zr_op k] at hm
        rw [zop_op k] at i1 ⊢
        by_cases h1 : d ≤ 0 <;> simp (disch := omega) only [f_X8_endOf_4, z_in, z_lt_t, z_lt_f, hm, r_bg_t, z_bd, z_jn, z_eq_t, z_eq_f, i1] <;> exact congrArg some (by omega)
      · subst k
        rw [zr_6] at hm
        rw [zop_6] at i1 ⊢
        by_cases h1 : d ≤ 0 <;> simp (disch := omega) only [f_X8_endOf_4, z_in, z_lt_t, z_lt_f, hm, r_bg_f, z_bd, z_jn, z_eq_t, z_eq_f, i1] <;> exact congrArg some (by omega)
      · rw [zr_cl k] at hm
        rw [zop_cl k] at i1 ⊢
        by_cases h1 : d ≤ 0
        · exact absurd ⟨h1, k⟩ h0
        · simp (disch := omega) only [f_X8_endOf_4, z_in, z_lt_t, z_lt_f, hm, r_bg_f, z_bd, z_jn, z_eq_t, z_eq_f, i1]
          exact congrArg some (by omega)
theorem r_bo_loop (H : zRx N F L) {e : Int × Int → Option Int} (he : ∀ d y, e (d, y) = some y) : ∀ (R B : List Int) (fu : Nat) (d y : Int), L = R.reverse ++ B → R.length < fu → y = (R.length : Int) - 1 → (-(B.length : Int) ≤ d ∧ d ≤ B.length) → zbo d R < R.length → f_X8_beginOf_6 N F e fu d y = some ((R.length : Int) - 1 - zbo d R)
  | _, _, 0, _, _, _, hf, _, _, _ => by omega
  | [], B, fu + 1, d, y, hL, hf, hy, hd, hz => by simp [zbo] at hz
  | m :: R, B, fu + 1, d, y, hL, hf, hy, hd, hz => by
    have hL2 : L = R.reverse ++ m :: B := by rw [hL]; simp
    simp only [List.length_cons] at hy hf
    obtain ⟨hm, hv, hb⟩ := H.at hL2 (x := y) (by simp; omega)
    have ih : ∀ d' : Int, (-(B.length : Int) - 1 ≤ d' ∧ d' ≤ B.length + 1) → zbo d' R < R.length → f_X8_beginOf_6 N F e fu d' (y + (-1)) = some ((R.length : Int) - 1 - zbo d' R) := fun d' hd' hz' => 
      r_bo_loop H he R (m :: B) fu d' (y + (-1)) hL2 (by omega) (by omega) (by simp; omega) hz'
    have ho := zop_b m
    simp only [zbo, List.length_cons] at hz
    by_cases h0 : d ≤ 0 ∧ (1 ≤ m ∧ m ≤ 5)
    · rw [zr_op h0.2] at hm
      simp (disch := omega) only [f_X8_beginOf_6, z_in, z_lt_t, z_lt_f, hm, r_bg_t, z_bd, z_jn, z_eq_t, z_eq_f, he, zbo, if_pos, List.length_cons]
      exact congrArg some (by omega)
    · rw [if_neg h0] at hz
      have i1 := ih (d - zop m) (by omega) (by omega)
      simp only [zbo, if_neg h0, List.length_cons]
      rcases zv_rc hv with k | k | k | k
      · rw [zr_sy k.1] at hm
        rw [zop_sy k.1, show d - 0 = d + 0 by omega] at i1
        rw [zop_sy k.1, show d - 0 = d + 0 by omega]
        by_cases h1 : d ≤ 0 <;> simp (disch := omega) only [f_X8_beginOf_6, z_in, z_lt_t, z_lt_f, hm, r_bg_f, z_bd, z_jn, z_eq_t, z_eq_f, i1] <;> exact congrArg some (by omega)
      · rw [zr_op k] at hm
        rw [zop_op k, show d - 1 = d + (-1) by omega] at i1
        rw [zop_op k, show d - 1 = d + (-1) by omega]
        by_cases h1 : d ≤ 0
        · exact absurd ⟨h1, k⟩ h0
        · simp (disch := omega) only [f_X8_beginOf_6, z_in, z_lt_t, z_lt_f, hm, r_bg_t, z_bd, z_jn, z_eq_t, z_eq_f, i1]
          exact congrArg some (by omega)
      · subst k
        rw [zr_6] at hm
        rw [zop_6, show d - 0 = d + 0 by omega] at i1
        rw [zop_6, show d - 0 = d + 0 by omega]
        by_cases h1 : d ≤ 0 <;> simp (disch := omega) only [f_X8_beginOf_6, z_in, z_lt_t, z_lt_f, hm, r_bg_f, z_bd, z_jn, z_eq_t, z_eq_f, i1] <;> exact congrArg some (by omega)
      · rw [zr_cl k] at hm
        rw [zop_cl k, show d - (-1) = d + 1 by omega] at i1
        rw [zop_cl k, show d - (-1) = d + 1 by omega]
        by_cases h1 : d ≤ 0 <;> simp (disch := omega) only [f_X8_beginOf_6, z_in, z_lt_t, z_lt_f, hm, r_bg_f, z_bd, z_jn, z_eq_t, z_eq_f, i1] <;> exact congrArg some (by omega)
theorem r_rowEnd (H : zRy N F L) {A T : List Int} (hL : L = A ++ T) {x : Int} (hx : x = (A.length : Int)) : f_X8_rowEnd N F x = some ((A.length : Int) + zre 0 T) := by
  have hl : L.length = A.length + T.length := by rw [hL]; simp
  have h1 := H.2
  exact r_re_loop H (fun _ _ => rfl) T A fuel 0 x hL (by unfold fuel; omega) hx (by omega)
theorem r_rowStart (H : zRx N F L) {A T : List Int} (hL : L = A ++ T) {x : Int} (hx : x = (A.length : Int)) : f_X8_rowStart N F x = some ((A.length : Int) - zrs 0 A.reverse) := by
  have hl : L.length = A.length + T.length := by rw [hL]; simp
  have h1 := H.2.2.2
  have := r_rs_loop H (e := fun (z7 : Int × Int) => some (z7.2 + 1)) (fun _ _ => rfl) A.reverse T fuel 0 (x - 1) (by rw [List.reverse_reverse]; exact hL) (by unfold fuel; simp; omega) (by simp; omega) (by omega)
  rw [List.length_reverse] at this
  exact this
/-- the end of a structure from a place in it -/
theorem r_endOf (H : zRx N F L) {A T : List Int} (hL : L = A ++ T) {x : Int} (hx : x = (A.length : Int)) (hz : zeo 0 T < T.length) : f_X8_endOf N F x = some ((A.length : Int) + zeo 0 T) := by
  have hl : L.length = A.length + T.length := by rw [hL]; simp
  have h1 := H.2.2.2
  exact r_eo_loop H (fun _ _ => rfl) T A fuel 0 x hL (by unfold fuel; omega) hx (by omega) hz
theorem r_beginOf (H : zRx N F L) {A T : List Int} (hL : L = A ++ T) {x : Int} (hx : x = (A.length : Int)) (hz : zbo 0 A.reverse < A.length) : f_X8_beginOf N F x = some ((A.length : Int) - 1 - zbo 0 A.reverse) := by
  have hl : L.length = A.length + T.length := by rw [hL]; simp
  have h1 := H.2.2.2
  have := r_bo_loop H (e := fun (z7 : Int × Int) => some z7.2) (fun _ _ => rfl) A.reverse T fuel 0 (x - 1) (by rw [List.reverse_reverse]; exact hL) (by unfold fuel; simp; omega) (by simp; omega) (by omega) (by simpa using hz)
  rw [List.length_reverse] at this
  exact this
end zrx
