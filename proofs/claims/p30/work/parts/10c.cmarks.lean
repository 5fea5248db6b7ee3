/-! the class's lines: mirrors are scans -/
theorem z_bd {α ρ : Type} (a : α) (f : α → Option ρ) : bd (some a) f = f a := by
  have h : bd (some a) f = (some a).bind f := by rw [bd]
  rw [h, Option.bind_some]
theorem z_jn {α ρ : Type} (k : α → Option ρ) (body : (α → Option ρ) → Option ρ) : jn k body = body k := by rw [jn]
theorem z_lt_t {ρ : Type} {a b : Int} {A B : Option ρ} (h : ((-2147483648 ≤ a ∧ a ≤ 2147483647) ∧ (-2147483648 ≤ b ∧ b ≤ 2147483647)) ∧ a < b) : cLt a b A B = A := by
  unfold cLt; rw [if_pos h.1, if_pos h.2]
theorem z_lt_f {ρ : Type} {a b : Int} {A B : Option ρ} (h : ((-2147483648 ≤ a ∧ a ≤ 2147483647) ∧ (-2147483648 ≤ b ∧ b ≤ 2147483647)) ∧ ¬ a < b) : cLt a b A B = B := by
  unfold cLt; rw [if_pos h.1, if_neg h.2]
theorem z_eq_t {ρ : Type} {a b : Int} {A B : Option ρ} (h : ((-2147483648 ≤ a ∧ a ≤ 2147483647) ∧ (-2147483648 ≤ b ∧ b ≤ 2147483647)) ∧ a = b) : cEq a b A B = A := by
  unfold cEq; rw [if_pos h.1, if_pos h.2]
theorem z_eq_f {ρ : Type} {a b : Int} {A B : Option ρ} (h : ((-2147483648 ≤ a ∧ a ≤ 2147483647) ∧ (-2147483648 ≤ b ∧ b ≤ 2147483647)) ∧ ¬ a = b) : cEq a b A B = B := by
  unfold cEq; rw [if_pos h.1, if_neg h.2]
theorem z_in {ρ : Type} {a : Int} {n : Nat} {A : Option ρ} (h : 0 ≤ a ∧ a < (n : Int) ∧ a ≤ 2147483647) : gIn a n A = A := if_pos h
theorem z_gB {ρ : Type} {a : Int} {A : Option ρ} (h : a = 0 ∨ a = 1) : gB a A = A := if_pos h
theorem z_gR {ρ : Type} {a : Int} {A : Option ρ} (h : -2147483648 ≤ a ∧ a ≤ 2147483647) : gR a A = A := if_pos h
theorem z_gL {ρ : Type} {a : Int} {A : Option ρ} (h : -9223372036854775808 ≤ a ∧ a ≤ 9223372036854775807) : gL a A = A := if_pos h
theorem z_gC {ρ : Type} {sp dp n : Int} {n0 n1 : Nat} {A : Option ρ} (h : (0 ≤ sp ∧ 0 ≤ dp ∧ 0 ≤ n) ∧ sp + n ≤ (n0 : Int) ∧ dp + n ≤ (n1 : Int) ∧ sp ≤ 2147483647 ∧ dp ≤ 2147483647 ∧ n ≤ 2147483647) : gC sp dp n n0 n1 A = A := if_pos h
theorem z_dlt_t {ρ : Type} {a b : Int} {A B : Option ρ} (h : ((-9223372036854775808 ≤ a ∧ a ≤ 9223372036854775807) ∧ (-9223372036854775808 ≤ b ∧ b ≤ 9223372036854775807)) ∧ a < b) : dLt a b A B = A := by
  unfold dLt; rw [if_pos h.1, if_pos h.2]
theorem z_dlt_f {ρ : Type} {a b : Int} {A B : Option ρ} (h : ((-9223372036854775808 ≤ a ∧ a ≤ 9223372036854775807) ∧ (-9223372036854775808 ≤ b ∧ b ≤ 9223372036854775807)) ∧ ¬ a < b) : dLt a b A B = B := by
  unfold dLt; rw [if_pos h.1, if_neg h.2]
/-! marks, one by one -/
theorem c_op {m : Int} (h : -2147483648 ≤ m ∧ m ≤ 2147483647) : f_X3_opening m = some (zop m) := by
  unfold f_X3_opening zop
  by_cases h1 : 42 ≤ m
  · simp (disch := omega) only [z_lt_f, if_pos]
  · by_cases h2 : 1 ≤ m ∧ m ≤ 5
    · simp (disch := omega) only [z_lt_t, z_lt_f, z_jn, if_neg, if_pos]
    · by_cases h3 : 10 < m
      · simp (disch := omega) only [z_lt_t, z_lt_f, z_jn, if_neg, if_pos]
      · by_cases h4 : m < 1
        · simp (disch := omega) only [z_lt_t, z_lt_f, z_jn, if_neg, if_pos]
        · simp (disch := omega) only [z_lt_t, z_lt_f, z_jn, if_neg, if_pos]
theorem c_st_t {m : Int} (h : (-2147483648 ≤ m ∧ m ≤ 2147483647) ∧ ((1 ≤ m ∧ m ≤ 5) ∨ 42 ≤ m)) : f_X7_startsItem m = some 1 := by
  unfold f_X7_startsItem
  by_cases h2 : m ≤ 5
  · simp (disch := omega) only [z_lt_t, z_lt_f, z_jn, z_gB]
  · simp (disch := omega) only [z_lt_t, z_lt_f, z_jn, z_gB]
theorem c_st_f {m : Int} (h : (-2147483648 ≤ m ∧ m ≤ 2147483647) ∧ ¬ ((1 ≤ m ∧ m ≤ 5) ∨ 42 ≤ m)) : f_X7_startsItem m = some 0 := by
  unfold f_X7_startsItem
  by_cases h2 : m < 1
  · simp (disch := omega) only [z_lt_t, z_lt_f, z_jn, z_gB]
  · simp (disch := omega) only [z_lt_t, z_lt_f, z_jn, z_gB]
theorem c_on_t {m : Int} (h : 1 ≤ m ∧ m ≤ 5) : f_X7_opens m = some 1 := by
  unfold f_X7_opens
  simp (disch := omega) only [z_lt_t, z_lt_f, z_jn, z_gB]
theorem c_on_f {m : Int} (h : (-2147483648 ≤ m ∧ m ≤ 2147483647) ∧ ¬ (1 ≤ m ∧ m ≤ 5)) : f_X7_opens m = some 0 := by
  unfold f_X7_opens
  by_cases h2 : m < 1
  · simp (disch := omega) only [z_lt_t, z_lt_f, z_jn, z_gB]
  · simp (disch := omega) only [z_lt_t, z_lt_f, z_jn, z_gB]
theorem c_cl_t {m : Int} (h : 11 ≤ m ∧ m ≤ 15) : f_X7_closes m = some 1 := by
  unfold f_X7_closes
  simp (disch := omega) only [z_lt_t, z_lt_f, z_jn, z_gB]
theorem c_cl_f {m : Int} (h : (-2147483648 ≤ m ∧ m ≤ 2147483647) ∧ ¬ (11 ≤ m ∧ m ≤ 15)) : f_X7_closes m = some 0 := by
  unfold f_X7_closes
  by_cases h2 : m < 11
  · simp (disch := omega) only [z_lt_t, z_lt_f, z_jn, z_gB]
  · simp (disch := omega) only [z_lt_t, z_lt_f, z_jn, z_gB]
theorem c_en_t {m : Int} (h : 10 < m ∧ m ≤ 2147483647) : f_X7_endsItem m = some 1 := by
  unfold f_X7_endsItem
  simp (disch := omega) only [z_lt_t, z_lt_f, z_jn, z_gB]
theorem c_en_f {m : Int} (h : -2147483648 ≤ m ∧ m ≤ 10) : f_X7_endsItem m = some 0 := by
  unfold f_X7_endsItem
  simp (disch := omega) only [z_lt_t, z_lt_f, z_jn, z_gB]
theorem c_sc_t {m : Int} (h : m = 2 ∨ m = 3) : f_X7_isScript m = some 1 := by
  unfold f_X7_isScript
  by_cases h2 : m = 2
  · simp (disch := omega) only [z_eq_t, z_eq_f, z_jn, z_gB]
  · simp (disch := omega) only [z_eq_t, z_eq_f, z_jn, z_gB]
theorem c_sc_f {m : Int} (h : (-2147483648 ≤ m ∧ m ≤ 2147483647) ∧ ¬ (m = 2 ∨ m = 3)) : f_X7_isScript m = some 0 := by
  unfold f_X7_isScript
  simp (disch := omega) only [z_eq_t, z_eq_f, z_jn, z_gB]
theorem zv_rc {m : Int} (h : zv m) : (42 ≤ m ∧ m ≤ 122) ∨ (1 ≤ m ∧ m ≤ 5) ∨ m = 6 ∨ (11 ≤ m ∧ m ≤ 15) := by
  unfold zv at h; omega
def zC (F : Nat → Int) (L : List Int) : Prop := ∀ (A : List Int) (m : Int) (T : List Int), L = A ++ m :: T → F A.length = m
theorem zC_iff {F : Nat → Int} {L : List Int} : zC F L ↔ ∀ i, i < L.length → F i = L.getD i 0 := by
  constructor
  · intro h i hi
    have e := h (L.take i) (L.getD i 0) (L.drop (i + 1)) (by
      rw [List.getD_eq_getElem?_getD, List.getElem?_eq_getElem hi, Option.getD_some, ← List.drop_eq_getElem_cons hi, List.take_append_drop])
    rw [List.length_take, Nat.min_eq_left (by omega)] at e
    exact e
  · intro h A m T e
    have := h A.length (by rw [e]; simp)
    rw [this, e]
    simp
def zCx (N : Nat) (n : Int) (F : Nat → Int) (L : List Int) : Prop := (n = (L.length : Int) ∧ L.length ≤ N ∧ N ≤ 1000) ∧ zC F L ∧ ∀ m ∈ L, zv m
section zcx
variable {N : Nat} {n : Int} {F : Nat → Int} {L : List Int}
theorem zCx.at (h : zCx N n F L) {A : List Int} {m : Int} {T : List Int} (e : L = A ++ m :: T) {x : Int} (hx : x = (A.length : Int)) : f_X3_mark N n F x = some m ∧ zv m ∧ (n = (A.length : Int) + 1 + T.length ∧ n ≤ N ∧ N ≤ 1000) := by
  obtain ⟨⟨h1, h2, h3⟩, h4, h5⟩ := h
  have hm := h4 A m T e
  have hl : L.length = A.length + 1 + T.length := by rw [e]; simp; omega
  refine ⟨?_, h5 m (by rw [e]; simp), by omega, by omega, h3⟩
  unfold f_X3_mark
  have ex : x.toNat = A.length := by omega
  simp (disch := omega) only [z_lt_t, z_lt_f, z_jn, z_in, ex, hm]
theorem zCx.out (h : zCx N n F L) {x : Int} (hx : (x < 0 ∨ n ≤ x) ∧ -2147483648 ≤ x ∧ x ≤ 2147483647) : f_X3_mark N n F x = some 0 := by
  obtain ⟨⟨h1, h2, h3⟩, h4, h5⟩ := h
  unfold f_X3_mark
  by_cases hx0 : x < 0
  · simp (disch := omega) only [z_lt_t, z_lt_f, z_jn, z_in]
  · simp (disch := omega) only [z_lt_t, z_lt_f, z_jn, z_in]
theorem c_re_loop (H : zCx N n F L) {e : Int × Int → Option Int} (he : ∀ d, e (d, n) = some n) : ∀ (T A : List Int) (fu : Nat) (d y : Int), L = A ++ T → T.length < fu → y = (A.length : Int) → (-(A.length : Int) ≤ d ∧ d ≤ A.length) → f_X3_rowEnd_4 N n F e fu d y = some ((A.length : Int) + zre d T)
  | _, _, 0, _, _, _, hf, _, _ => by omega
  | [], A, fu + 1, d, y, hL, hf, hy, hd => by
    have hn : n = y := by rw [H.1.1, hL]; simp; omega
    have h3 := H.1
    subst hn
    simp (disch := omega) only [f_X3_rowEnd_4, z_lt_f, he, zre]
    exact congrArg some (by omega)
  | m :: T, A, fu + 1, d, y, hL, hf, hy, hd => by
    obtain ⟨hm, hv, hb⟩ := H.at hL hy
    have ih : ∀ d' : Int, (-(A.length : Int) - 1 ≤ d' ∧ d' ≤ A.length + 1) → f_X3_rowEnd_4 N n F e fu d' (y + 1) = some ((A.length : Int) + 1 + zre d' T) := fun d' hd' => by
      have := c_re_loop H he T (A ++ [m]) fu d' (y + 1) (by rw [hL]; simp) (by simp at hf; omega) (by simp; omega) (by simp; omega)
      rw [this]; simp
    have ho := zop_b m
    rcases zv_rc hv with k | k | k | k <;> by_cases h0 : d = 0 <;> simp (disch := omega) only [f_X3_rowEnd_4, z_lt_t, hm, z_bd, z_jn, z_eq_t, z_eq_f, c_cl_t, c_cl_f, c_op, ih, zre, if_pos, if_neg] <;> exact congrArg some (by omega)
theorem c_rs_loop (H : zCx N n F L) {e : Int × Int → Option Int} (he : ∀ d y, e (d, y) = some 0) : ∀ (R B : List Int) (fu : Nat) (d y : Int), L = R.reverse ++ B → R.length < fu → y = (R.length : Int) - 1 → (-(B.length : Int) ≤ d ∧ d ≤ B.length) → f_X3_rowStart_6 N n F e fu d y = some ((R.length : Int) - zrs d R)
  | _, _, 0, _, _, _, hf, _, _ => by omega
  | [], B, fu + 1, d, y, hL, hf, hy, hd => by
    simp only [List.length_nil] at hy
    simp (disch := omega) only [f_X3_rowStart_6, z_lt_t, he, zrs]
    rfl
  | m :: R, B, fu + 1, d, y, hL, hf, hy, hd => by
    have hL2 : L = R.reverse ++ m :: B := by rw [hL]; simp
    simp only [List.length_cons] at hy hf
    obtain ⟨hm, hv, hb⟩ := H.at hL2 (x := y) (by simp; omega)
    rw [List.length_reverse] at hb
    have ih : ∀ d' : Int, (-(B.length : Int) - 1 ≤ d' ∧ d' ≤ B.length + 1) → f_X3_rowStart_6 N n F e fu d' (y + (-1)) = some ((R.length : Int) - zrs d' R) := fun d' hd' => 
      c_rs_loop H he R (m :: B) fu d' (y + (-1)) hL2 (by omega) (by omega) (by simp; omega)
    have ho := zop_b m
    rcases zv_rc hv with k | k | k | k <;> by_cases h0 : d = 0 <;> simp (disch := omega) only [f_X3_rowStart_6, z_lt_f, hm, z_bd, z_jn, z_eq_t, z_eq_f, c_on_t, c_on_f, c_op, ih, zrs, if_pos, if_neg, List.length_cons] <;> exact congrArg some (by omega)
theorem c_rowEnd (H : zCx N n F L) {A T : List Int} (hL : L = A ++ T) {x : Int} (hx : x = (A.length : Int)) : f_X3_rowEnd N n F x = some ((A.length : Int) + zre 0 T) := by
  have hl : L.length = A.length + T.length := by rw [hL]; simp
  have h1 := H.1
  exact c_re_loop H (fun _ => rfl) T A fuel 0 x hL (by unfold fuel; omega) hx (by omega)
theorem c_rowStart (H : zCx N n F L) {A T : List Int} (hL : L = A ++ T) {x : Int} (hx : x = (A.length : Int)) : f_X3_rowStart N n F x = some ((A.length : Int) - zrs 0 A.reverse) := by
  have hl : L.length = A.length + T.length := by rw [hL]; simp
  have h1 := H.1
  have := c_rs_loop H (e := fun (z8 : Int × Int) => some 0) (fun _ _ => rfl) A.reverse T fuel 0 (x - 1) (by rw [List.reverse_reverse]; exact hL) (by unfold fuel; simp; omega) (by simp; omega) (by omega)
  rw [List.length_reverse] at this
  exact this
end zcx
