/-! a place and its row; peaks -/
abbrev zpk (A : List Int) : Int := zmx 0 0 A
theorem zmx_b : ∀ (A : List Int) (d b : Int), d ≤ b → zmx d b A = mxI b (zmx d d A)
  | [], d, b, h => by
    have := mx_s b d
    simp only [zmx]; omega
  | m :: A, d, b, h => by
    have h1 := mx_s b (d + zop m)
    have h2 := mx_s d (d + zop m)
    simp only [zmx]
    rw [zmx_b A (d + zop m) (mxI b (d + zop m)) (by omega), zmx_b A (d + zop m) (mxI d (d + zop m)) (by omega)]
    have h3 := mx_s (mxI b (d + zop m)) (zmx (d + zop m) (d + zop m) A)
    have h4 := mx_s (mxI d (d + zop m)) (zmx (d + zop m) (d + zop m) A)
    have h5 := mx_s b (mxI (mxI d (d + zop m)) (zmx (d + zop m) (d + zop m) A))
    omega
theorem zmx_s (A : List Int) (d : Int) : zmx d d A = d + zpk A := by
  have := zmx_shift A 0 0 d
  simp only [Int.zero_add] at this
  rw [this]; unfold zpk; omega
theorem zlv_pk : ∀ (A : List Int) (d b : Int), d ≤ b → d + zlv A ≤ zmx d b A
  | [], d, b, h => by simp [zmx, zlv]; exact h
  | m :: A, d, b, h => by
    have h1 := mx_s b (d + zop m)
    have := zlv_pk A (d + zop m) (mxI b (d + zop m)) (by omega)
    simp only [zmx, zlv]; omega
theorem zpk_lv (A : List Int) : zlv A ≤ zpk A := by have := zlv_pk A 0 0 (Int.le_refl 0); unfold zpk; omega
theorem zpk_0 (A : List Int) : 0 ≤ zpk A := zmx_ge A 0 0
theorem zpk_app (A B : List Int) : zpk (A ++ B) = mxI (zpk A) (zlv A + zpk B) := by
  have h := zpk_lv A
  unfold zpk at h ⊢
  rw [zmx_app, zmx_b B _ _ (by omega), zmx_s B]
  simp [zpk]
theorem zpk_cons (m : Int) (B : List Int) : zpk (m :: B) = mxI 0 (zop m + zpk B) := by
  have h0 := zpk_0 B
  have h := zpk_app [m] B
  have e : zpk [m] = mxI 0 (zop m) := by simp [zmx]
  simp only [List.singleton_append, zlv, Int.add_zero] at h
  rw [e] at h
  have h1 := mx_s 0 (zop m)
  have h2 := mx_s (mxI 0 (zop m)) (zop m + zpk B)
  have h3 := mx_s 0 (zop m + zpk B)
  omega
theorem zpk_nil : zpk [] = 0 := rfl
/-- behind or ahead of a row there is nothing, or a mark of the structure around -/
def zend (P : List Int) : Prop := P = [] ∨ ∃ (P0 : List Int) (o : Int), P = P0 ++ [o] ∧ 1 ≤ o ∧ o ≤ 6
def zbeg (Q : List Int) : Prop := Q = [] ∨ ∃ (c : Int) (Q0 : List Int), Q = c :: Q0 ∧ (c = 6 ∨ 11 ≤ c ∧ c ≤ 15)
/-- the structure around a place: what is ahead of it, its mark, what is behind it -/
def zfr (A B : List Int) (P R R2 Q : List Int) : Prop := (∃ k : Int, A = P ++ k :: R ∧ B = R2 ++ (k + 10) :: Q ∧ 2 ≤ k ∧ k ≤ 5) ∨ (∃ J : List Int, A = P ++ 1 :: R ∧ B = R2 ++ 6 :: (J ++ 11 :: Q) ∧ zbal J) ∨ (∃ I : List Int, A = P ++ 1 :: (I ++ 6 :: R) ∧ B = R2 ++ 11 :: Q ∧ zbal I)
theorem zrow {A B : List Int} (h : zbal (A ++ B)) : (zbal A ∧ zbal B) ∨ ∃ (P R R2 Q s : List Int), zfr A B P R R2 Q ∧ zbal R ∧ zbal R2 ∧ zrun [] P = some s ∧ zrun s Q = some [] := by
  obtain ⟨s0, h1, h2⟩ := zrun_app_inv h
  cases s0 with
  | nil => exact Or.inl ⟨h1, h2⟩
  | cons k s =>
    right
    obtain ⟨A1, o, A2, s1, rfl, a1, a2, a3⟩ := zdecB A.length A (Nat.le_refl _) k s h1
    obtain ⟨B1, c, B2, rfl, b1, b2⟩ := zdecF B.length B (Nat.le_refl _) k s [] h2 (by simp)
    rcases a2 with ⟨rfl, c1, c2, rfl⟩ | ⟨rfl, rfl, rfl⟩
    · rcases b2 with ⟨rfl, rfl, b3⟩ | ⟨b2, b3⟩
      · obtain ⟨C1, c3, C2, rfl, d1, d2⟩ := zdecF B2.length B2 (Nat.le_refl _) 6 s1 [] b3 (by simp)
        rcases d2 with ⟨-, d, -⟩ | ⟨d2, d3⟩
        · exact absurd d (by decide)
        · obtain rfl : c3 = 11 := by omega
          exact ⟨A1, A2, B1, C2, s1, Or.inr (Or.inl ⟨C1, rfl, rfl, d1⟩), a3, b1, a1, d3⟩
      · obtain rfl : c = o + 10 := by omega
        exact ⟨A1, A2, B1, B2, s1, Or.inl ⟨o, rfl, rfl, by omega, c2⟩, a3, b1, a1, b3⟩
    · obtain ⟨C1, o2, C2, s2, rfl, d1, d2, d3⟩ := zdecB A1.length A1 (Nat.le_refl _) 1 s a1
      rcases d2 with ⟨rfl, -, -, rfl⟩ | ⟨-, d, -⟩
      · rcases b2 with ⟨rfl, e, b3⟩ | ⟨b2, b3⟩
        · exact absurd e (by decide)
        · obtain rfl : c = 11 := by omega
          exact ⟨C1, A2, B1, B2, s2, Or.inr (Or.inr ⟨C2, by simp, rfl, d3⟩), a3, b1, d1, b3⟩
      · exact absurd d (by decide)
theorem zrs_at {P R : List Int} (hP : zend P) (hR : zbal R) : zrs 0 (P ++ R).reverse = R.length := by
  rcases hP with rfl | ⟨P0, o, rfl, h1, h2⟩
  · have := zrs_bal [] hR
    simpa [zrs] using this
  · have := zrs_bal (o :: P0.reverse) hR
    rw [zrs_stop (by omega)] at this
    simpa using this
theorem zre_at {R Q : List Int} (hQ : zbeg Q) (hR : zbal R) : zre 0 (R ++ Q) = R.length := by
  rcases hQ with rfl | ⟨c, Q0, rfl, h⟩
  · have := zre_bal [] hR
    simpa [zre] using this
  · have := zre_bal (c :: Q0) hR
    rw [zre_stop h] at this
    simpa using this
section zrw
variable {N : Nat} {n : Int} {F : Nat → Int} {L : List Int}
theorem c_rs (H : zCx N n F L) {P R T : List Int} (hL : L = P ++ (R ++ T)) (hP : zend P) (hR : zbal R) {x : Int} (hx : x = (P.length : Int) + R.length) : f_X3_rowStart N n F x = some (P.length : Int) := by
  rw [c_rowStart H (A := P ++ R) (T := T) (by rw [hL]; simp) (by simp; omega), zrs_at hP hR]
  exact congrArg some (by simp)
theorem c_re (H : zCx N n F L) {A R Q : List Int} (hL : L = A ++ (R ++ Q)) (hQ : zbeg Q) (hR : zbal R) {x : Int} (hx : x = (A.length : Int)) : f_X3_rowEnd N n F x = some ((A.length : Int) + R.length) := by
  rw [c_rowEnd H hL hx, zre_at hQ hR]
theorem r_rs (H : zRy N F L) {P R T : List Int} (hL : L = P ++ (R ++ T)) (hP : zend P) (hR : zbal R) {x : Int} (hx : x = (P.length : Int) + R.length) : f_X8_rowStart N F x = some (P.length : Int) := by
  rw [r_rowStart H.1 (A := P ++ R) (T := T) (by rw [hL]; simp) (by simp; omega), zrs_at hP hR]
  exact congrArg some (by simp)
theorem r_re (H : zRy N F L) {A R Q : List Int} (hL : L = A ++ (R ++ Q)) (hQ : zbeg Q) (hR : zbal R) {x : Int} (hx : x = (A.length : Int)) : f_X8_rowEnd N F x = some ((A.length : Int) + R.length) := by
  rw [r_rowEnd H hL hx, zre_at hQ hR]
theorem c_ie (H : zCx N n F L) {A X T : List Int} (hL : L = A ++ (X ++ T)) (hX : zit X) {x : Int} (hx : x = (A.length : Int)) : f_X3_itemEnd N n F x = some ((A.length : Int) + X.length) := by
  rw [c_itemEnd H hL hx, zie_it T hX]
theorem c_is (H : zCx N n F L) {A X T : List Int} (hL : L = A ++ (X ++ T)) (hX : zit X) {x : Int} (hx : x = (A.length : Int) + X.length) : f_X3_itemStart N n F x = some (A.length : Int) := by
  rw [c_itemStart H (A := A ++ X) (T := T) (by rw [hL]; simp) (by simp; omega), List.reverse_append, zis_it _ hX]
  exact congrArg some (by simp)
/-- the second slot of a fraction -/
theorem zss_at {I T : List Int} (hI : zbal I) : zss 0 (1 :: (I ++ 6 :: T)) = I.length + 2 := by
  have key : ∀ {S s s' : List Int} {d : Int} (t : List Int), 1 ≤ d → zrun s S = some s' → zss (d + s.length) (S ++ t) = S.length + zss (d + s'.length) t := by
    intro S
    induction S with
    | nil => intro s s' d t hd h; simp only [zrun] at h; rw [Option.some.inj h]; simp
    | cons m S ih =>
      intro s s' d t hd h
      obtain ⟨s1, h1, h2⟩ := zrun_cons_inv h
      have e := zst_len h1
      simp only [List.cons_append, zss, List.length_cons]
      rw [if_neg, show d + (s.length : Int) + zop m = d + s1.length by omega, ih t hd h2]
      · omega
      · rintro ⟨e1, e2⟩
        have hs : s = [] := List.length_eq_zero_iff.mp (by omega)
        subst hs
        rcases zst_cases h1 with ⟨a, b, rfl⟩ | ⟨a, b, rfl⟩ | ⟨rfl, r, c, rfl⟩ | ⟨k, c, h3⟩
        · omega
        · omega
        · cases c
        · cases c
  have := key (6 :: T) (Int.le_refl 1) hI
  simp only [List.length_nil] at this
  simp only [zss, zop_op (m := 1) (by omega)]
  rw [if_neg (by omega)]
  have e : (0 : Int) + 1 = 1 + ((0 : Nat) : Int) := by omega
  rw [e, this]
  have e2 : zss (1 + ((0 : Nat) : Int)) (6 :: T) = 1 := by
    show (if _ then 1 else _) = 1
    exact if_pos ⟨by omega, rfl⟩
  rw [e2]
theorem c_ss (H : zCx N n F L) {A I T : List Int} (hL : L = A ++ 1 :: (I ++ 6 :: T)) (hI : zbal I) {x : Int} (hx : x = (A.length : Int)) : f_X3_secondSlot N n F x = some ((A.length : Int) + I.length + 2) := by
  rw [c_secondSlot H hL hx, zss_at hI]
  exact congrArg some (by omega)
/-- the structure around a row, of the class -/
theorem c_holder (H : zCx N n F L) {A B S P R R2 Q : List Int} (hL : L = A ++ (S ++ B)) (hf : zfr A B P R R2 Q) {x : Int} (hx : x = (A.length : Int) - R.length) : f_X3_holder N n F x = some (P.length : Int) := by
  rcases hf with ⟨k, rfl, rfl, h1, h2⟩ | ⟨J, rfl, rfl, h1⟩ | ⟨I, rfl, rfl, h1⟩
  · obtain ⟨hm, hv, hb⟩ := H.at (A := P) (m := k) (T := R ++ (S ++ (R2 ++ (k + 10) :: Q))) (by rw [hL]; simp) (x := x - 1) (by simp at hx; omega)
    unfold f_X3_holder
    simp (disch := omega) only [hm, z_bd, z_jn, z_eq_f]
    exact congrArg some (by simp at hx; omega)
  · obtain ⟨hm, hv, hb⟩ := H.at (A := P) (m := 1) (T := R ++ (S ++ (R2 ++ 6 :: (J ++ 11 :: Q)))) (by rw [hL]; simp) (x := x - 1) (by simp at hx; omega)
    unfold f_X3_holder
    simp (disch := omega) only [hm, z_bd, z_jn, z_eq_f]
    exact congrArg some (by simp at hx; omega)
  · obtain ⟨hm, hv, hb⟩ := H.at (A := P ++ 1 :: I) (m := 6) (T := R ++ (S ++ (R2 ++ 11 :: Q))) (by rw [hL]; simp) (x := x - 1) (by simp at hx ⊢; omega)
    have e := c_rs H (P := P ++ [1]) (R := I) (T := 6 :: (R ++ (S ++ (R2 ++ 11 :: Q)))) (by rw [hL]; simp) (Or.inr ⟨P, 1, rfl, by decide, by decide⟩) h1 (x := x - 1) (by simp at hx ⊢; omega)
    unfold f_X3_holder
    simp (disch := omega) only [hm, z_bd, z_jn, z_eq_t, e]
    exact congrArg some (by simp)
end zrw
theorem zfr_end {A B P R R2 Q : List Int} (hf : zfr A B P R R2 Q) : ∃ P2 Q2, A = P2 ++ R ∧ B = R2 ++ Q2 ∧ zend P2 ∧ zbeg Q2 ∧ 0 < P2.length ∧ 0 < Q2.length := by
  rcases hf with ⟨k, rfl, rfl, h1, h2⟩ | ⟨J, rfl, rfl, h1⟩ | ⟨I, rfl, rfl, h1⟩
  · exact ⟨P ++ [k], (k + 10) :: Q, by simp, rfl, Or.inr ⟨P, k, rfl, by omega, by omega⟩, Or.inr ⟨k + 10, Q, rfl, by omega⟩, by simp, by simp⟩
  · exact ⟨P ++ [1], 6 :: (J ++ 11 :: Q), by simp, rfl, Or.inr ⟨P, 1, rfl, by omega, by omega⟩, Or.inr ⟨6, _, rfl, by omega⟩, by simp, by simp⟩
  · exact ⟨P ++ 1 :: (I ++ [6]), 11 :: Q, by simp, rfl, Or.inr ⟨P ++ 1 :: I, 6, by simp, by omega, by omega⟩, Or.inr ⟨11, _, rfl, by omega⟩, by simp; omega, by simp⟩
/-- the row of a place: its ends -/
theorem zrow2 {A B : List Int} (h : zbal (A ++ B)) : ∃ P R R2 Q, A = P ++ R ∧ B = R2 ++ Q ∧ zend P ∧ zbeg Q ∧ zbal R ∧ zbal R2 ∧ (P = [] ↔ Q = []) := by
  rcases zrow h with ⟨h1, h2⟩ | ⟨P, R, R2, Q, s, hf, h1, h2, h3, h4⟩
  · exact ⟨[], A, B, [], rfl, by simp, Or.inl rfl, Or.inl rfl, h1, h2, by simp⟩
  · obtain ⟨P2, Q2, rfl, rfl, a1, a2, a3, a4⟩ := zfr_end hf
    refine ⟨P2, R, R2, Q2, rfl, rfl, a1, a2, h1, h2, ?_⟩
    constructor
    · rintro rfl; simp at a3
    · rintro rfl; simp at a4
