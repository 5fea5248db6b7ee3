/-! the drawing: an item's box on both sides -/
def ziw (w : Nat → Int) (p : Nat) : List Int → Int
  | [] => 1
  | m :: Y => if m = 1 then mxI (w (p + 1)) (w (p + zre 0 Y + 2)) else if m = 2 ∨ m = 3 then w (p + 1) else if m = 4 then 1 + w (p + 1) else if m = 5 then 2 + w (p + 1) else 1
def zih (a b : Nat → Int) (p : Nat) : List Int → Int
  | [] => 0
  | m :: _ => if m = 1 ∨ m = 2 then a (p + 1) + 1 + b (p + 1) else if m = 4 then 1 + a (p + 1) else if m = 5 then a (p + 1) else 0
def zil (a b : Nat → Int) (p : Nat) : List Int → Int
  | [] => 0
  | m :: Y => if m = 1 then a (p + zre 0 Y + 2) + 1 + b (p + zre 0 Y + 2) else if m = 3 then a (p + 1) + 1 + b (p + 1) else if m = 4 ∨ m = 5 then b (p + 1) else 0
theorem ziw_sy {w : Nat → Int} {p : Nat} {m : Int} {Y : List Int} (h : 42 ≤ m) : ziw w p (m :: Y) = 1 := by
  simp only [ziw]; rw [if_neg (by omega), if_neg (by omega), if_neg (by omega), if_neg (by omega)]
theorem ziw_1 {w : Nat → Int} {p : Nat} {I T : List Int} (h : zbal I) : ziw w p (1 :: (I ++ 6 :: T)) = mxI (w (p + 1)) (w (p + I.length + 2)) := by
  have e : zre 0 (I ++ 6 :: T) = I.length := zre_at (Or.inr ⟨6, T, rfl, by omega⟩) h
  rw [← e]; simp [ziw]
theorem ziw_k {w : Nat → Int} {p : Nat} {k : Int} {Y : List Int} (h : 2 ≤ k ∧ k ≤ 5) : ziw w p (k :: Y) = w (p + 1) + (if k = 4 then 1 else if k = 5 then 2 else 0) := by
  simp only [ziw]
  rw [if_neg (by omega)]
  by_cases h2 : k = 2 ∨ k = 3
  · rw [if_pos h2, if_neg (by omega), if_neg (by omega)]; omega
  · rw [if_neg h2]
    by_cases h4 : k = 4
    · rw [if_pos h4, if_pos h4]; omega
    · rw [if_neg h4, if_neg h4, if_pos (by omega), if_pos (by omega)]; omega
theorem ziw_app {w : Nat → Int} {p : Nat} {X R : List Int} (hX : zit X) : ziw w p (X ++ R) = ziw w p X := by
  rcases hX with ⟨m, rfl, a, b⟩ | ⟨k, I, rfl, a, b, c⟩ | ⟨I, J, rfl, a, b⟩
  · simp only [List.singleton_append]; rw [ziw_sy a.1, ziw_sy a.1]
  · simp only [List.cons_append]; rw [ziw_k ⟨a, b⟩, ziw_k ⟨a, b⟩]
  · have := ziw_1 (w := w) (p := p) (T := J ++ [11] ++ R) a
    rw [show 1 :: (I ++ 6 :: (J ++ [11])) ++ R = 1 :: (I ++ 6 :: (J ++ [11] ++ R)) by simp, this, ziw_1 a]
/-- a row's box within its bounds -/
def zbd (w a b : Nat → Int) (q l : Nat) : Prop := (1 ≤ w q ∧ w q ≤ 2 * l + 1) ∧ 0 ≤ a q ∧ 0 ≤ b q ∧ a q + b q ≤ 2 * l
/-- the rows behind q are laid alike on both sides -/
def zsl (L : List Int) (w a b wi hi lo : Nat → Int) (q : Nat) : Prop := ∀ U T Q : List Int, L = U ++ (T ++ Q) → zend U → zbeg Q → zbal T → q < U.length → zbd w a b U.length T.length ∧ wi U.length = w U.length ∧ hi U.length = a U.length ∧ lo U.length = b U.length
theorem c_wd {w : Nat → Int} {x : Int} (p : Nat) (hx : x = (p : Int)) (hp : p ≤ 180) : f_X4_width w x = some (w p) := by
  subst hx
  unfold f_X4_width
  simp (disch := omega) only [z_jn, z_lt_f, z_lt_t, z_in, Int.toNat_natCast]
theorem c_ab {w : Nat → Int} {x : Int} (p : Nat) (hx : x = (p : Int)) (hp : p ≤ 180) : f_X4_above w x = some (w p) := by
  subst hx
  unfold f_X4_above
  simp (disch := omega) only [z_jn, z_lt_f, z_lt_t, z_in, Int.toNat_natCast]
theorem c_bl {w : Nat → Int} {x : Int} (p : Nat) (hx : x = (p : Int)) (hp : p ≤ 180) : f_X4_below w x = some (w p) := by
  subst hx
  unfold f_X4_below
  simp (disch := omega) only [z_jn, z_lt_f, z_lt_t, z_in, Int.toNat_natCast]
theorem c_ln {a b : Nat → Int} {x : Int} (p : Nat) (hx : x = (p : Int)) (hp : p ≤ 180) : f_X4_lines a b x = some (a p + 1 + b p) := by
  unfold f_X4_lines
  rw [c_ab p hx hp, z_bd, c_bl p hx hp, z_bd]
section zpi
variable {n : Int} {F R : Nat → Int} {L : List Int} {w a b : Nat → Int}
/-- the class's box of an item -/
theorem c_box (hC : zCx 180 n F L) {wi hi lo : Nat → Int} {q : Nat} (hs : zsl L w a b wi hi lo q) {A X B : List Int} (hL : L = A ++ (X ++ B)) (hX : zit X) (hq : q ≤ A.length) {x : Int} (hx : x = (A.length : Int)) : f_X4_itemWidth 180 w n F x = some (ziw w A.length X) ∧ f_X4_itemAbove 180 a b n F x = some (zih a b A.length X) ∧ f_X4_itemBelow 180 a b n F x = some (zil a b A.length X) ∧ (1 ≤ ziw w A.length X ∧ ziw w A.length X ≤ 2 * X.length) ∧ 0 ≤ zih a b A.length X ∧ 0 ≤ zil a b A.length X ∧ zih a b A.length X + zil a b A.length X ≤ 2 * X.length := by
  have h180 := hC.1
  have lL : L.length = A.length + (X.length + B.length) := by rw [hL]; simp
  rcases hX with ⟨m, rfl, h1, h2⟩ | ⟨k, I, rfl, h1, h2, hI⟩ | ⟨I, J, rfl, hI, hJ⟩
  · have hm := (hC.at (A := A) (m := m) (T := B) (by rw [hL]; rfl) hx).1
    have e2 : zih a b A.length [m] = 0 := by simp only [zih]; rw [if_neg (by omega), if_neg (by omega), if_neg (by omega)]
    have e3 : zil a b A.length [m] = 0 := by simp only [zil]; rw [if_neg (by omega), if_neg (by omega), if_neg (by omega)]
    rw [ziw_sy h1.1, e2, e3]
    refine ⟨?_, ?_, ?_, by simp, by omega, by omega, by omega⟩
    · unfold f_X4_itemWidth
      simp (disch := omega) only [hm, z_bd, z_jn, z_eq_f]
    · unfold f_X4_itemAbove
      simp (disch := omega) only [hm, z_bd, z_jn, z_eq_f]
    · unfold f_X4_itemBelow
      simp (disch := omega) only [hm, z_bd, z_jn, z_eq_f]
  · have hm := (hC.at (A := A) (m := k) (T := I ++ [k + 10] ++ B) (by rw [hL]; simp) hx).1
    have lX : (k :: (I ++ [k + 10])).length = I.length + 2 := by simp
    obtain ⟨⟨⟨v1, v2⟩, v3, v4, v5⟩, -⟩ := hs (A ++ [k]) I ((k + 10) :: B) (by rw [hL]; simp) (Or.inr ⟨A, k, rfl, by omega, by omega⟩) (Or.inr ⟨k + 10, B, rfl, by omega⟩) hI (by simp; omega)
    rw [show (A ++ [k]).length = A.length + 1 by simp] at v1 v2 v3 v4 v5
    have g1 := c_wd (w := w) (x := x + 1) (A.length + 1) (by omega) (by omega)
    have g2 := c_ab (w := a) (x := x + 1) (A.length + 1) (by omega) (by omega)
    have g3 := c_bl (w := b) (x := x + 1) (A.length + 1) (by omega) (by omega)
    have g4 := c_ln (a := a) (b := b) (x := x + 1) (A.length + 1) (by omega) (by omega)
    rw [ziw_k ⟨h1, h2⟩, lX]
    have hk : k = 2 ∨ k = 3 ∨ k = 4 ∨ k = 5 := by omega
    rcases hk with rfl | rfl | rfl | rfl
    · refine ⟨?_, ?_, ?_, by simp; omega, by simp [zih]; omega, by simp [zil], by simp [zih, zil]; omega⟩
      · unfold f_X4_itemWidth
        simp (disch := omega) only [hm, z_bd, z_jn, z_eq_f, z_eq_t, g1]
        simp
      · unfold f_X4_itemAbove
        simp (disch := omega) only [hm, z_bd, z_jn, z_eq_f, z_eq_t, g4]
        simp [zih]
      · unfold f_X4_itemBelow
        simp (disch := omega) only [hm, z_bd, z_jn, z_eq_f, z_eq_t]
        simp [zil]
    · refine ⟨?_, ?_, ?_, by simp; omega, by simp [zih], by simp [zil]; omega, by simp [zih, zil]; omega⟩
      · unfold f_X4_itemWidth
        simp (disch := omega) only [hm, z_bd, z_jn, z_eq_f, z_eq_t, g1]
        simp
      · unfold f_X4_itemAbove
        simp (disch := omega) only [hm, z_bd, z_jn, z_eq_f, z_eq_t]
        simp [zih]
      · unfold f_X4_itemBelow
        simp (disch := omega) only [hm, z_bd, z_jn, z_eq_f, z_eq_t, g4]
        simp [zil]
    · refine ⟨?_, ?_, ?_, by simp; omega, by simp [zih]; omega, by simp [zil]; omega, by simp [zih, zil]; omega⟩
      · unfold f_X4_itemWidth
        simp (disch := omega) only [hm, z_bd, z_jn, z_eq_f, z_eq_t, g1]
        simp; omega
      · unfold f_X4_itemAbove
        simp (disch := omega) only [hm, z_bd, z_jn, z_eq_f, z_eq_t, g2]
        simp [zih]
      · unfold f_X4_itemBelow
        simp (disch := omega) only [hm, z_bd, z_jn, z_eq_f, z_eq_t, g3]
        simp [zil]
    · refine ⟨?_, ?_, ?_, by simp; omega, by simp [zih]; omega, by simp [zil]; omega, by simp [zih, zil]; omega⟩
      · unfold f_X4_itemWidth
        simp (disch := omega) only [hm, z_bd, z_jn, z_eq_f, z_eq_t, g1]
        simp; omega
      · unfold f_X4_itemAbove
        simp (disch := omega) only [hm, z_bd, z_jn, z_eq_f, z_eq_t, g2]
        simp [zih]
      · unfold f_X4_itemBelow
        simp (disch := omega) only [hm, z_bd, z_jn, z_eq_f, z_eq_t, g3]
        simp [zil]
  · have hm := (hC.at (A := A) (m := 1) (T := I ++ 6 :: (J ++ [11]) ++ B) (by rw [hL]; simp) hx).1
    have lX : (1 :: (I ++ 6 :: (J ++ [11]))).length = I.length + J.length + 3 := by simp; omega
    obtain ⟨⟨⟨v1, v2⟩, v3, v4, v5⟩, -⟩ := hs (A ++ [1]) I (6 :: (J ++ [11] ++ B)) (by rw [hL]; simp) (Or.inr ⟨A, 1, rfl, by omega, by omega⟩) (Or.inr ⟨6, _, rfl, by omega⟩) hI (by simp; omega)
    rw [show (A ++ [(1 : Int)]).length = A.length + 1 from by simp] at v1 v2 v3 v4 v5
    obtain ⟨⟨⟨u1, u2⟩, u3, u4, u5⟩, -⟩ := hs (A ++ 1 :: (I ++ [6])) J (11 :: B) (by rw [hL]; simp) (Or.inr ⟨A ++ 1 :: I, 6, by simp, by omega, by omega⟩) (Or.inr ⟨11, _, rfl, by omega⟩) hJ (by simp; omega)
    rw [show (A ++ 1 :: (I ++ [(6 : Int)])).length = A.length + I.length + 2 from by simp; omega] at u1 u2 u3 u4 u5
    have g1 := c_wd (w := w) (x := x + 1) (A.length + 1) (by omega) (by omega)
    have g4 := c_ln (a := a) (b := b) (x := x + 1) (A.length + 1) (by omega) (by omega)
    have g5 := c_ss hC (A := A) (I := I) (T := J ++ [11] ++ B) (by rw [hL]; simp) hI hx
    have g6 := c_wd (w := w) (x := (A.length : Int) + I.length + 2) (A.length + I.length + 2) (by omega) (by omega)
    have g7 := c_ln (a := a) (b := b) (x := (A.length : Int) + I.length + 2) (A.length + I.length + 2) (by omega) (by omega)
    have hre : zre 0 (I ++ 6 :: (J ++ [11])) = I.length := zre_at (Or.inr ⟨6, _, rfl, by omega⟩) hI
    have e2 : zih a b A.length (1 :: (I ++ 6 :: (J ++ [11]))) = a (A.length + 1) + 1 + b (A.length + 1) := by simp [zih]
    have e3 : zil a b A.length (1 :: (I ++ 6 :: (J ++ [11]))) = a (A.length + I.length + 2) + 1 + b (A.length + I.length + 2) := by simp [zil, hre]
    have hmx := mx_s (w (A.length + 1)) (w (A.length + I.length + 2))
    rw [ziw_1 hI, e2, e3, lX]
    refine ⟨?_, ?_, ?_, by omega, by omega, by omega, by omega⟩
    · unfold f_X4_itemWidth
      simp (disch := omega) only [hm, z_bd, z_jn, z_eq_t, g1, g5, g6, z_gR]
    · unfold f_X4_itemAbove
      simp (disch := omega) only [hm, z_bd, z_jn, z_eq_t, g4]
    · unfold f_X4_itemBelow
      simp (disch := omega) only [hm, z_bd, z_jn, z_eq_t, g5, g7]
end zpi
