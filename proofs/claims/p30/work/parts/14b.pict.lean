/-! the drawing: the reference's box of an item; a row; the whole -/
section zpj
variable {n : Int} {F R : Nat → Int} {L : List Int} {w a b : Nat → Int}
theorem zup_up {F : Nat → Int} {k : Nat} {u v : Int} : va_up (va_up F k u) k v = va_up F k v := by
  funext j; simp only [va_up]; split <;> rfl
set_option maxHeartbeats 8000000 in
/-- one step of the reference's row -/
theorem r_box (hR : zRy 184 R L) {wi hi lo iw : Nat → Int} {q : Nat} {e : (Nat → Int) × (Nat → Int) × (Nat → Int) × (Nat → Int) × Int × Int → Option ((Nat → Int) × (Nat → Int) × (Nat → Int) × (Nat → Int))} (hs : zsl L w a b wi hi lo q) {A X B : List Int} (hL : L = A ++ (X ++ B)) (hX : zit X) (hq : q ≤ A.length) {E : Int} (hE : (A.length : Int) < E ∧ E ≤ 180) (hb : -2000 ≤ wi q ∧ wi q ≤ 2000 ∧ -2000 ≤ hi q ∧ hi q ≤ 2000 ∧ -2000 ≤ lo q ∧ lo q ≤ 2000) (fu : Nat) : f_X8_layRow_39 184 R (q : Int) e (fu + 1) hi iw lo wi E (A.length : Int) = f_X8_layRow_39 184 R (q : Int) e fu (va_up hi q (mxI (hi q) (zih a b A.length X))) (va_up iw A.length (ziw w A.length X)) (va_up lo q (mxI (lo q) (zil a b A.length X))) (va_up wi q (wi q + ziw w A.length X)) E ((A.length : Int) + X.length) := by
  have h180 := hR.2
  have lL : L.length = A.length + (X.length + B.length) := by rw [hL]; simp
  have ri := r_itemEnd hR.1 (A := A) (X := X) (T := B) hL hX (x := (A.length : Int)) rfl
  have hqn : ((q : Nat) : Int).toNat = q := Int.toNat_natCast q
  have hAn : ((A.length : Nat) : Int).toNat = A.length := Int.toNat_natCast _
  have hmxh : ∀ z : Int, mxI (hi q) z = if hi q < z then z else hi q := fun _ => rfl
  have hmxl : ∀ z : Int, mxI (lo q) z = if lo q < z then z else lo q := fun _ => rfl
  rcases hX with ⟨m, rfl, h1, h2⟩ | ⟨k, I, rfl, h1, h2, hI⟩ | ⟨I, J, rfl, hI, hJ⟩
  · have hm := (hR.1.at (A := A) (m := m) (T := B) (by rw [hL]; rfl) (x := (A.length : Int)) rfl).1
    rw [zr_sy h1.1, hAn] at hm
    have e2 : zih a b A.length [m] = 0 := by simp only [zih]; rw [if_neg (by omega), if_neg (by omega), if_neg (by omega)]
    have e3 : zil a b A.length [m] = 0 := by simp only [zil]; rw [if_neg (by omega), if_neg (by omega), if_neg (by omega)]
    rw [ziw_sy h1.1, e2, e3]
    by_cases g1 : hi q < 0 <;> by_cases g2 : lo q < 0 <;> simp (disch := omega) only [f_X8_layRow_39, z_lt_t, z_lt_f, z_in, hqn, hAn, hm, r_bg_f, z_bd, z_jn, z_eq_t, ri, zup_eq, mx_t, mx_f]
  · have hm := (hR.1.at (A := A) (m := k) (T := I ++ [k + 10] ++ B) (by rw [hL]; simp) (x := (A.length : Int)) rfl).1
    rw [zr_op ⟨by omega, h2⟩, hAn] at hm
    have lX : (k :: (I ++ [k + 10])).length = I.length + 2 := by simp
    obtain ⟨⟨⟨v1, v2⟩, v3, v4, v5⟩, v6, v7, v8⟩ := hs (A ++ [k]) I ((k + 10) :: B) (by rw [hL]; simp) (Or.inr ⟨A, k, rfl, by omega, by omega⟩) (Or.inr ⟨k + 10, B, rfl, by omega⟩) hI (by simp; omega)
    rw [show (A ++ [k]).length = A.length + 1 from by simp] at v1 v2 v3 v4 v5 v6 v7 v8
    have hA1 : ((A.length : Int) + 1).toNat = A.length + 1 := by omega
    rw [ziw_k ⟨h1, h2⟩]
    have hk : k = 2 ∨ k = 3 ∨ k = 4 ∨ k = 5 := by omega
    rcases hk with rfl | rfl | rfl | rfl
    · have e2 : zih a b A.length (2 :: (I ++ [2 + 10])) = a (A.length + 1) + 1 + b (A.length + 1) := by simp [zih]
      have e3 : zil a b A.length (2 :: (I ++ [2 + 10])) = 0 := by simp [zil]
      have e4 : w (A.length + 1) + (if (2 : Int) = 4 then 1 else if (2 : Int) = 5 then 2 else 0) = w (A.length + 1) + 0 := rfl
      rw [e2, e3, e4]
      by_cases g1 : hi q < a (A.length + 1) + 1 + b (A.length + 1) <;> by_cases g2 : lo q < 0 <;> simp (disch := omega) only [f_X8_layRow_39, z_lt_t, z_lt_f, z_in, hqn, hAn, hA1, hm, r_bg_t, z_bd, z_jn, z_eq_t, z_eq_f, ri, zup_eq, zup_up, mx_t, mx_f, v6, v7, v8]
    · have e2 : zih a b A.length (3 :: (I ++ [3 + 10])) = 0 := by simp [zih]
      have e3 : zil a b A.length (3 :: (I ++ [3 + 10])) = a (A.length + 1) + 1 + b (A.length + 1) := by simp [zil]
      have e4 : w (A.length + 1) + (if (3 : Int) = 4 then 1 else if (3 : Int) = 5 then 2 else 0) = w (A.length + 1) + 0 := rfl
      rw [e2, e3, e4]
      by_cases g1 : hi q < 0 <;> by_cases g2 : lo q < a (A.length + 1) + 1 + b (A.length + 1) <;> simp (disch := omega) only [f_X8_layRow_39, z_lt_t, z_lt_f, z_in, hqn, hAn, hA1, hm, r_bg_t, z_bd, z_jn, z_eq_t, z_eq_f, ri, zup_eq, zup_up, mx_t, mx_f, v6, v7, v8]
    · have e2 : zih a b A.length (4 :: (I ++ [4 + 10])) = a (A.length + 1) + 1 := by simp [zih]; omega
      have e3 : zil a b A.length (4 :: (I ++ [4 + 10])) = b (A.length + 1) := by simp [zil]
      have e4 : w (A.length + 1) + (if (4 : Int) = 4 then 1 else if (4 : Int) = 5 then 2 else 0) = w (A.length + 1) + 1 := rfl
      rw [e2, e3, e4]
      by_cases g1 : hi q < a (A.length + 1) + 1 <;> by_cases g2 : lo q < b (A.length + 1) <;> simp (disch := omega) only [f_X8_layRow_39, z_lt_t, z_lt_f, z_in, hqn, hAn, hA1, hm, r_bg_t, z_bd, z_jn, z_eq_t, z_eq_f, ri, zup_eq, zup_up, mx_t, mx_f, v6, v7, v8]
    · have e2 : zih a b A.length (5 :: (I ++ [5 + 10])) = a (A.length + 1) := by simp [zih]
      have e3 : zil a b A.length (5 :: (I ++ [5 + 10])) = b (A.length + 1) := by simp [zil]
      have e4 : w (A.length + 1) + (if (5 : Int) = 4 then 1 else if (5 : Int) = 5 then 2 else 0) = w (A.length + 1) + 2 := rfl
      rw [e2, e3, e4]
      by_cases g1 : hi q < a (A.length + 1) <;> by_cases g2 : lo q < b (A.length + 1) <;> simp (disch := omega) only [f_X8_layRow_39, z_lt_t, z_lt_f, z_in, hqn, hAn, hA1, hm, r_bg_t, z_bd, z_jn, z_eq_t, z_eq_f, ri, zup_eq, zup_up, mx_t, mx_f, v6, v7, v8]
  · have hm := (hR.1.at (A := A) (m := 1) (T := I ++ 6 :: (J ++ [11]) ++ B) (by rw [hL]; simp) (x := (A.length : Int)) rfl).1
    rw [zr_op ⟨by omega, by omega⟩, hAn] at hm
    have lX : (1 :: (I ++ 6 :: (J ++ [11]))).length = I.length + J.length + 3 := by simp; omega
    obtain ⟨⟨⟨v1, v2⟩, v3, v4, v5⟩, v6, v7, v8⟩ := hs (A ++ [1]) I (6 :: (J ++ [11] ++ B)) (by rw [hL]; simp) (Or.inr ⟨A, 1, rfl, by omega, by omega⟩) (Or.inr ⟨6, _, rfl, by omega⟩) hI (by simp; omega)
    rw [show (A ++ [(1 : Int)]).length = A.length + 1 from by simp] at v1 v2 v3 v4 v5 v6 v7 v8
    obtain ⟨⟨⟨u1, u2⟩, u3, u4, u5⟩, u6, u7, u8⟩ := hs (A ++ 1 :: (I ++ [6])) J (11 :: B) (by rw [hL]; simp) (Or.inr ⟨A ++ 1 :: I, 6, by simp, by omega, by omega⟩) (Or.inr ⟨11, _, rfl, by omega⟩) hJ (by simp; omega)
    rw [show (A ++ 1 :: (I ++ [(6 : Int)])).length = A.length + I.length + 2 from by simp; omega] at u1 u2 u3 u4 u5 u6 u7 u8
    have hre : zre 0 (I ++ 6 :: (J ++ [11])) = I.length := zre_at (Or.inr ⟨6, _, rfl, by omega⟩) hI
    have e2 : zih a b A.length (1 :: (I ++ 6 :: (J ++ [11]))) = a (A.length + 1) + 1 + b (A.length + 1) := by simp [zih]
    have e3 : zil a b A.length (1 :: (I ++ 6 :: (J ++ [11]))) = a (A.length + I.length + 2) + 1 + b (A.length + I.length + 2) := by simp [zil, hre]
    have rre := r_re hR (A := A ++ [1]) (R := I) (Q := 6 :: (J ++ [11] ++ B)) (by rw [hL]; simp) (Or.inr ⟨6, _, rfl, by omega⟩) hI (x := (A.length : Int) + 1) (by simp)
    rw [show (((A ++ [(1 : Int)]).length : Int) + I.length) = (A.length : Int) + 1 + I.length from by simp] at rre
    have hA1 : ((A.length : Int) + 1).toNat = A.length + 1 := by omega
    have hA2 : ((A.length : Int) + 1 + I.length + 1).toNat = A.length + I.length + 2 := by omega
    rw [ziw_1 hI, e2, e3]
    by_cases g1 : hi q < a (A.length + 1) + 1 + b (A.length + 1) <;> by_cases g2 : lo q < a (A.length + I.length + 2) + 1 + b (A.length + I.length + 2) <;> by_cases g3 : w (A.length + 1) < w (A.length + I.length + 2) <;> simp (disch := omega) only [f_X8_layRow_39, z_lt_t, z_lt_f, z_in, hqn, hAn, hA1, hA2, hm, r_bg_t, z_bd, z_jn, z_eq_t, z_eq_f, ri, rre, zup_eq, zup_up, mx_t, mx_f, v6, v7, v8, u6, u7, u8]
end zpj
