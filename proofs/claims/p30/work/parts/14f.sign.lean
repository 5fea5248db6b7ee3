/-! the drawing: what both do at an item -/
/-- what the reference does at an item -/
def zE (R hi iw lo wi : Nat → Int) (fu2 : Nat) : Int × Int × Int → Option Int := fun (z4 : Int × Int × Int) => gIn z4.2.2 184 (jn (fun (z23 : Int × Int × Int) => f_X8_signAt_9 184 hi iw lo wi R fu2 z23.1 z23.2.1 z23.2.2) (fun k5 => cEq (R z4.2.2.toNat) (-5) (jn (fun (z7 : Unit) => gR z4.2.1 (gIn (z4.2.2 + 1) 512 (gR (-(hi (z4.2.2 + 1).toNat)) (gIn (z4.2.2 + 1) 512 (gR (lo (z4.2.2 + 1).toNat) (bd (f_X8_in z4.2.1 (-(hi (z4.2.2 + 1).toNat)) (lo (z4.2.2 + 1).toNat)) (fun r8 => jn (fun (z10 : Int) => some z10) (fun k9 => cEq r8 0 (k9 32) (cEq z4.1 0 (k9 40) (k9 41)))))))))) (fun k6 => cEq z4.1 0 (k6 ()) (gIn z4.2.2 512 (cEq z4.1 ((iw z4.2.2.toNat) - 1) (k6 ()) (k5 (z4.2.2 + 1, z4.1 + (-1), z4.2.1)))))) (cEq (R z4.2.2.toNat) (-4) (gIn (z4.2.2 + 1) 512 (cEq z4.2.1 ((-(hi (z4.2.2 + 1).toNat)) - 1) (jn (fun (z15 : Int) => some z15) (fun k14 => cLt 0 z4.1 (k14 95) (k14 32))) (cEq z4.1 0 (gR z4.2.1 (gIn (z4.2.2 + 1) 512 (gR (-(hi (z4.2.2 + 1).toNat)) (gIn (z4.2.2 + 1) 512 (gR (lo (z4.2.2 + 1).toNat) (bd (f_X8_in z4.2.1 (-(hi (z4.2.2 + 1).toNat)) (lo (z4.2.2 + 1).toNat)) (fun r11 => jn (fun (z13 : Int) => some z13) (fun k12 => cEq r11 0 (k12 32) (k12 86))))))))) (k5 (z4.2.2 + 1, z4.1 + (-1), z4.2.1))))) (cEq (R z4.2.2.toNat) (-3) (cLt 0 z4.2.1 (gIn (z4.2.2 + 1) 512 (k5 (z4.2.2 + 1, z4.1, z4.2.1 - (1 + (hi (z4.2.2 + 1).toNat))))) (some 32)) (cEq (R z4.2.2.toNat) (-2) (cLt z4.2.1 0 (gIn (z4.2.2 + 1) 512 (k5 (z4.2.2 + 1, z4.1, z4.2.1 + (1 + (lo (z4.2.2 + 1).toNat))))) (some 32)) (cEq (R z4.2.2.toNat) (-1) (cEq z4.2.1 0 (some 45) (jn (fun (z18 : Int) => gIn z4.2.2 512 (gIn z18 512 (gR ((iw z4.2.2.toNat) - (wi z18.toNat)) (jn (fun (z20 : Int) => k5 (z18, z4.1 - (((iw z4.2.2.toNat) - (wi z18.toNat)).tdiv 2), z20)) (fun k19 => cLt z4.2.1 0 (gIn z18 512 (k19 ((z4.2.1 + 1) + (lo z18.toNat)))) (gIn z18 512 (k19 ((z4.2.1 - 1) - (hi z18.toNat))))))))) (fun k16 => cLt z4.2.1 0 (k16 (z4.2.2 + 1)) (bd (f_X8_rowEnd 184 R (z4.2.2 + 1)) (fun r17 => k16 (r17 + 1)))))) (jn (fun (z22 : Int) => some z22) (fun k21 => cEq z4.2.1 0 (gIn z4.2.2 184 (k21 (R z4.2.2.toNat))) (k21 32)))))))))
theorem bd_eta4 {x : Option (Int × Int × Int × Int)} : bd x (fun r => some (r.1, r.2.1, r.2.2.1, r.2.2.2)) = x := by
  unfold bd
  cases x <;> rfl
section zpe
variable {n : Int} {F R : Nat → Int} {L : List Int} {w a b wi hi lo iw : Nat → Int}
theorem r_inrow (hR : zRy 184 R L) {U T Q : List Int} (hL : L = U ++ (T ++ Q)) (hQ : zbeg Q) (hT : zbal T) {x h : Int} (fu2 : Nat) (hv : wi U.length = w U.length ∧ hi U.length = a U.length ∧ lo U.length = b U.length) (hb : zib w a b U.length x h) (hw : w U.length ≤ 1000 ∧ 0 ≤ a U.length ∧ 0 ≤ b U.length ∧ a U.length + b U.length ≤ 1000) : f_X8_signAt_9 184 hi iw lo wi R (fu2 + 1) (U.length : Int) x h = cEq (U.length : Int) ((U.length : Int) + T.length) (some 63) (f_X8_signAt_72 184 hi iw lo wi R (zE R hi iw lo wi fu2) fuel x h (U.length : Int)) := by
  have h3 := hR.2
  have lL : L.length = U.length + (T.length + Q.length) := by rw [hL]; simp
  have hU0 : ((U.length : Nat) : Int).toNat = U.length := Int.toNat_natCast _
  have re := r_re hR (A := U) (R := T) (Q := Q) hL hQ hT (x := (U.length : Int)) rfl
  obtain ⟨v6, v7, v8⟩ := hv
  obtain ⟨⟨hx0, hxw⟩, hh0, hh1⟩ := hb
  rw [f_X8_signAt_9, z_jn, z_lt_f (by omega), z_in (by omega), hU0, v6, z_lt_t (by omega), z_in (by omega), v7, z_lt_f (by omega), z_in (by omega), v8, z_lt_f (by omega), re, z_bd]
  rfl
section zEs
variable {p fu : Nat} {x h : Int}
theorem zE_sy {m : Int} (hp : p < 184) (hr : R p = m) (hm : 42 ≤ m ∧ m ≤ 122) (hb : -2000 ≤ h ∧ h ≤ 2000) : zE R hi iw lo wi fu (x, h, (p : Int)) = some (if h = 0 then m else 32) := by
  have hP0 : ((p : Nat) : Int).toNat = p := Int.toNat_natCast _
  unfold zE
  by_cases hh : h = 0
  · simp (disch := omega) only [z_in, hP0, hr, z_jn, z_eq_f, z_eq_t, if_pos]
  · simp (disch := omega) only [z_in, hP0, hr, z_jn, z_eq_f, if_neg]
theorem zE_2 (hp : p < 184) (hr : R p = -2) (hb : -2000 ≤ h ∧ h ≤ 2000) : zE R hi iw lo wi fu (x, h, (p : Int)) = if h < 0 then f_X8_signAt_9 184 hi iw lo wi R fu ((p : Int) + 1) x (h + (1 + lo (p + 1))) else some 32 := by
  have hP0 : ((p : Nat) : Int).toNat = p := Int.toNat_natCast _
  have hP1 : ((p : Int) + 1).toNat = p + 1 := by omega
  unfold zE
  by_cases hh : h < 0
  · simp (disch := omega) only [z_in, hP0, hP1, hr, z_jn, z_eq_f, z_eq_t, z_lt_t, if_pos]
  · simp (disch := omega) only [z_in, hP0, hr, z_jn, z_eq_f, z_eq_t, z_lt_f, if_neg]
theorem zE_3 (hp : p < 184) (hr : R p = -3) (hb : -2000 ≤ h ∧ h ≤ 2000) : zE R hi iw lo wi fu (x, h, (p : Int)) = if 0 < h then f_X8_signAt_9 184 hi iw lo wi R fu ((p : Int) + 1) x (h - (1 + hi (p + 1))) else some 32 := by
  have hP0 : ((p : Nat) : Int).toNat = p := Int.toNat_natCast _
  have hP1 : ((p : Int) + 1).toNat = p + 1 := by omega
  unfold zE
  by_cases hh : 0 < h
  · simp (disch := omega) only [z_in, hP0, hP1, hr, z_jn, z_eq_f, z_eq_t, z_lt_t, if_pos]
  · simp (disch := omega) only [z_in, hP0, hr, z_jn, z_eq_f, z_eq_t, z_lt_f, if_neg]
theorem zE_4 (hp : p < 184) (hr : R p = -4) (hb : -2000 ≤ h ∧ h ≤ 2000 ∧ -2000 ≤ x ∧ x ≤ 2000) (hs : 0 ≤ hi (p + 1) ∧ 0 ≤ lo (p + 1) ∧ hi (p + 1) + lo (p + 1) ≤ 1000) : zE R hi iw lo wi fu (x, h, (p : Int)) = if h = -(hi (p + 1)) - 1 then some (if 0 < x then 95 else 32) else if x = 0 then some (if -(hi (p + 1)) ≤ h ∧ h ≤ lo (p + 1) then 86 else 32) else f_X8_signAt_9 184 hi iw lo wi R fu ((p : Int) + 1) (x + (-1)) h := by
  have hP0 : ((p : Nat) : Int).toNat = p := Int.toNat_natCast _
  have hP1 : ((p : Int) + 1).toNat = p + 1 := by omega
  unfold zE
  by_cases hh : h = -(hi (p + 1)) - 1
  · rw [if_pos hh]
    by_cases hx : 0 < x
    · simp (disch := omega) only [z_in, hP0, hP1, hr, z_jn, z_eq_f, z_eq_t, z_lt_t, if_pos]
    · simp (disch := omega) only [z_in, hP0, hP1, hr, z_jn, z_eq_f, z_eq_t, z_lt_f, if_neg]
  · rw [if_neg hh]
    by_cases hx : x = 0
    · rw [if_pos hx]
      by_cases hi2 : -(hi (p + 1)) ≤ h ∧ h ≤ lo (p + 1)
      · rw [if_pos hi2]
        simp (disch := omega) only [z_in, hP0, hP1, hr, z_jn, z_eq_f, z_eq_t, z_gR, r_in_t, z_bd]
      · rw [if_neg hi2]
        simp (disch := omega) only [z_in, hP0, hP1, hr, z_jn, z_eq_f, z_eq_t, z_gR, r_in_f, z_bd]
    · rw [if_neg hx]
      simp (disch := omega) only [z_in, hP0, hP1, hr, z_jn, z_eq_f, z_eq_t]
theorem zE_5 (hp : p < 184) (hr : R p = -5) (hb : -2000 ≤ h ∧ h ≤ 2000 ∧ -2000 ≤ x ∧ x ≤ 2000) (hs : 0 ≤ hi (p + 1) ∧ 0 ≤ lo (p + 1) ∧ hi (p + 1) + lo (p + 1) ≤ 1000) (hi3 : 2 ≤ iw p ∧ iw p ≤ 2000) : zE R hi iw lo wi fu (x, h, (p : Int)) = if x = 0 ∨ x = iw p - 1 then some (if -(hi (p + 1)) ≤ h ∧ h ≤ lo (p + 1) then (if x = 0 then 40 else 41) else 32) else f_X8_signAt_9 184 hi iw lo wi R fu ((p : Int) + 1) (x + (-1)) h := by
  have hP0 : ((p : Nat) : Int).toNat = p := Int.toNat_natCast _
  have hP1 : ((p : Int) + 1).toNat = p + 1 := by omega
  unfold zE
  by_cases hx : x = 0
  · rw [if_pos (Or.inl hx)]
    by_cases hi2 : -(hi (p + 1)) ≤ h ∧ h ≤ lo (p + 1)
    · rw [if_pos hi2, if_pos hx]
      simp (disch := omega) only [z_in, hP0, hP1, hr, z_jn, z_eq_f, z_eq_t, z_gR, r_in_t, z_bd]
    · rw [if_neg hi2]
      simp (disch := omega) only [z_in, hP0, hP1, hr, z_jn, z_eq_f, z_eq_t, z_gR, r_in_f, z_bd]
  · by_cases hx2 : x = iw p - 1
    · rw [if_pos (Or.inr hx2)]
      by_cases hi2 : -(hi (p + 1)) ≤ h ∧ h ≤ lo (p + 1)
      · rw [if_pos hi2, if_neg hx]
        simp (disch := omega) only [z_in, hP0, hP1, hr, z_jn, z_eq_f, z_eq_t, z_gR, r_in_t, z_bd]
      · rw [if_neg hi2]
        simp (disch := omega) only [z_in, hP0, hP1, hr, z_jn, z_eq_f, z_eq_t, z_gR, r_in_f, z_bd]
    · rw [if_neg (by omega)]
      simp (disch := omega) only [z_in, hP0, hP1, hr, z_jn, z_eq_f, z_eq_t]
theorem zE_1 {e : Nat} (hp : p < 184) (hr : R p = -1) (hb : -2000 ≤ h ∧ h ≤ 2000) (he : f_X8_rowEnd 184 R ((p : Int) + 1) = some (e : Int)) (hes : e < 400) (hw : (-1000 ≤ iw p ∧ iw p ≤ 1000) ∧ (-1000 ≤ wi (p + 1) ∧ wi (p + 1) ≤ 1000) ∧ (-1000 ≤ wi (e + 1) ∧ wi (e + 1) ≤ 1000)) : zE R hi iw lo wi fu (x, h, (p : Int)) = if h = 0 then some 45 else if h < 0 then f_X8_signAt_9 184 hi iw lo wi R fu ((p : Int) + 1) (x - (iw p - wi (p + 1)).tdiv 2) (h + 1 + lo (p + 1)) else f_X8_signAt_9 184 hi iw lo wi R fu ((e : Int) + 1) (x - (iw p - wi (e + 1)).tdiv 2) (h - 1 - hi (e + 1)) := by
  have hP0 : ((p : Nat) : Int).toNat = p := Int.toNat_natCast _
  have hP1 : ((p : Int) + 1).toNat = p + 1 := by omega
  have hE1 : ((e : Int) + 1).toNat = e + 1 := by omega
  unfold zE
  by_cases h0 : h = 0
  · rw [if_pos h0]
    simp (disch := omega) only [z_in, hP0, hr, z_jn, z_eq_f, z_eq_t]
  · rw [if_neg h0]
    by_cases hh : h < 0
    · rw [if_pos hh]
      simp (disch := omega) only [z_in, hP0, hP1, hr, z_jn, z_eq_f, z_eq_t, z_lt_t, z_gR]
    · rw [if_neg hh]
      simp (disch := omega) only [z_in, hP0, hE1, hr, z_jn, z_eq_f, z_eq_t, z_lt_f, z_gR, he, z_bd]
end zEs
section zDs
variable {row p : Nat} {x h x' : Int}
/-- the class at an item, its kind given -/
theorem c_row_sy {m mf : Int} (hf : f_X3_mark 180 n F (row : Int) = some mf) (hf2 : (1 ≤ mf ∧ mf ≤ 5) ∨ 42 ≤ mf ∧ mf ≤ 122) (hc : f_X4_itemAtColumn 180 (row : Int) x w n F = some ((p : Int), x')) (hm : f_X3_mark 180 n F (p : Int) = some m) (h1 : 42 ≤ m ∧ m ≤ 122) (hb : -2000 ≤ h ∧ h ≤ 2000) : f_X4_signInRow 180 (row : Int) x h a b w n F = some (if h = 0 then m else 32, (row : Int), x', h) := by
  unfold f_X4_signInRow
  by_cases hh : h = 0
  · simp (disch := omega) only [hf, z_bd, c_st_t, z_eq_f, hc, hm, z_eq_t, z_jn, if_pos]
  · simp (disch := omega) only [hf, z_bd, c_st_t, z_eq_f, hc, hm, z_jn, if_neg]
theorem c_row_2 {mf : Int} (hf : f_X3_mark 180 n F (row : Int) = some mf) (hf2 : (1 ≤ mf ∧ mf ≤ 5) ∨ 42 ≤ mf ∧ mf ≤ 122) (hc : f_X4_itemAtColumn 180 (row : Int) x w n F = some ((p : Int), x')) (hm : f_X3_mark 180 n F (p : Int) = some 2) (hp : p < 180) : f_X4_signInRow 180 (row : Int) x h a b w n F = f_X4_enterSlot (row : Int) x' h a b w ((p : Int) + 1) 0 (-1 - b (p + 1)) := by
  have hbl := c_bl (w := b) (x := (p : Int) + 1) (p + 1) (by omega) (by omega)
  unfold f_X4_signInRow f_X4_upwards
  simp (disch := omega) only [hf, z_bd, c_st_t, z_eq_f, hc, hm, z_eq_t, hbl, bd_eta4]
theorem c_row_3 {mf : Int} (hf : f_X3_mark 180 n F (row : Int) = some mf) (hf2 : (1 ≤ mf ∧ mf ≤ 5) ∨ 42 ≤ mf ∧ mf ≤ 122) (hc : f_X4_itemAtColumn 180 (row : Int) x w n F = some ((p : Int), x')) (hm : f_X3_mark 180 n F (p : Int) = some 3) (hp : p < 180) : f_X4_signInRow 180 (row : Int) x h a b w n F = f_X4_enterSlot (row : Int) x' h a b w ((p : Int) + 1) 0 (1 + a (p + 1)) := by
  have hab := c_ab (w := a) (x := (p : Int) + 1) (p + 1) (by omega) (by omega)
  unfold f_X4_signInRow f_X4_downwards
  simp (disch := omega) only [hf, z_bd, c_st_t, z_eq_f, hc, hm, z_eq_t, hab, bd_eta4]
theorem c_row_4 {mf : Int} (hf : f_X3_mark 180 n F (row : Int) = some mf) (hf2 : (1 ≤ mf ∧ mf ≤ 5) ∨ 42 ≤ mf ∧ mf ≤ 122) (hc : f_X4_itemAtColumn 180 (row : Int) x w n F = some ((p : Int), x')) (hm : f_X3_mark 180 n F (p : Int) = some 4) (hp : p < 180) (hb : -2000 ≤ h ∧ h ≤ 2000 ∧ -2000 ≤ x' ∧ x' ≤ 2000) (hs : 0 ≤ a (p + 1) ∧ 0 ≤ b (p + 1) ∧ a (p + 1) + b (p + 1) ≤ 1000) : f_X4_signInRow 180 (row : Int) x h a b w n F = if h = -(a (p + 1)) - 1 then some (if 0 < x' then 95 else 32, (row : Int), x', h) else if x' = 0 then some (if -(a (p + 1)) ≤ h ∧ h ≤ b (p + 1) then 86 else 32, (row : Int), x', h) else f_X4_enterSlot (row : Int) x' h a b w ((p : Int) + 1) 1 0 := by
  have hab := c_ab (w := a) (x := (p : Int) + 1) (p + 1) (by omega) (by omega)
  have hbs := c_beside (a := a) (b := b) (q := p + 1) (h := h) (x := (p : Int) + 1) (by omega) (by omega) (by omega)
  unfold f_X4_signInRow f_X4_signInRoot
  by_cases hh : h = -(a (p + 1)) - 1
  · rw [if_pos hh]
    by_cases hx : 0 < x'
    · simp (disch := omega) only [hf, z_bd, c_st_t, z_eq_f, hc, hm, z_eq_t, hab, z_jn, z_lt_t, if_pos]
    · simp (disch := omega) only [hf, z_bd, c_st_t, z_eq_f, hc, hm, z_eq_t, hab, z_jn, z_lt_f, if_neg]
  · rw [if_neg hh]
    by_cases hx : x' = 0
    · rw [if_pos hx]
      by_cases hi2 : -(a (p + 1)) ≤ h ∧ h ≤ b (p + 1)
      · rw [decide_eq_true hi2, zbi_t] at hbs
        rw [if_pos hi2]
        simp (disch := omega) only [hf, z_bd, c_st_t, z_eq_f, hc, hm, z_eq_t, hab, z_jn, hbs]
      · rw [decide_eq_false hi2, zbi_f] at hbs
        rw [if_neg hi2]
        simp (disch := omega) only [hf, z_bd, c_st_t, z_eq_f, hc, hm, z_eq_t, hab, z_jn, hbs]
    · rw [if_neg hx]
      simp (disch := omega) only [hf, z_bd, c_st_t, z_eq_f, hc, hm, z_eq_t, hab, bd_eta4]
theorem c_row_5 {mf : Int} (hf : f_X3_mark 180 n F (row : Int) = some mf) (hf2 : (1 ≤ mf ∧ mf ≤ 5) ∨ 42 ≤ mf ∧ mf ≤ 122) (hc : f_X4_itemAtColumn 180 (row : Int) x w n F = some ((p : Int), x')) (hm : f_X3_mark 180 n F (p : Int) = some 5) (hp : p < 180) (hb : -2000 ≤ h ∧ h ≤ 2000 ∧ -2000 ≤ x' ∧ x' ≤ 2000) (hs : 0 ≤ a (p + 1) ∧ 0 ≤ b (p + 1) ∧ a (p + 1) + b (p + 1) ≤ 1000) (hw : 0 ≤ w (p + 1) ∧ w (p + 1) ≤ 1000) : f_X4_signInRow 180 (row : Int) x h a b w n F = if x' = 0 ∨ x' = w (p + 1) + 1 then some (if -(a (p + 1)) ≤ h ∧ h ≤ b (p + 1) then (if x' = 0 then 40 else 41) else 32, (row : Int), x', h) else f_X4_enterSlot (row : Int) x' h a b w ((p : Int) + 1) 1 0 := by
  have hwd := c_wd (w := w) (x := (p : Int) + 1) (p + 1) (by omega) (by omega)
  have hbs := c_beside (a := a) (b := b) (q := p + 1) (h := h) (x := (p : Int) + 1) (by omega) (by omega) (by omega)
  unfold f_X4_signInRow f_X4_signInParentheses
  by_cases hx : x' = 0
  · rw [if_pos (Or.inl hx)]
    by_cases hi2 : -(a (p + 1)) ≤ h ∧ h ≤ b (p + 1)
    · rw [decide_eq_true hi2, zbi_t] at hbs
      rw [if_pos hi2, if_pos hx]
      simp (disch := omega) only [hf, z_bd, c_st_t, z_eq_f, hc, hm, z_eq_t, z_jn, hbs]
    · rw [decide_eq_false hi2, zbi_f] at hbs
      rw [if_neg hi2]
      simp (disch := omega) only [hf, z_bd, c_st_t, z_eq_f, hc, hm, z_eq_t, z_jn, hbs]
  · by_cases hx2 : x' = w (p + 1) + 1
    · rw [if_pos (Or.inr hx2)]
      by_cases hi2 : -(a (p + 1)) ≤ h ∧ h ≤ b (p + 1)
      · rw [decide_eq_true hi2, zbi_t] at hbs
        rw [if_pos hi2, if_neg hx]
        simp (disch := omega) only [hf, z_bd, c_st_t, z_eq_f, hc, hm, z_eq_t, z_jn, hwd, hbs]
      · rw [decide_eq_false hi2, zbi_f] at hbs
        rw [if_neg hi2]
        simp (disch := omega) only [hf, z_bd, c_st_t, z_eq_f, hc, hm, z_eq_t, z_jn, hwd, hbs]
    · rw [if_neg (by omega)]
      simp (disch := omega) only [hf, z_bd, c_st_t, z_eq_f, hc, hm, z_eq_t, hwd, bd_eta4]
theorem c_row_1 {mf W : Int} {s : Nat} (hf : f_X3_mark 180 n F (row : Int) = some mf) (hf2 : (1 ≤ mf ∧ mf ≤ 5) ∨ 42 ≤ mf ∧ mf ≤ 122) (hc : f_X4_itemAtColumn 180 (row : Int) x w n F = some ((p : Int), x')) (hm : f_X3_mark 180 n F (p : Int) = some 1) (hp : p < 180) (hb : -2000 ≤ h ∧ h ≤ 2000) (hss : f_X3_secondSlot 180 n F (p : Int) = some (s : Int)) (hs : s ≤ 180) (hW : f_X4_itemWidth 180 w n F (p : Int) = some W) (hw : (-1000 ≤ W ∧ W ≤ 1000) ∧ (-1000 ≤ w (p + 1) ∧ w (p + 1) ≤ 1000) ∧ (-1000 ≤ w s ∧ w s ≤ 1000)) : f_X4_signInRow 180 (row : Int) x h a b w n F = if h = 0 then some (45, (row : Int), x', h) else if h < 0 then f_X4_enterSlot (row : Int) x' h a b w ((p : Int) + 1) ((W - w (p + 1)).tdiv 2) (-1 - b (p + 1)) else f_X4_enterSlot (row : Int) x' h a b w (s : Int) ((W - w s).tdiv 2) (1 + a s) := by
  have hw1 := c_wd (w := w) (x := (p : Int) + 1) (p + 1) (by omega) (by omega)
  have hw2 := c_wd (w := w) (x := (s : Int)) s rfl hs
  have hb1 := c_bl (w := b) (x := (p : Int) + 1) (p + 1) (by omega) (by omega)
  have ha2 := c_ab (w := a) (x := (s : Int)) s rfl hs
  unfold f_X4_signInRow f_X4_signInFraction f_X4_upwards f_X4_downwards
  by_cases h0 : h = 0
  · rw [if_pos h0]
    simp (disch := omega) only [hf, z_bd, c_st_t, z_eq_f, hc, hm, z_eq_t]
  · rw [if_neg h0]
    by_cases hh : h < 0
    · rw [if_pos hh]
      simp (disch := omega) only [hf, z_bd, c_st_t, z_eq_f, hc, hm, z_eq_t, z_jn, z_lt_t, hW, hw1, z_gR, hb1, bd_eta4]
    · rw [if_neg hh]
      simp (disch := omega) only [hf, z_bd, c_st_t, z_eq_f, hc, hm, z_eq_t, z_jn, z_lt_f, hss, hW, hw2, z_gR, ha2, bd_eta4]
end zDs
end zpe
