/-! the reader: one sign more, in the reference -/
section zst8
variable {ts rs dp y1 y2 c rs1 rs2 rs3 dp2 : Int} {tx bel cha fac ope own pla rd bel1 cha1 pla1 rd1 rd2 rd3 bel3 cha3 ope3 own3 pla3 fac1 : Nat → Int} {fu : Nat} {e : Int × Int × (Nat → Int) × (Nat → Int) × (Nat → Int) × (Nat → Int) × (Nat → Int) × (Nat → Int) × (Nat → Int) × Int × Int → Option (Int × Int × Int × (Nat → Int) × (Nat → Int) × (Nat → Int) × (Nat → Int) × (Nat → Int) × (Nat → Int) × (Nat → Int))}
theorem r_st_blank (hy : 0 ≤ y2 ∧ y2 < ts ∧ ts ≤ 120) (hc : tx y2.toNat = 32) (h1 : y1 = 0 ∨ y1 = 1) (hcl : f_X8_closeChain rs dp bel cha fac pla rd = some (rs1, bel1, cha1, pla1, rd1)) : f_X8_readText_19 ts tx e (fu + 1) rs dp bel cha fac ope own pla rd y1 y2 = f_X8_readText_19 ts tx e fu rs1 dp bel1 cha1 fac ope own pla1 rd1 0 (y2 + 1) := by
  have l1 : f_X8_isLetter 32 = some 0 := by decide
  have l2 : f_X8_isDigit 32 = some 0 := by decide
  rw [f_X8_readText_19, z_lt_t (by omega), z_in (by omega), hc, l1]
  simp (disch := omega) only [z_bd, z_jn, z_lt_f, z_eq_t, z_eq_f, l2, hcl]
theorem r_st_mark (hy : 0 ≤ y2 ∧ y2 < ts ∧ ts ≤ 120) (hc : tx y2.toNat = c) (hm : c = 43 ∨ c = 45 ∨ c = 42 ∨ c = 61 ∨ c = 44 ∨ c = 46) (h1 : y1 = 0 ∨ y1 = 1) (hcl : f_X8_closeChain rs dp bel cha fac pla rd = some (rs1, bel1, cha1, pla1, rd1)) (had : f_X8_add rs1 rd1 c = some (rs2, rd2)) : f_X8_readText_19 ts tx e (fu + 1) rs dp bel cha fac ope own pla rd y1 y2 = f_X8_readText_19 ts tx e fu rs2 dp bel1 cha1 fac ope own pla1 rd2 0 (y2 + 1) := by
  have l1 : f_X8_isLetter c = some 0 := by rcases hm with h | h | h | h | h | h <;> subst h <;> decide
  have l2 : f_X8_isDigit c = some 0 := by rcases hm with h | h | h | h | h | h <;> subst h <;> decide
  have l3 : f_X8_isMark c = some 1 := by rcases hm with h | h | h | h | h | h <;> subst h <;> decide
  rw [f_X8_readText_19, z_lt_t (by omega), z_in (by omega), hc, l1]
  simp (disch := omega) only [z_bd, z_jn, z_lt_f, z_eq_t, z_eq_f, l2, l3, hcl, had]
/-- a letter or a digit -/
def zld (c : Int) : Prop := ((97 ≤ c ∧ c ≤ 122) ∧ c ≠ 114) ∨ (48 ≤ c ∧ c ≤ 57)
theorem r_st_pre (hy : 0 ≤ y2 ∧ y2 < ts ∧ ts ≤ 120) (hc : tx y2.toNat = c) (hm : zld c) : (f_X8_isLetter c = some 1) ∨ (f_X8_isLetter c = some 0 ∧ f_X8_isDigit c = some 1) := by
  have hr : -2147483648 ≤ c ∧ c ≤ 2147483647 := by unfold zld at hm; omega
  rcases hm with hm | hm
  · left; rw [r_le hr]; unfold zle; rw [decide_eq_true hm]; rfl
  · right
    constructor
    · rw [r_le hr]; unfold zle; rw [decide_eq_false (by omega)]; rfl
    · rw [r_di hr]; unfold zdi; rw [decide_eq_true hm]; rfl
theorem r_st_item (hy : 0 ≤ y2 ∧ y2 < ts ∧ ts ≤ 120) (hc : tx y2.toNat = c) (hm : zld c) (h1 : y1 = 0 ∨ y1 = 1) (hd : 0 ≤ dp ∧ dp < 128) (hcl : f_X8_closeChain rs dp bel cha fac pla rd = some (rs1, bel1, cha1, pla1, rd1)) (had : f_X8_add rs1 rd1 c = some (rs2, rd2)) : f_X8_readText_19 ts tx e (fu + 1) rs dp bel cha fac ope own pla rd y1 y2 = f_X8_readText_19 ts tx e fu rs2 dp bel1 (va_up cha1 dp.toNat rs1) (va_up fac dp.toNat rs1) ope own (va_up pla1 dp.toNat 0) rd2 1 (y2 + 1) := by
  have hm' := hm
  unfold zld at hm'
  rcases r_st_pre hy hc hm with l1 | ⟨l1, l2⟩
  · rw [f_X8_readText_19, z_lt_t (by omega), z_in (by omega), hc, l1]
    simp (disch := omega) only [z_bd, z_jn, z_lt_f, z_lt_t, z_eq_t, z_eq_f, z_in, z_gB, hcl, had]
  · rw [f_X8_readText_19, z_lt_t (by omega), z_in (by omega), hc, l1]
    simp (disch := omega) only [z_bd, z_jn, z_lt_f, z_lt_t, z_eq_t, z_eq_f, z_in, z_gB, l2, hcl, had]
theorem r_st_item2 (hy : 0 ≤ y2 ∧ y2 < ts ∧ ts ≤ 120) (hc : tx y2.toNat = c) (hm : zld c) (h1 : y1 = 2) (hd : 0 ≤ dp ∧ dp < 128) (had : f_X8_add rs rd c = some (rs2, rd2)) : f_X8_readText_19 ts tx e (fu + 1) rs dp bel cha fac ope own pla rd y1 y2 = f_X8_readText_19 ts tx e fu rs2 dp bel cha fac ope own (va_up pla dp.toNat 0) rd2 1 (y2 + 1) := by
  have hm' := hm
  unfold zld at hm'
  rcases r_st_pre hy hc hm with l1 | ⟨l1, l2⟩
  · rw [f_X8_readText_19, z_lt_t (by omega), z_in (by omega), hc, l1]
    simp (disch := omega) only [z_bd, z_jn, z_lt_f, z_lt_t, z_eq_t, z_eq_f, z_in, z_gB, had]
  · rw [f_X8_readText_19, z_lt_t (by omega), z_in (by omega), hc, l1]
    simp (disch := omega) only [z_bd, z_jn, z_lt_f, z_lt_t, z_eq_t, z_eq_f, z_in, z_gB, l2, had]
theorem r_st_item3 (hy : 0 ≤ y2 ∧ y2 < ts ∧ ts ≤ 120) (hc : tx y2.toNat = c) (hm : zld c) (h1 : y1 = 3) (hd : 0 ≤ dp ∧ dp < 128) (had : f_X8_add rs rd c = some (rs2, rd2)) (had2 : f_X8_add rs2 rd2 (-11) = some (rs3, rd3)) (ho : own dp.toNat = 0 ∨ own dp.toNat = 1) : f_X8_readText_19 ts tx e (fu + 1) rs dp bel cha fac ope own pla rd y1 y2 = f_X8_readText_19 ts tx e fu rs3 dp bel cha fac ope own (va_up pla dp.toNat 0) rd3 (own dp.toNat) (y2 + 1) := by
  have hm' := hm
  unfold zld at hm'
  rcases ho with ho | ho <;> rw [ho] <;> rcases r_st_pre hy hc hm with l1 | ⟨l1, l2⟩ <;> rw [f_X8_readText_19, z_lt_t (by omega), z_in (by omega), hc, l1]
  · simp (disch := omega) only [z_bd, z_jn, z_lt_f, z_lt_t, z_eq_t, z_eq_f, z_in, z_gB, ho, had, had2]
  · simp (disch := omega) only [z_bd, z_jn, z_lt_f, z_lt_t, z_eq_t, z_eq_f, z_in, z_gB, ho, l2, had, had2]
  · simp (disch := omega) only [z_bd, z_jn, z_lt_f, z_lt_t, z_eq_t, z_eq_f, z_in, z_gB, ho, had, had2]
  · simp (disch := omega) only [z_bd, z_jn, z_lt_f, z_lt_t, z_eq_t, z_eq_f, z_in, z_gB, ho, l2, had, had2]
theorem r_st_open (hy : 0 ≤ y2 ∧ y2 < ts ∧ ts ≤ 120) (hc : tx y2.toNat = 40) (h1 : y1 = 0 ∨ y1 = 1) (hd : 0 ≤ dp ∧ dp < 128) (hcl : f_X8_closeChain rs dp bel cha fac pla rd = some (rs1, bel1, cha1, pla1, rd1)) (had : f_X8_add rs1 rd1 (-5) = some (rs2, rd2)) (hop : f_X8_openRow dp bel1 (va_up cha1 dp.toNat rs1) ope own pla1 1 = some (dp2, bel3, cha3, ope3, own3, pla3)) : f_X8_readText_19 ts tx e (fu + 1) rs dp bel cha fac ope own pla rd y1 y2 = f_X8_readText_19 ts tx e fu rs2 dp2 bel3 cha3 (va_up fac dp.toNat rs1) ope3 own3 pla3 rd2 0 (y2 + 1) := by
  have l1 : f_X8_isLetter 40 = some 0 := by decide
  have l2 : f_X8_isDigit 40 = some 0 := by decide
  rw [f_X8_readText_19, z_lt_t (by omega), z_in (by omega), hc, l1]
  simp (disch := omega) only [z_bd, z_jn, z_lt_f, z_lt_t, z_eq_t, z_eq_f, z_in, z_gB, l2, hcl, had, hop]
theorem r_st_open2 (hy : 0 ≤ y2 ∧ y2 < ts ∧ ts ≤ 120) (hc : tx y2.toNat = 40) (h1 : y1 = 2) (hd : 0 ≤ dp ∧ dp < 128) (had : f_X8_add rs rd (-5) = some (rs2, rd2)) (hop : f_X8_openRow dp bel cha ope own pla 1 = some (dp2, bel3, cha3, ope3, own3, pla3)) : f_X8_readText_19 ts tx e (fu + 1) rs dp bel cha fac ope own pla rd y1 y2 = f_X8_readText_19 ts tx e fu rs2 dp2 bel3 cha3 fac ope3 own3 pla3 rd2 0 (y2 + 1) := by
  have l1 : f_X8_isLetter 40 = some 0 := by decide
  have l2 : f_X8_isDigit 40 = some 0 := by decide
  rw [f_X8_readText_19, z_lt_t (by omega), z_in (by omega), hc, l1]
  simp (disch := omega) only [z_bd, z_jn, z_lt_f, z_lt_t, z_eq_t, z_eq_f, z_in, z_gB, l2, had, hop]
theorem r_st_open3 (hy : 0 ≤ y2 ∧ y2 < ts ∧ ts ≤ 120) (hc : tx y2.toNat = 40) (h1 : y1 = 3) (hd : 0 ≤ dp ∧ dp < 128) (hop : f_X8_openRow dp bel cha ope own pla 3 = some (dp2, bel3, cha3, ope3, own3, pla3)) : f_X8_readText_19 ts tx e (fu + 1) rs dp bel cha fac ope own pla rd y1 y2 = f_X8_readText_19 ts tx e fu rs dp2 bel3 cha3 fac ope3 own3 pla3 rd 0 (y2 + 1) := by
  have l1 : f_X8_isLetter 40 = some 0 := by decide
  have l2 : f_X8_isDigit 40 = some 0 := by decide
  rw [f_X8_readText_19, z_lt_t (by omega), z_in (by omega), hc, l1]
  simp (disch := omega) only [z_bd, z_jn, z_lt_f, z_lt_t, z_eq_t, z_eq_f, z_in, z_gB, l2, hop]
theorem r_st_root (hy : 0 ≤ y2 ∧ y2 < ts ∧ ts ≤ 120) (hc : tx y2.toNat = 114) (hn : y2 + 1 < ts ∧ tx (y2 + 1).toNat = 40) (h1 : y1 = 0 ∨ y1 = 1) (hd : 0 ≤ dp ∧ dp < 128) (hcl : f_X8_closeChain rs dp bel cha fac pla rd = some (rs1, bel1, cha1, pla1, rd1)) (had : f_X8_add rs1 rd1 (-4) = some (rs2, rd2)) (hop : f_X8_openRow dp bel1 (va_up cha1 dp.toNat rs1) ope own pla1 2 = some (dp2, bel3, cha3, ope3, own3, pla3)) : f_X8_readText_19 ts tx e (fu + 1) rs dp bel cha fac ope own pla rd y1 y2 = f_X8_readText_19 ts tx e fu rs2 dp2 bel3 cha3 (va_up fac dp.toNat rs1) ope3 own3 pla3 rd2 0 (y2 + 1 + 1) := by
  have l1 : f_X8_isLetter 114 = some 0 := by decide
  have l2 : f_X8_isDigit 114 = some 0 := by decide
  rw [f_X8_readText_19, z_lt_t (by omega), z_in (by omega), hc, l1]
  simp (disch := omega) only [z_bd, z_jn, z_lt_f, z_lt_t, z_eq_t, z_eq_f, z_in, z_gB, l2, hn.2, hcl, had, hop]
theorem r_st_root2 (hy : 0 ≤ y2 ∧ y2 < ts ∧ ts ≤ 120) (hc : tx y2.toNat = 114) (hn : y2 + 1 < ts ∧ tx (y2 + 1).toNat = 40) (h1 : y1 = 2) (hd : 0 ≤ dp ∧ dp < 128) (had : f_X8_add rs rd (-4) = some (rs2, rd2)) (hop : f_X8_openRow dp bel cha ope own pla 2 = some (dp2, bel3, cha3, ope3, own3, pla3)) : f_X8_readText_19 ts tx e (fu + 1) rs dp bel cha fac ope own pla rd y1 y2 = f_X8_readText_19 ts tx e fu rs2 dp2 bel3 cha3 fac ope3 own3 pla3 rd2 0 (y2 + 1 + 1) := by
  have l1 : f_X8_isLetter 114 = some 0 := by decide
  have l2 : f_X8_isDigit 114 = some 0 := by decide
  rw [f_X8_readText_19, z_lt_t (by omega), z_in (by omega), hc, l1]
  simp (disch := omega) only [z_bd, z_jn, z_lt_f, z_lt_t, z_eq_t, z_eq_f, z_in, z_gB, l2, hn.2, had, hop]
theorem r_st_root3 (hy : 0 ≤ y2 ∧ y2 < ts ∧ ts ≤ 120) (hc : tx y2.toNat = 114) (hn : y2 + 1 < ts ∧ tx (y2 + 1).toNat = 40) (h1 : y1 = 3) (hd : 0 ≤ dp ∧ dp < 128) (had : f_X8_add rs rd (-4) = some (rs2, rd2)) (hop : f_X8_openRow dp bel cha ope own pla 4 = some (dp2, bel3, cha3, ope3, own3, pla3)) : f_X8_readText_19 ts tx e (fu + 1) rs dp bel cha fac ope own pla rd y1 y2 = f_X8_readText_19 ts tx e fu rs2 dp2 bel3 cha3 fac ope3 own3 pla3 rd2 0 (y2 + 1 + 1) := by
  have l1 : f_X8_isLetter 114 = some 0 := by decide
  have l2 : f_X8_isDigit 114 = some 0 := by decide
  rw [f_X8_readText_19, z_lt_t (by omega), z_in (by omega), hc, l1]
  simp (disch := omega) only [z_bd, z_jn, z_lt_f, z_lt_t, z_eq_t, z_eq_f, z_in, z_gB, l2, hn.2, had, hop]
end zst8
