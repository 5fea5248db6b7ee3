/-! the reader: one sign more, in the reference: scripts, lines, ends, faults -/
section zst9
variable {ts rs dp y1 y2 c rs1 rs2 rs3 dp2 : Int} {tx bel cha fac ope own pla rd bel1 cha1 pla1 rd1 rd2 rd3 bel3 cha3 ope3 own3 pla3 fac1 : Nat → Int} {fu : Nat} {e : Int × Int × (Nat → Int) × (Nat → Int) × (Nat → Int) × (Nat → Int) × (Nat → Int) × (Nat → Int) × (Nat → Int) × Int × Int → Option (Int × Int × Int × (Nat → Int) × (Nat → Int) × (Nat → Int) × (Nat → Int) × (Nat → Int) × (Nat → Int) × (Nat → Int))}
theorem r_st_sup0 (hy : 0 ≤ y2 ∧ y2 < ts ∧ ts ≤ 120) (hc : tx y2.toNat = 94) (h1 : y1 = 0) (hd : 0 ≤ dp ∧ dp < 128) (hcl : f_X8_closeChain rs dp bel cha fac pla rd = some (rs1, bel1, cha1, pla1, rd1)) (had : f_X8_add rs1 rd1 (-2) = some (rs2, rd2)) : f_X8_readText_19 ts tx e (fu + 1) rs dp bel cha fac ope own pla rd y1 y2 = f_X8_readText_19 ts tx e fu rs2 dp bel1 cha1 fac ope (va_up own dp.toNat 0) (va_up pla1 dp.toNat 0) rd2 3 (y2 + 1) := by
  have l1 : f_X8_isLetter 94 = some 0 := by decide
  have l2 : f_X8_isDigit 94 = some 0 := by decide
  have l3 : f_X8_isMark 94 = some 0 := by decide
  rw [f_X8_readText_19, z_lt_t (by omega), z_in (by omega), hc, l1]
  simp (disch := omega) only [z_bd, z_jn, z_lt_f, z_lt_t, z_eq_t, z_eq_f, z_in, z_gB, l2, l3, zup_eq, hcl, had]
theorem r_st_sup1 (hy : 0 ≤ y2 ∧ y2 < ts ∧ ts ≤ 120) (hc : tx y2.toNat = 94) (h1 : y1 = 1) (hd : 0 ≤ dp ∧ dp < 128) (had : f_X8_add rs rd (-2) = some (rs2, rd2)) : f_X8_readText_19 ts tx e (fu + 1) rs dp bel cha fac ope own pla rd y1 y2 = f_X8_readText_19 ts tx e fu rs2 dp bel cha fac ope (va_up own dp.toNat 1) (va_up pla dp.toNat 0) rd2 3 (y2 + 1) := by
  have l1 : f_X8_isLetter 94 = some 0 := by decide
  have l2 : f_X8_isDigit 94 = some 0 := by decide
  have l3 : f_X8_isMark 94 = some 0 := by decide
  rw [f_X8_readText_19, z_lt_t (by omega), z_in (by omega), hc, l1]
  simp (disch := omega) only [z_bd, z_jn, z_lt_f, z_lt_t, z_eq_t, z_eq_f, z_in, z_gB, l2, l3, zup_eq, had]
theorem r_st_sub0 (hy : 0 ≤ y2 ∧ y2 < ts ∧ ts ≤ 120) (hc : tx y2.toNat = 95) (h1 : y1 = 0) (hd : 0 ≤ dp ∧ dp < 128) (hcl : f_X8_closeChain rs dp bel cha fac pla rd = some (rs1, bel1, cha1, pla1, rd1)) (had : f_X8_add rs1 rd1 (-3) = some (rs2, rd2)) : f_X8_readText_19 ts tx e (fu + 1) rs dp bel cha fac ope own pla rd y1 y2 = f_X8_readText_19 ts tx e fu rs2 dp bel1 cha1 fac ope (va_up own dp.toNat 0) (va_up pla1 dp.toNat 0) rd2 3 (y2 + 1) := by
  have l1 : f_X8_isLetter 95 = some 0 := by decide
  have l2 : f_X8_isDigit 95 = some 0 := by decide
  have l3 : f_X8_isMark 95 = some 0 := by decide
  rw [f_X8_readText_19, z_lt_t (by omega), z_in (by omega), hc, l1]
  simp (disch := omega) only [z_bd, z_jn, z_lt_f, z_lt_t, z_eq_t, z_eq_f, z_in, z_gB, l2, l3, zup_eq, hcl, had]
theorem r_st_sub1 (hy : 0 ≤ y2 ∧ y2 < ts ∧ ts ≤ 120) (hc : tx y2.toNat = 95) (h1 : y1 = 1) (hd : 0 ≤ dp ∧ dp < 128) (had : f_X8_add rs rd (-3) = some (rs2, rd2)) : f_X8_readText_19 ts tx e (fu + 1) rs dp bel cha fac ope own pla rd y1 y2 = f_X8_readText_19 ts tx e fu rs2 dp bel cha fac ope (va_up own dp.toNat 1) (va_up pla dp.toNat 0) rd2 3 (y2 + 1) := by
  have l1 : f_X8_isLetter 95 = some 0 := by decide
  have l2 : f_X8_isDigit 95 = some 0 := by decide
  have l3 : f_X8_isMark 95 = some 0 := by decide
  rw [f_X8_readText_19, z_lt_t (by omega), z_in (by omega), hc, l1]
  simp (disch := omega) only [z_bd, z_jn, z_lt_f, z_lt_t, z_eq_t, z_eq_f, z_in, z_gB, l2, l3, zup_eq, had]
theorem r_st_line (hy : 0 ≤ y2 ∧ y2 < ts ∧ ts ≤ 120) (hc : tx y2.toNat = 47) (h1 : y1 = 1) (hd : 0 ≤ dp ∧ dp < 128) (hln : f_X8_line rs dp bel cha fac pla rd = some (rs1, bel1, fac1, pla1, rd1)) : f_X8_readText_19 ts tx e (fu + 1) rs dp bel cha fac ope own pla rd y1 y2 = f_X8_readText_19 ts tx e fu rs1 dp bel1 cha fac1 ope own pla1 rd1 2 (y2 + 1) := by
  have l1 : f_X8_isLetter 47 = some 0 := by decide
  have l2 : f_X8_isDigit 47 = some 0 := by decide
  have l3 : f_X8_isMark 47 = some 0 := by decide
  rw [f_X8_readText_19, z_lt_t (by omega), z_in (by omega), hc, l1]
  simp (disch := omega) only [z_bd, z_jn, z_lt_f, z_lt_t, z_eq_t, z_eq_f, z_in, z_gB, l2, l3, hln]
theorem r_st_shut1 (hy : 0 ≤ y2 ∧ y2 < ts ∧ ts ≤ 120) (hc : tx y2.toNat = 41) (h1 : y1 = 0 ∨ y1 = 1) (hd : 0 < dp ∧ dp < 128) (ho : ope dp.toNat = 1) (hcl : f_X8_closeChain rs dp bel cha fac pla rd = some (rs1, bel1, cha1, pla1, rd1)) (had : f_X8_add rs1 rd1 (-11) = some (rs2, rd2)) : f_X8_readText_19 ts tx e (fu + 1) rs dp bel cha fac ope own pla rd y1 y2 = f_X8_readText_19 ts tx e fu rs2 (dp - 1) bel1 cha1 fac ope own (va_up pla1 (dp - 1).toNat 1) rd2 1 (y2 + 1) := by
  have l1 : f_X8_isLetter 41 = some 0 := by decide
  have l2 : f_X8_isDigit 41 = some 0 := by decide
  have l3 : f_X8_isMark 41 = some 0 := by decide
  rw [f_X8_readText_19, z_lt_t (by omega), z_in (by omega), hc, l1]
  simp (disch := omega) only [z_bd, z_jn, z_lt_f, z_lt_t, z_eq_t, z_eq_f, z_in, z_gB, l2, l3, ho, hcl, had]
theorem r_st_shut2 (hy : 0 ≤ y2 ∧ y2 < ts ∧ ts ≤ 120) (hc : tx y2.toNat = 41) (h1 : y1 = 0 ∨ y1 = 1) (hd : 0 < dp ∧ dp < 128) (ho : ope dp.toNat = 2) (hcl : f_X8_closeChain rs dp bel cha fac pla rd = some (rs1, bel1, cha1, pla1, rd1)) (had : f_X8_add rs1 rd1 (-11) = some (rs2, rd2)) : f_X8_readText_19 ts tx e (fu + 1) rs dp bel cha fac ope own pla rd y1 y2 = f_X8_readText_19 ts tx e fu rs2 (dp - 1) bel1 cha1 fac ope own (va_up pla1 (dp - 1).toNat 0) rd2 1 (y2 + 1) := by
  have l1 : f_X8_isLetter 41 = some 0 := by decide
  have l2 : f_X8_isDigit 41 = some 0 := by decide
  have l3 : f_X8_isMark 41 = some 0 := by decide
  rw [f_X8_readText_19, z_lt_t (by omega), z_in (by omega), hc, l1]
  simp (disch := omega) only [z_bd, z_jn, z_lt_f, z_lt_t, z_eq_t, z_eq_f, z_in, z_gB, l2, l3, ho, hcl, had]
theorem r_st_shut3 (hy : 0 ≤ y2 ∧ y2 < ts ∧ ts ≤ 120) (hc : tx y2.toNat = 41) (h1 : y1 = 0 ∨ y1 = 1) (hd : 0 < dp ∧ dp < 128) (ho : ope dp.toNat = 3) (hw : own (dp - 1).toNat = 0 ∨ own (dp - 1).toNat = 1) (hcl : f_X8_closeChain rs dp bel cha fac pla rd = some (rs1, bel1, cha1, pla1, rd1)) (had : f_X8_add rs1 rd1 (-11) = some (rs2, rd2)) : f_X8_readText_19 ts tx e (fu + 1) rs dp bel cha fac ope own pla rd y1 y2 = f_X8_readText_19 ts tx e fu rs2 (dp - 1) bel1 cha1 fac ope own (va_up pla1 (dp - 1).toNat 0) rd2 (own (dp - 1).toNat) (y2 + 1) := by
  have l1 : f_X8_isLetter 41 = some 0 := by decide
  have l2 : f_X8_isDigit 41 = some 0 := by decide
  have l3 : f_X8_isMark 41 = some 0 := by decide
  rcases hw with hw | hw <;> rw [hw, f_X8_readText_19, z_lt_t (by omega), z_in (by omega), hc, l1]
  · simp (disch := omega) only [z_bd, z_jn, z_lt_f, z_lt_t, z_eq_t, z_eq_f, z_in, z_gB, l2, l3, ho, hw, hcl, had]
  · simp (disch := omega) only [z_bd, z_jn, z_lt_f, z_lt_t, z_eq_t, z_eq_f, z_in, z_gB, l2, l3, ho, hw, hcl, had]
theorem r_st_shut4 (hy : 0 ≤ y2 ∧ y2 < ts ∧ ts ≤ 120) (hc : tx y2.toNat = 41) (h1 : y1 = 0 ∨ y1 = 1) (hd : 0 < dp ∧ dp < 128) (ho : ope dp.toNat = 4) (hw : own (dp - 1).toNat = 0 ∨ own (dp - 1).toNat = 1) (hcl : f_X8_closeChain rs dp bel cha fac pla rd = some (rs1, bel1, cha1, pla1, rd1)) (had : f_X8_add rs1 rd1 (-11) = some (rs2, rd2)) (had2 : f_X8_add rs2 rd2 (-11) = some (rs3, rd3)) : f_X8_readText_19 ts tx e (fu + 1) rs dp bel cha fac ope own pla rd y1 y2 = f_X8_readText_19 ts tx e fu rs3 (dp - 1) bel1 cha1 fac ope own (va_up pla1 (dp - 1).toNat 0) rd3 (own (dp - 1).toNat) (y2 + 1) := by
  have l1 : f_X8_isLetter 41 = some 0 := by decide
  have l2 : f_X8_isDigit 41 = some 0 := by decide
  have l3 : f_X8_isMark 41 = some 0 := by decide
  rcases hw with hw | hw <;> rw [hw, f_X8_readText_19, z_lt_t (by omega), z_in (by omega), hc, l1]
  · simp (disch := omega) only [z_bd, z_jn, z_lt_f, z_lt_t, z_eq_t, z_eq_f, z_in, z_gB, l2, l3, ho, hw, hcl, had, had2]
  · simp (disch := omega) only [z_bd, z_jn, z_lt_f, z_lt_t, z_eq_t, z_eq_f, z_in, z_gB, l2, l3, ho, hw, hcl, had, had2]
theorem r_er_root (hy : 0 ≤ y2 ∧ y2 < ts ∧ ts ≤ 120) (hc : tx y2.toNat = 114) (h1 : 0 ≤ y1 ∧ y1 ≤ 3) (hn : y2 + 1 = ts ∨ (y2 + 1 < ts ∧ (0 ≤ tx (y2 + 1).toNat ∧ tx (y2 + 1).toNat ≤ 255) ∧ tx (y2 + 1).toNat ≠ 40)) : f_X8_readText_19 ts tx e (fu + 1) rs dp bel cha fac ope own pla rd y1 y2 = some (y2 + 1, rs, dp, bel, cha, fac, ope, own, pla, rd) := by
  have l1 : f_X8_isLetter 114 = some 0 := by decide
  have l2 : f_X8_isDigit 114 = some 0 := by decide
  rw [f_X8_readText_19, z_lt_t (by omega), z_in (by omega), hc, l1]
  by_cases h2 : 1 < y1
  · rcases hn with hn | hn
    · simp (disch := omega) only [z_bd, z_jn, z_lt_f, z_lt_t, z_eq_t, z_eq_f, z_in, z_gB, l2]
    · simp (disch := omega) only [z_bd, z_jn, z_lt_f, z_lt_t, z_eq_t, z_eq_f, z_in, z_gB, l2]
  · rcases hn with hn | hn
    · simp (disch := omega) only [z_bd, z_jn, z_lt_f, z_lt_t, z_eq_t, z_eq_f, z_in, z_gB, l2]
    · simp (disch := omega) only [z_bd, z_jn, z_lt_f, z_lt_t, z_eq_t, z_eq_f, z_in, z_gB, l2]
/-- neither a letter nor a digit -/
theorem zld_n {c : Int} (h : ¬ zld c) (hr : 0 ≤ c ∧ c ≤ 255) : f_X8_isLetter c = some 0 ∧ f_X8_isDigit c = some 0 := by
  unfold zld at h
  constructor
  · rw [r_le (by omega)]; unfold zle; rw [decide_eq_false (by omega)]; rfl
  · rw [r_di (by omega)]; unfold zdi; rw [decide_eq_false (by omega)]; rfl
theorem r_er_base (hy : 0 ≤ y2 ∧ y2 < ts ∧ ts ≤ 120) (hc : tx y2.toNat = c) (hr : 0 ≤ c ∧ c ≤ 255) (hm : ¬ zld c) (hm2 : c ≠ 40 ∧ c ≠ 114) (h1 : y1 = 2 ∨ y1 = 3) : f_X8_readText_19 ts tx e (fu + 1) rs dp bel cha fac ope own pla rd y1 y2 = some (y2, rs, dp, bel, cha, fac, ope, own, pla, rd) := by
  obtain ⟨l1, l2⟩ := zld_n hm hr
  rw [f_X8_readText_19, z_lt_t (by omega), z_in (by omega), hc, l1]
  simp (disch := omega) only [z_bd, z_jn, z_lt_f, z_lt_t, z_eq_t, z_eq_f, z_in, z_gB, l2]
theorem r_er_text (hy : 0 ≤ y2 ∧ y2 < ts ∧ ts ≤ 120) (hc : tx y2.toNat = c) (hr : 0 ≤ c ∧ c ≤ 255) (hm : ¬ zld c) (hm2 : c ≠ 40 ∧ c ≠ 114 ∧ c ≠ 32 ∧ c ≠ 43 ∧ c ≠ 45 ∧ c ≠ 42 ∧ c ≠ 61 ∧ c ≠ 44 ∧ c ≠ 46 ∧ c ≠ 94 ∧ c ≠ 95) (h1 : (y1 = 0 ∨ y1 = 1) ∧ (c = 47 → y1 = 0) ∧ (c = 41 → dp = 0)) (hd : 0 ≤ dp ∧ dp < 128) : f_X8_readText_19 ts tx e (fu + 1) rs dp bel cha fac ope own pla rd y1 y2 = some (y2, rs, dp, bel, cha, fac, ope, own, pla, rd) := by
  obtain ⟨l1, l2⟩ := zld_n hm hr
  have l3 : f_X8_isMark c = some 0 := by
    unfold f_X8_isMark
    simp (disch := omega) only [z_jn, z_eq_f, z_gB]
  rw [f_X8_readText_19, z_lt_t (by omega), z_in (by omega), hc, l1]
  by_cases h47 : c = 47
  · simp (disch := omega) only [z_bd, z_jn, z_lt_f, z_lt_t, z_eq_t, z_eq_f, z_in, z_gB, l2, l3]
  · by_cases h41 : c = 41
    · simp (disch := omega) only [z_bd, z_jn, z_lt_f, z_lt_t, z_eq_t, z_eq_f, z_in, z_gB, l2, l3]
    · simp (disch := omega) only [z_bd, z_jn, z_lt_f, z_lt_t, z_eq_t, z_eq_f, z_in, z_gB, l2, l3]
end zst9
