/-! the reader: a bracket opens -/
theorem r_openRow {dp k : Int} {bel cha ope own pla : Nat → Int} (hd : 0 ≤ dp ∧ dp < 127) : f_X8_openRow dp bel cha ope own pla k = some (dp + 1, va_up bel (dp + 1).toNat 0, va_up cha (dp + 1).toNat (-9), va_up ope (dp + 1).toNat k, va_up own (dp + 1).toNat 0, va_up pla (dp + 1).toNat 0) := by
  unfold f_X8_openRow
  simp (disch := omega) only [z_in, z_gB]
theorem zJ.deeper {y br top dp k un sc bo n rs : Int} {S S' M bel cha fac ope own pla rd : Nat → Int} {K : List zLv} {G N F : List Int} (hk : zJk y br top dp S bel cha fac ope own K) (hw : zwl G N F un sc bo) (hC : zCx 360 n M (zpre ((br, G, N, F, un, sc, bo) :: K) k)) (hR : zRd rs rd (zpre ((br, G, N, F, un, sc, bo) :: K) k)) (hS : zksC S' ((br, G, N, F, un, sc, bo) :: K)) (hkk : k = 4 ∨ k = 5) (hy : zpt ((br, G, N, F, un, sc, bo) :: K) k ≤ 3 * (y + 1)) (hb : bel K.length = un) (hown : sc ≠ 0 → own K.length = bo) (hj : sc = 0 ∨ bo = 1 → cha K.length = ((zpre K br).length : Int) + G.length ∧ fac K.length = ((zpre K br).length : Int) + (zlh un G N).length) : zJ (y + 1) 0 0 (top + 6) k n n 0 0 0 0 n S' M rs (dp + 1) (va_up bel (dp + 1).toNat 0) (va_up cha (dp + 1).toNat (-9)) fac (va_up ope (dp + 1).toNat (zopc k ((br, G, N, F, un, sc, bo) :: K))) (va_up own (dp + 1).toNat 0) (va_up pla (dp + 1).toNat 0) rd := by
  obtain ⟨⟨h1, h2, h3, h4⟩, ⟨h5, h6, h7⟩, h8⟩ := hk
  have hd : (dp + 1).toNat = K.length + 1 := by rw [h6]; omega
  rw [hd]
  refine zJ.mk0 (K := (br, G, N, F, un, sc, bo) :: K) (G := []) ⟨⟨⟨hw, h2, h1⟩, Or.inr ⟨hkk, fun h => by cases h⟩, hS, ?_⟩, ⟨?_, ?_, ?_⟩, ?_⟩ (by rw [List.append_nil]; exact hC) (by rw [List.append_nil]; exact hR) rfl (by simp only [List.length_nil]; omega) zup_eq (Or.inl rfl) (Or.inl rfl)
  · refine ⟨⟨?_, ?_, fun h => ?_⟩, fun h => ⟨?_, (hj h).2⟩, h4.cg fun j hj => ⟨zup_ne (by omega), zup_ne (by omega), rfl, zup_ne (by omega), zup_ne (by omega)⟩⟩
    · rw [zup_ne (by omega)]; exact hb
    · rw [zup_ne (by omega)]; exact h8
    · rw [zup_ne (by omega)]; exact hown h
    · rw [zup_ne (by omega)]; exact (hj h).1
  · simp only [List.length_cons]; omega
  · simp only [List.length_cons]; omega
  · simp only [List.length_cons]; omega
  · exact zup_eq
