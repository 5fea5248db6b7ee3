/-! the reader: a script begins, on both sides -/
theorem zJ.mk3 {y top br ch fa un pl sc bo n rs dp : Int} {S M bel cha fac ope own pla rd : Nat → Int} {K : List zLv} {G N F : List Int} (hk : zJk y br top dp S bel cha fac ope own K) (hsc : sc = 2 ∨ sc = 3) (hC : zCx 360 n M (zpre K br ++ (zlh un G N ++ (F ++ [sc])))) (hR : zRd rs rd (zpre K br ++ (zlh un G N ++ (F ++ [sc])))) (hw : zwl G N F un sc bo) (hy : zpt K br + (zlh un G N).length + F.length + 2 + un ≤ 3 * y) (hb : bel K.length = un) (hp : pl = 0 ∨ pl = 1) (hown : own K.length = bo) (hj : bo = 1 → zJp br ch fa un cha fac K G N) : zJ y 2 3 top br ch fa un pl sc bo n S M rs dp bel cha fac ope own pla rd := by
  have hz : zct sc = [sc] := if_neg (by omega)
  refine ⟨K, G, N, F, hk, ⟨by rw [hz]; exact hC, by rw [hz]; exact hR⟩, by rw [hz]; simp only [List.length_cons, List.length_nil]; omega, hb, ⟨hp, hw.2.2.1⟩, Or.inr ⟨rfl, hw, Or.inr ⟨by omega, rfl, hown⟩, fun h => hj (by omega)⟩⟩
theorem e_j_script {y st y1 top br ch fa un pl sc bo n rs dp ts c k : Int} {S M bel cha fac ope own pla rd tx : Nat → Int} (h : zJ y st y1 top br ch fa un pl sc bo n S M rs dp bel cha fac ope own pla rd) (hst : st = 0 ∨ st = 1) (hy : 0 ≤ y ∧ y < ts ∧ ts ≤ 120) (hc : tx y.toNat = c) (hk : (c = 94 ∧ k = 2) ∨ (c = 95 ∧ k = 3)) : ∃ (n2 rs2 : Int) (M2 bel2 cha2 own2 pla2 rd2 : Nat → Int), f_X5_takes top st br ch fa un pl sc bo n S M c = some (1, top, 2, br, ch, fa, un, pl, k, st, n2, S, M2) ∧ (∀ fu e, f_X8_readText_19 ts tx e (fu + 1) rs dp bel cha fac ope own pla rd y1 y = f_X8_readText_19 ts tx e fu rs2 dp bel2 cha2 fac ope own2 pla2 rd2 3 (y + 1)) ∧ zJ (y + 1) 2 3 top br ch fa un pl k st n2 S M2 rs2 dp bel2 cha2 fac ope own2 pla2 rd2 := by
  have h' := h
  obtain ⟨K, G, N, F, hk0, ⟨hC, hR⟩, hφ, hb, ⟨hp, ho⟩, hs⟩ := h'
  rcases hs with ⟨-, s1, s2, s3, s4⟩ | ⟨s1, -⟩
  · subst s1 s2
    have hkw := zpre_le (br := br) hk0.1.1
    have hd : dp.toNat = K.length := by rw [hk0.2.1.2.1]; omega
    have hK := hk0.2.1
    have hu := s3.2.1
    have hk23 : k = 2 ∨ k = 3 := by omega
    rw [zct_0, List.append_nil] at hC hR
    simp only [zct_0, List.length_nil] at hφ
    have hlen : (zpre K br ++ (zlh un G N ++ F)).length < 360 := by simp; omega
    obtain ⟨M2, a1, a2⟩ := c_add hC (m := k) (by unfold zv; omega) hlen
    rcases hst with hst | hst
    · subst hst
      have e1 : un = 0 ∧ F = [] := by
        rcases s3.2.2.2 with ⟨-, q1, q2⟩ | ⟨q1, -⟩
        · exact ⟨q1, q2⟩
        · omega
      obtain ⟨q1, q2⟩ := e1
      subst q1 q2
      rw [zlh_0] at hφ
      simp only [List.length_nil] at hφ
      obtain ⟨rs1, pla1, rd1, r1, r2, r3, r4⟩ := r_close (A := zpre K br ++ G) (F := []) (G := []) (un := 0) (pl := pl) (dp := dp) (bel := bel) (cha := cha) (fac := fac) (pla := pla) (rs := rs) (rd := rd) (by simpa [zlh_0] using hR) (by simp; omega) (Or.inl ⟨rfl, rfl⟩) (by omega) (by rw [hd]; exact hb) (fun h => by omega) (fun h => by omega)
      obtain ⟨rd2, b1, b2⟩ := r_add r2 (m := k) (z := -k) (zr_op (by omega)).symm (by simp [zpd_0] at hlen ⊢; omega)
      refine ⟨n + 1, rs1 + 1, M2, va_up bel dp.toNat 0, va_up cha dp.toNat (-9), va_up own dp.toNat 0, va_up pla1 dp.toNat 0, rd2, c_tk_script (Or.inl rfl) hk a1, fun fu e => ?_, ?_⟩
      · rcases hk with ⟨k1, k2⟩ | ⟨k1, k2⟩
        · subst k1 k2
          exact r_st_sup0 hy hc rfl (by omega) r1 b1
        · subst k1 k2
          exact r_st_sub0 hy hc rfl (by omega) r1 b1
      · rw [hd]
        exact zJ.mk3 (G := G) (N := N) (F := []) (hk0.up zsm_up zsm_up zsm_id zsm_up (by omega)) hk23 (by simpa [zlh_0] using a2) (by simpa [zlh_0, zpd_0] using b2) ⟨⟨s3.1.1, s3.1.2.1, rfl⟩, Or.inl rfl, Or.inl rfl, by omega, fun _ => rfl, fun _ _ => ⟨rfl, rfl⟩⟩ (by rw [zlh_0]; simp only [List.length_nil]; omega) zup_eq hp zup_eq (fun h => by omega)
    · subst hst
      obtain ⟨rd2, b1, b2⟩ := r_add hR (m := k) (z := -k) (zr_op (by omega)).symm (by omega)
      obtain ⟨q1, q2⟩ := s4 rfl
      refine ⟨n + 1, rs + 1, M2, bel, cha, va_up own dp.toNat 1, va_up pla dp.toNat 0, rd2, c_tk_script (Or.inr rfl) hk a1, fun fu e => ?_, ?_⟩
      · rcases hk with ⟨k1, k2⟩ | ⟨k1, k2⟩
        · subst k1 k2
          exact r_st_sup1 hy hc rfl (by omega) b1
        · subst k1 k2
          exact r_st_sub1 hy hc rfl (by omega) b1
      · rw [hd]
        exact zJ.mk3 (G := G) (N := N) (F := F) (hk0.up zsm_id zsm_id zsm_id zsm_up (by omega)) hk23 (by simpa using a2) (by simpa using b2) ⟨s3.1, hu, Or.inr rfl, by omega, fun h => by omega, fun _ h => by omega⟩ (by omega) hb hp zup_eq (fun _ => q2)
  · omega
