/-! the reader: a fraction's line, on both sides -/
theorem zrw.uf {un pl : Int} {G N F : List Int} (h : zrw 1 G N F un pl) : ∃ X, zuf pl F X ∧ zbal X ∧ X.length ≤ F.length := by
  obtain ⟨⟨h1, h2, h3⟩, h4, h5, h6⟩ := h
  by_cases hp : pl = 0
  · exact ⟨F, Or.inl ⟨hp, rfl⟩, h3, Nat.le_refl _⟩
  · have hp1 : pl = 1 := by omega
    rcases h6 with ⟨h6, -⟩ | ⟨-, h6⟩
    · omega
    · obtain ⟨Z, e, hZ⟩ := h6 hp1
      exact ⟨Z, Or.inr ⟨hp1, e⟩, hZ, by rw [e]; simp only [List.length_append, List.length_cons, List.length_nil]; omega⟩
theorem e_j_line {y st y1 top br ch fa un pl sc bo n rs dp ts : Int} {S M bel cha fac ope own pla rd tx : Nat → Int} (h : zJ y st y1 top br ch fa un pl sc bo n S M rs dp bel cha fac ope own pla rd) (hst : st = 1) (hy : 0 ≤ y ∧ y < ts ∧ ts ≤ 120) (hc : tx y.toNat = 47) : ∃ (n2 rs2 : Int) (M2 bel2 fac2 pla2 rd2 : Nat → Int), f_X5_takes top st br ch fa un pl sc bo n S M 47 = some (1, top, 2, br, ch, n2, 1, 0, 0, bo, n2, S, M2) ∧ (∀ fu e, f_X8_readText_19 ts tx e (fu + 1) rs dp bel cha fac ope own pla rd y1 y = f_X8_readText_19 ts tx e fu rs2 dp bel2 cha fac2 ope own pla2 rd2 2 (y + 1)) ∧ zJ (y + 1) 2 2 top br ch n2 1 0 0 bo n2 S M2 rs2 dp bel2 cha fac2 ope own pla2 rd2 := by
  obtain ⟨K, G, N, F, hk, ⟨hC, hR⟩, hφ, hb, ⟨hp, ho⟩, hs⟩ := h
  rcases hs with ⟨-, s1, s2, s3, s4⟩ | ⟨s1, -⟩
  · subst s2 hst
    obtain ⟨q1, ⟨q2, q3⟩, q4, q5⟩ := s4 rfl
    obtain ⟨X, x1, x2, x3⟩ := s3.uf
    have hkw := zpre_le (br := br) hk.1.1
    have hd : dp.toNat = K.length := by rw [hk.2.1.2.1]; omega
    have hK := hk.2.1
    have hu := s3.2.1
    rw [zct_0, List.append_nil] at hC hR
    simp only [zct_0, List.length_nil] at hφ
    obtain ⟨n2, M2, Y, c1, c2, c3⟩ := c_divide (st := 1) rfl hC q2 q3 x1 hu (by omega)
    obtain ⟨rs2, rd2, Y', r1, r2, r3⟩ := r_line (dp := dp) (bel := bel) (cha := cha) (fac := fac) (pla := pla) hR (by omega) x1 hu (by omega) (by rw [hd]; exact hb) (by rw [hd]; exact q1) (by rw [hd]; exact q5) (by rw [hd]; exact q4)
    have hYY : Y' = Y := by rw [c3, r3]
    subst hYY
    have hn2 := c2.1.1
    have hr2 := r2.1
    have hYb : zbal Y' := by
      rcases hu with hu | hu
      · subst hu; rw [c3, if_pos rfl]; exact x2
      · subst hu; rw [c3, if_neg (by omega)]; exact zbal_frac s3.1.2.1 x2
    have hYl : ((zlh 1 G Y').length : Int) + 1 ≤ (zlh un G N).length + F.length + un + 3 := by
      rcases hu with hu | hu
      · subst hu
        rw [c3, if_pos rfl, zlh_0, zlh_1]
        simp only [List.length_append, List.length_cons, List.length_nil]; omega
      · subst hu
        rw [c3, if_neg (by omega), zlh_1, zlh_1]
        simp only [List.length_append, List.length_cons, List.length_nil]; omega
    simp only [List.length_append, List.length_nil] at hn2 hr2
    refine ⟨n2, rs2, M2, va_up bel dp.toNat 1, va_up fac dp.toNat rs2, va_up pla dp.toNat 0, rd2, c_tk_line rfl c1, fun fu e => r_st_line hy hc s1 (by omega) r1, ?_⟩
    rw [hd]
    exact ⟨K, G, Y', [], hk.up zsm_up zsm_id zsm_up zsm_id (by omega), ⟨c2, r2⟩, by simp only [zct_0, List.length_nil]; omega, zup_eq, ⟨Or.inl rfl, ho⟩, Or.inr ⟨rfl, ⟨⟨s3.1.1, hYb, rfl⟩, Or.inr rfl, ho, Or.inl rfl, fun _ => rfl, fun h => absurd rfl h⟩, Or.inl ⟨rfl, rfl⟩, fun _ => ⟨⟨q2, by omega⟩, q4, by rw [zup_eq]; omega⟩⟩⟩
  · omega
