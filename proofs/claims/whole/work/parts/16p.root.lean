/-! the reader: a root, on both sides -/
theorem e_j_root {y st y1 top br ch fa un pl sc bo n rs dp ts : Int} {S M bel cha fac ope own pla rd tx : Nat → Int} (h : zJ y st y1 top br ch fa un pl sc bo n S M rs dp bel cha fac ope own pla rd) (hst : st = 0 ∨ st = 1) (hy : 0 ≤ y ∧ y < ts ∧ ts ≤ 120) (hc : tx y.toNat = 114) (hn : y + 1 < ts ∧ tx (y + 1).toNat = 40) : ∃ (pl1 n1 n2 rs2 : Int) (M1 S2 M2 bel2 cha2 fac2 ope2 own2 pla2 rd2 : Nat → Int), f_X5_takes top st br ch fa un pl sc bo n S M 114 = some (1, top, 3, br, n1, n1, 0, pl1, sc, bo, n1, S, M1) ∧ f_X5_takes top 3 br n1 n1 0 pl1 sc bo n1 S M1 40 = some (1, top + 6, 0, 4, n2, n2, 0, 0, 0, 0, n2, S2, M2) ∧ (∀ fu e, f_X8_readText_19 ts tx e (fu + 1) rs dp bel cha fac ope own pla rd y1 y = f_X8_readText_19 ts tx e fu rs2 (dp + 1) bel2 cha2 fac2 ope2 own2 pla2 rd2 0 (y + 1 + 1)) ∧ zJ (y + 1 + 1) 0 0 (top + 6) 4 n2 n2 0 0 0 0 n2 S2 M2 rs2 (dp + 1) bel2 cha2 fac2 ope2 own2 pla2 rd2 := by
  obtain ⟨K, G, pl1, n1, rs1, M1, bel1, cha1, pla1, rd1, e1, e2, e3, ⟨e4, e5⟩, e6, e7, e8, e9, e10, e11, e12, e13⟩ := h.close hst (by omega)
  subst e11
  have hkw := zpre_le (br := br) e3.1.1
  have hd : dp.toNat = K.length := by rw [e3.2.1.2.1]; omega
  have hK := e3.2.1
  have hlen : (zpre K br ++ G).length + 1 ≤ 360 := by simp; omega
  have hn1 := e4.1.1
  have hr1 := e5.1
  simp only [List.length_append] at hn1 hr1
  have hw : zwl G [] [] 0 0 bo := ⟨⟨e6, rfl, rfl⟩, Or.inl rfl, e12, Or.inl rfl, fun _ => rfl, fun h => absurd rfl h⟩
  obtain ⟨n2, S2, M2, c1, c2, c3⟩ := c_open (top := top) (st := 3) (ch := n1) (fa := n1) (pl := pl1) (N := []) (F := []) (k := 4) hw (by omega) hK.1 e3.1.2.2.1 (by simpa [zlh_0, zct_0] using e4) (by simpa [zlh_0, zct_0] using hlen) (fun _ => ⟨by omega, by rw [zlh_0]; omega⟩) (Or.inl rfl)
  obtain ⟨rd2, b1, b2⟩ := r_add e5 (m := 4) (z := -4) (zr_op (by omega)).symm (by omega)
  have hop := r_openRow (dp := dp) (k := 2) (bel := bel1) (cha := va_up cha1 dp.toNat rs1) (ope := ope) (own := own) (pla := pla1) (by omega)
  have ho1 : zom 0 4 = [4] := by decide
  refine ⟨pl1, n1, n2, rs1 + 1, M1, S2, M2, _, _, va_up fac dp.toNat rs1, _, _, _, rd2, c_tk_elem hst (by omega) (by omega) (by omega) e1 c_bs_r (Or.inr rfl), c_tk_r rfl c1, fun fu e => r_st_root hy hc hn (by omega) (by omega) e2 b1 hop, ?_⟩
  rw [hd]
  exact zJ.deeper (k := 4) (e3.up zsm_id zsm_up zsm_up zsm_id (by omega : y ≤ y + 1)) hw c2 (by rw [zpre, ho1]; simpa [zlh_0, zct_0] using b2) c3 (Or.inl rfl) (by rw [zpt, ho1, zlh_0]; simp only [List.length_cons, List.length_nil, zct_0]; omega) e8 (fun h => absurd rfl h) (fun _ => ⟨by rw [zup_eq]; omega, by rw [zup_eq, zlh_0]; omega⟩)
theorem e_j_root2 {y st y1 top br ch fa un pl sc bo n rs dp ts : Int} {S M bel cha fac ope own pla rd tx : Nat → Int} (h : zJ y st y1 top br ch fa un pl sc bo n S M rs dp bel cha fac ope own pla rd) (hst : st = 2) (hy : 0 ≤ y ∧ y < ts ∧ ts ≤ 120) (hc : tx y.toNat = 114) (hn : y + 1 < ts ∧ tx (y + 1).toNat = 40) : ∃ (n2 rs2 : Int) (S2 M2 bel2 cha2 ope2 own2 pla2 rd2 : Nat → Int), f_X5_takes top st br ch fa un pl sc bo n S M 114 = some (1, top, 3, br, ch, fa, un, pl, sc, bo, n, S, M) ∧ f_X5_takes top 3 br ch fa un pl sc bo n S M 40 = some (1, top + 6, 0, 4, n2, n2, 0, 0, 0, 0, n2, S2, M2) ∧ (∀ fu e, f_X8_readText_19 ts tx e (fu + 1) rs dp bel cha fac ope own pla rd y1 y = f_X8_readText_19 ts tx e fu rs2 (dp + 1) bel2 cha2 fac ope2 own2 pla2 rd2 0 (y + 1 + 1)) ∧ zJ (y + 1 + 1) 0 0 (top + 6) 4 n2 n2 0 0 0 0 n2 S2 M2 rs2 (dp + 1) bel2 cha2 fac ope2 own2 pla2 rd2 := by
  obtain ⟨K, G, N, F, hk, ⟨hC, hR⟩, hφ, hb, ⟨hp, ho⟩, hs⟩ := h
  rcases hs with ⟨s1, -⟩ | ⟨-, hw, s2, s3⟩
  · omega
  have hkw := zpre_le (br := br) hk.1.1
  have hd : dp.toNat = K.length := by rw [hk.2.1.2.1]; omega
  have hK := hk.2.1
  have hu := hw.2.1
  have hlen : (zpre K br ++ (zlh un G N ++ (F ++ zct sc))).length + 1 ≤ 360 := by simp; omega
  obtain ⟨n2, S2, M2, c1, c2, c3⟩ := c_open (top := top) (st := 3) (ch := ch) (fa := fa) (pl := pl) (k := 4) hw (by omega) hK.1 hk.1.2.2.1 hC hlen (fun h => (s3 h).1) (Or.inl rfl)
  have hz : (zct sc).length ≤ 1 := by unfold zct; split <;> simp
  have ho1 : zom sc 4 = [4] := if_pos (Or.inl rfl)
  obtain ⟨rd2, b1, b2⟩ := r_add hR (m := 4) (z := -4) (zr_op (by omega)).symm (by omega)
  rcases s2 with ⟨k1, k2⟩ | ⟨k1, k2, k3⟩
  · subst k1
    have hop := r_openRow (dp := dp) (k := 2) (bel := bel) (cha := cha) (ope := ope) (own := own) (pla := pla) (by omega)
    refine ⟨n2, rs + 1, S2, M2, _, _, _, _, _, rd2, c_tk_base hst c_bs_r (Or.inr rfl), c_tk_r rfl c1, fun fu e => r_st_root2 hy hc hn k2 (by omega) b1 hop, ?_⟩
    exact zJ.deeper (k := 4) (hk.up zsm_id zsm_id zsm_id zsm_id (by omega : y ≤ y + 1)) hw c2 (by rw [zpre, ho1]; simpa using b2) c3 (Or.inl rfl) (by rw [zpt, ho1]; simp only [List.length_cons, List.length_nil]; omega) hb (fun h => absurd rfl h) (fun h => (s3 h).2)
  · have hzp : zopc 4 ((br, G, N, F, un, sc, bo) :: K) = 4 := by
      rw [zopc, if_pos rfl, if_neg k1]
    have hop := r_openRow (dp := dp) (k := 4) (bel := bel) (cha := cha) (ope := ope) (own := own) (pla := pla) (by omega)
    refine ⟨n2, rs + 1, S2, M2, _, _, _, _, _, rd2, c_tk_base hst c_bs_r (Or.inr rfl), c_tk_r rfl c1, fun fu e => r_st_root3 hy hc hn k2 (by omega) b1 hop, ?_⟩
    have := zJ.deeper (k := 4) (pla := pla) (rs := rs + 1) (rd := rd2) (hk.up zsm_id zsm_id zsm_id zsm_id (by omega : y ≤ y + 1)) hw c2 (by rw [zpre, ho1]; simpa using b2) c3 (Or.inl rfl) (by rw [zpt, ho1]; simp only [List.length_cons, List.length_nil]; omega) hb (fun _ => k3) (fun h => (s3 h).2)
    rw [hzp] at this
    exact this
