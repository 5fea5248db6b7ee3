/-! the reader: a bracket behind a line or a script, on both sides -/
theorem e_j_par2 {y st y1 top br ch fa un pl sc bo n rs dp ts : Int} {S M bel cha fac ope own pla rd tx : Nat → Int} (h : zJ y st y1 top br ch fa un pl sc bo n S M rs dp bel cha fac ope own pla rd) (hst : st = 2) (hy : 0 ≤ y ∧ y < ts ∧ ts ≤ 120) (hc : tx y.toNat = 40) : ∃ (n2 rs2 : Int) (S2 M2 bel2 cha2 ope2 own2 pla2 rd2 : Nat → Int), f_X5_takes top st br ch fa un pl sc bo n S M 40 = some (1, top + 6, 0, 5, n2, n2, 0, 0, 0, 0, n2, S2, M2) ∧ (∀ fu e, f_X8_readText_19 ts tx e (fu + 1) rs dp bel cha fac ope own pla rd y1 y = f_X8_readText_19 ts tx e fu rs2 (dp + 1) bel2 cha2 fac ope2 own2 pla2 rd2 0 (y + 1)) ∧ zJ (y + 1) 0 0 (top + 6) 5 n2 n2 0 0 0 0 n2 S2 M2 rs2 (dp + 1) bel2 cha2 fac ope2 own2 pla2 rd2 := by
  obtain ⟨K, G, N, F, hk, ⟨hC, hR⟩, hφ, hb, ⟨hp, ho⟩, hs⟩ := h
  rcases hs with ⟨s1, -⟩ | ⟨-, hw, s2, s3⟩
  · omega
  have hkw := zpre_le (br := br) hk.1.1
  have hd : dp.toNat = K.length := by rw [hk.2.1.2.1]; omega
  have hK := hk.2.1
  have hu := hw.2.1
  have hlen : (zpre K br ++ (zlh un G N ++ (F ++ zct sc))).length + 1 ≤ 360 := by simp; omega
  obtain ⟨n2, S2, M2, c1, c2, c3⟩ := c_open (top := top) (st := 2) (ch := ch) (fa := fa) (pl := pl) hw (by omega) hK.1 hk.1.2.2.1 hC hlen (fun h => (s3 h).1) (Or.inr rfl)
  have hz : (zct sc).length ≤ 1 := by unfold zct; split <;> simp
  have hb1 := c_bs_open c1
  rcases s2 with ⟨k1, k2⟩ | ⟨k1, k2, k3⟩
  · subst k1
    have ho1 : zom 0 5 = [5] := by decide
    obtain ⟨rd2, b1, b2⟩ := r_add hR (m := 5) (z := -5) (zr_op (by omega)).symm (by omega)
    have hop := r_openRow (dp := dp) (k := 1) (bel := bel) (cha := cha) (ope := ope) (own := own) (pla := pla) (by omega)
    refine ⟨n2, rs + 1, S2, M2, _, _, _, _, _, rd2, c_tk_base hst hb1 (Or.inr rfl), fun fu e => r_st_open2 hy hc k2 (by omega) b1 hop, ?_⟩
    exact zJ.deeper (k := 5) hk hw c2 (by rw [zpre, ho1]; simpa using b2) c3 (Or.inr rfl) (by rw [zpt, ho1]; simp only [List.length_cons, List.length_nil]; omega) hb (fun h => absurd rfl h) (fun h => (s3 h).2)
  · have ho1 : zom sc 5 = [] := if_neg (by omega)
    have hzp : zopc 5 ((br, G, N, F, un, sc, bo) :: K) = 3 := by
      rw [zopc, if_neg (by omega), if_neg k1]
    have hop := r_openRow (dp := dp) (k := 3) (bel := bel) (cha := cha) (ope := ope) (own := own) (pla := pla) (by omega)
    refine ⟨n2, rs, S2, M2, _, _, _, _, _, rd, c_tk_base hst hb1 (Or.inr rfl), fun fu e => r_st_open3 hy hc k2 (by omega) hop, ?_⟩
    have := zJ.deeper (k := 5) (pla := pla) (rs := rs) (rd := rd) hk hw c2 (by rw [zpre, ho1, List.append_nil]; exact hR) c3 (Or.inr rfl) (by rw [zpt, ho1]; simp only [List.length_nil]; omega) hb (fun _ => k3) (fun h => (s3 h).2)
    rw [hzp] at this
    exact this
