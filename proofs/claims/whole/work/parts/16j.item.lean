/-! the reader: a letter or a digit, on both sides -/
/-- behind a factor -/
theorem zJ.mk1 {y top br ch fa un pl bo n rs dp : Int} {S M bel cha fac ope own pla rd : Nat → Int} {K : List zLv} {G N F : List Int} (hk : zJk y br top dp S bel cha fac ope own K) (hC : zCx 360 n M (zpre K br ++ (zlh un G N ++ F))) (hR : zRd rs rd (zpre K br ++ (zlh un G N ++ F))) (hw : zrw 1 G N F un pl) (hy : zpt K br + (zlh un G N).length + F.length + un ≤ 3 * y) (hb : bel K.length = un) (hp : pla K.length = pl) (ho : bo = 0 ∨ bo = 1) (hj : zJp br ch fa un cha fac K G N) : zJ y 1 1 top br ch fa un pl 0 bo n S M rs dp bel cha fac ope own pla rd :=
  ⟨K, G, N, F, hk, ⟨by simpa [zct_0] using hC, by simpa [zct_0] using hR⟩, by simp only [zct_0, List.length_nil]; omega, hb, ⟨hw.2.2.1, ho⟩, Or.inl ⟨Or.inr rfl, rfl, rfl, hw, fun _ => ⟨hp, hj⟩⟩⟩
theorem zJp.up {br ch fa un : Int} {cha fac cha' fac' : Nat → Int} {K : List zLv} {G N : List Int} (h : zJp br ch fa un cha fac K G N) (h1 : cha' K.length = cha K.length) (h2 : fac' K.length = fac K.length) : zJp br ch fa un cha' fac' K G N := ⟨h.1, by rw [h1]; exact h.2.1, by rw [h2]; exact h.2.2⟩
theorem zld_b {c : Int} (h : zld c) : 48 ≤ c ∧ c ≤ 122 ∧ c ≠ 94 ∧ c ≠ 95 ∧ c ≠ 114 ∧ c ≠ 61 := by unfold zld at h; omega
theorem e_j_item {y st y1 top br ch fa un pl sc bo n rs dp ts c : Int} {S M bel cha fac ope own pla rd tx : Nat → Int} (h : zJ y st y1 top br ch fa un pl sc bo n S M rs dp bel cha fac ope own pla rd) (hst : st = 0 ∨ st = 1) (hy : 0 ≤ y ∧ y < ts ∧ ts ≤ 120) (hc : tx y.toNat = c) (hm : zld c) : ∃ (n1 n2 rs2 : Int) (M2 bel2 cha2 fac2 pla2 rd2 : Nat → Int), f_X5_takes top st br ch fa un pl sc bo n S M c = some (1, top, 1, br, n1, n1, 0, 0, 0, bo, n2, S, M2) ∧ (∀ fu e, f_X8_readText_19 ts tx e (fu + 1) rs dp bel cha fac ope own pla rd y1 y = f_X8_readText_19 ts tx e fu rs2 dp bel2 cha2 fac2 ope own pla2 rd2 1 (y + 1)) ∧ zJ (y + 1) 1 1 top br n1 n1 0 0 0 bo n2 S M2 rs2 dp bel2 cha2 fac2 ope own pla2 rd2 := by
  obtain ⟨K, G, pl1, n1, rs1, M1, bel1, cha1, pla1, rd1, e1, e2, e3, ⟨e4, e5⟩, e6, e7, e8, e9, e10, e11, e12, e13⟩ := h.close hst (by omega)
  subst e11
  have hkw := zpre_le (br := br) e3.1.1
  have hcb := zld_b hm
  have hd : dp.toNat = K.length := by rw [e3.2.1.2.1]; omega
  have hK := e3.2.1
  have hlen : (zpre K br ++ G).length < 360 := by simp; omega
  have hn1 := e4.1.1
  have hr1 := e5.1
  simp only [List.length_append] at hn1 hr1
  obtain ⟨M2, a1, a2⟩ := c_add e4 (m := c) (by unfold zv; omega) hlen
  obtain ⟨rd2, b1, b2⟩ := r_add e5 (m := c) (z := c) (zr_sy (by omega)).symm (by omega)
  obtain ⟨n3, M3, c1, c2⟩ := c_endBase (st := 0) (pl := pl1) (sc := 0) (bo := bo) (x := 0) a2 (Or.inl rfl) e12 (Or.inl rfl) (by simp; omega)
  rw [if_pos rfl, if_pos rfl] at c1
  rw [if_pos rfl, List.append_nil] at c2
  have hb := c_bs_item (top := top) (br := br) (ch := n1) (fa := n1) (un := 0) (S := S) hm a1 c1
  refine ⟨n1, n3, rs1 + 1, M3, bel1, va_up cha1 dp.toNat rs1, va_up fac dp.toNat rs1, va_up pla1 dp.toNat 0, rd2, c_tk_elem hst (by omega) (by omega) (by omega) e1 hb (Or.inr rfl), fun fu e => r_st_item hy hc hm (by omega) (by omega) e2 b1, ?_⟩
  rw [hd]
  exact zJ.mk1 (G := G) (N := []) (F := [c]) (e3.up zsm_id zsm_up zsm_up zsm_id (by omega)) (by simpa [zlh_0] using c2) (by simpa [zlh_0] using b2) ⟨⟨e6, rfl, zbal_one (by omega)⟩, Or.inl rfl, Or.inl rfl, Or.inr ⟨rfl, fun h => by omega⟩⟩ (by rw [zlh_0]; simp only [List.length_cons, List.length_nil]; omega) e8 zup_eq e12 ⟨⟨by omega, by rw [zlh_0]; omega⟩, by rw [zup_eq]; omega, by rw [zup_eq, zlh_0]; omega⟩
theorem e_j_item2 {y st y1 top br ch fa un pl sc bo n rs dp ts c : Int} {S M bel cha fac ope own pla rd tx : Nat → Int} (h : zJ y st y1 top br ch fa un pl sc bo n S M rs dp bel cha fac ope own pla rd) (hst : st = 2) (hy : 0 ≤ y ∧ y < ts ∧ ts ≤ 120) (hc : tx y.toNat = c) (hm : zld c) : ∃ (st' n2 rs2 : Int) (M2 pla2 rd2 : Nat → Int), f_X5_takes top st br ch fa un pl sc bo n S M c = some (1, top, st', br, ch, fa, un, 0, 0, bo, n2, S, M2) ∧ (∀ fu e, f_X8_readText_19 ts tx e (fu + 1) rs dp bel cha fac ope own pla rd y1 y = f_X8_readText_19 ts tx e fu rs2 dp bel cha fac ope own pla2 rd2 st' (y + 1)) ∧ zJ (y + 1) st' st' top br ch fa un 0 0 bo n2 S M2 rs2 dp bel cha fac ope own pla2 rd2 := by
  obtain ⟨K, G, N, F, hk, ⟨hC, hR⟩, hφ, hb, ⟨hp, ho⟩, hs⟩ := h
  rcases hs with ⟨s1, -⟩ | ⟨-, hw, s2, s3⟩
  · omega
  have hkw := zpre_le (br := br) hk.1.1
  have hcb := zld_b hm
  have hd : dp.toNat = K.length := by rw [hk.2.1.2.1]; omega
  have hK := hk.2.1
  have hu := hw.2.1
  have hlen : (zpre K br ++ (zlh un G N ++ (F ++ zct sc))).length + 1 ≤ 359 := by simp; omega
  obtain ⟨M2, a1, a2⟩ := c_add hC (m := c) (by unfold zv; omega) (by omega)
  obtain ⟨rd2, b1, b2⟩ := r_add hR (m := c) (z := c) (zr_sy (by omega)).symm (by omega)
  obtain ⟨n3, M3, c1, c2⟩ := c_endBase (st := 2) (pl := pl) (sc := sc) (bo := bo) (x := 0) a2 hw.2.2.2.1 ho (Or.inl rfl) (by rw [List.length_append, List.length_cons, List.length_nil]; omega)
  have hbs := c_bs_item (top := top) (br := br) (ch := ch) (fa := fa) (un := un) (S := S) hm a1 c1
  rcases s2 with ⟨k1, k2⟩ | ⟨k1, k2, k3⟩
  · subst k1
    have hF := hw.2.2.2.2.1 rfl
    subst hF
    rw [if_pos rfl, if_pos rfl] at hbs
    rw [if_pos rfl, List.append_nil] at c2
    simp only [zct_0, List.length_nil] at hφ
    refine ⟨1, n3, rs + 1, M3, va_up pla dp.toNat 0, rd2, c_tk_base hst hbs (Or.inr rfl), fun fu e => r_st_item2 hy hc hm k2 (by omega) b1, ?_⟩
    rw [hd]
    exact zJ.mk1 (G := G) (N := N) (F := [c]) (hk.up zsm_id zsm_id zsm_id zsm_id (by omega)) (by simpa [zct_0] using c2) (by simpa [zct_0] using b2) ⟨⟨hw.1.1, hw.1.2.1, zbal_one (by omega)⟩, hu, Or.inl rfl, Or.inr ⟨rfl, fun h => by omega⟩⟩ (by simp only [List.length_cons, List.length_nil]; omega) hb zup_eq ho (s3 (Or.inl rfl))
  · have hsc := hw.2.2.2.1
    have hz : zct sc = [sc] := if_neg k1
    rw [if_neg k1, if_neg k1] at hbs
    rw [if_neg k1] at c2
    rw [hz] at hφ c2 b2
    simp only [List.length_cons, List.length_nil] at hφ
    have hbl := zbal_enc (k := sc) (I := [c]) (by omega) (zbal_one (m := c) (by omega))
    obtain ⟨rd3, d1, d2⟩ := r_add b2 (m := sc + 10) (z := -11) (zr_cl (by omega)).symm (by simp at hlen ⊢; omega)
    rw [show 10 + sc = sc + 10 by omega] at c2
    refine ⟨bo, n3, rs + 1 + 1, M3, va_up pla dp.toNat 0, rd3, c_tk_base hst hbs (Or.inr rfl), fun fu e => ?_, ?_⟩
    · have := r_st_item3 (dp := dp) (ts := ts) (tx := tx) (bel := bel) (cha := cha) (fac := fac) (ope := ope) (own := own) (pla := pla) (fu := fu) (e := e) hy hc hm k2 (by omega) b1 d1 (by rw [hd, k3]; exact ho)
      rw [this, hd, k3]
    · rw [hd]
      rcases ho with ho | ho
      · subst ho
        obtain ⟨q1, q2⟩ := hw.2.2.2.2.2 k1 rfl
        subst q1 q2
        rw [zlh_0] at hφ
        exact zJ.mk0 (G := G ++ (sc :: ([c] ++ [sc + 10]))) (hk.up zsm_id zsm_id zsm_id zsm_id (by omega)) (by simpa [zlh_0] using c2) (by simpa [zlh_0] using d2) (zbal_app hw.1.1 hbl) (by simp at hφ ⊢; omega) hb (Or.inl rfl) (Or.inl rfl)
      · subst ho
        exact zJ.mk1 (G := G) (N := N) (F := F ++ (sc :: ([c] ++ [sc + 10]))) (hk.up zsm_id zsm_id zsm_id zsm_id (by omega)) (by simpa using c2) (by simpa using d2) ⟨⟨hw.1.1, hw.1.2.1, zbal_app hw.1.2.2 hbl⟩, hu, Or.inl rfl, Or.inr ⟨rfl, fun h => by omega⟩⟩ (by simp; omega) hb zup_eq (Or.inr rfl) (s3 (Or.inr rfl))
