/-! the reader: both sides between two signs -/
/-- what holds of the outer levels -/
def zJk (y br top dp : Int) (S bel cha fac ope own : Nat → Int) (K : List zLv) : Prop := (zkw K ∧ zkb br K ∧ zksC S K ∧ zksR bel cha fac ope own K) ∧ (top = 6 * (K.length : Int) ∧ dp = (K.length : Int) ∧ (K.length : Int) ≤ y) ∧ ope K.length = zopc br K
/-- where the chain and its last factor begin -/
def zJp (br ch fa un : Int) (cha fac : Nat → Int) (K : List zLv) (G N : List Int) : Prop := (ch = ((zpre K br).length : Int) + G.length ∧ fa = ((zpre K br).length : Int) + (zlh un G N).length) ∧ cha K.length = ((zpre K br).length : Int) + G.length ∧ fac K.length = ((zpre K br).length : Int) + (zlh un G N).length
def zJ (y st y1 top br ch fa un pl sc bo n : Int) (S M : Nat → Int) (rs dp : Int) (bel cha fac ope own pla rd : Nat → Int) : Prop := ∃ (K : List zLv) (G N F : List Int), zJk y br top dp S bel cha fac ope own K ∧ (zCx 360 n M (zpre K br ++ (zlh un G N ++ (F ++ zct sc))) ∧ zRd rs rd (zpre K br ++ (zlh un G N ++ (F ++ zct sc)))) ∧ zpt K br + (zlh un G N).length + F.length + 2 * (zct sc).length + un ≤ 3 * y ∧ bel K.length = un ∧ ((pl = 0 ∨ pl = 1) ∧ (bo = 0 ∨ bo = 1)) ∧ (((st = 0 ∨ st = 1) ∧ y1 = st ∧ sc = 0 ∧ zrw st G N F un pl ∧ (st = 1 → pla K.length = pl ∧ zJp br ch fa un cha fac K G N)) ∨ (st = 2 ∧ zwl G N F un sc bo ∧ ((sc = 0 ∧ y1 = 2) ∨ (sc ≠ 0 ∧ y1 = 3 ∧ own K.length = bo)) ∧ (sc = 0 ∨ bo = 1 → zJp br ch fa un cha fac K G N)))
theorem zct_0 : zct 0 = [] := rfl
/-- between two items, nothing pending -/
theorem zJ.mk0 {y top br ch fa pl bo n rs dp : Int} {S M bel cha fac ope own pla rd : Nat → Int} {K : List zLv} {G : List Int} (hk : zJk y br top dp S bel cha fac ope own K) (hC : zCx 360 n M (zpre K br ++ G)) (hR : zRd rs rd (zpre K br ++ G)) (hG : zbal G) (hy : zpt K br + G.length ≤ 3 * y) (hb : bel K.length = 0) (hp : pl = 0 ∨ pl = 1) (ho : bo = 0 ∨ bo = 1) : zJ y 0 0 top br ch fa 0 pl 0 bo n S M rs dp bel cha fac ope own pla rd := by
  refine ⟨K, G, [], [], hk, ⟨by simpa [zlh_0, zct_0] using hC, by simpa [zlh_0, zct_0] using hR⟩, by simp [zlh_0, zct_0]; omega, hb, ⟨hp, ho⟩, Or.inl ⟨Or.inl rfl, rfl, rfl, ⟨⟨hG, rfl, rfl⟩, Or.inl rfl, hp, Or.inl ⟨rfl, rfl, rfl⟩⟩, fun h => by omega⟩⟩
theorem zJk.up {y br top dp : Int} {S bel cha fac ope own bel' cha' fac' own' : Nat → Int} {K : List zLv} (h : zJk y br top dp S bel cha fac ope own K) (hb : zsm bel bel' K.length) (hc : zsm cha cha' K.length) (hf : zsm fac fac' K.length) (ho : zsm own own' K.length) {y' : Int} (hy : y ≤ y') : zJk y' br top dp S bel' cha' fac' ope own' K := by
  obtain ⟨⟨h1, h2, h3, h4⟩, ⟨h5, h6, h7⟩, h8⟩ := h
  exact ⟨⟨h1, h2, h3, h4.cg fun j hj => ⟨hb j (by omega), hc j (by omega), hf j (by omega), rfl, ho j (by omega)⟩⟩, ⟨h5, h6, by omega⟩, h8⟩
/-- a chain that is read, if any, comes to its end -/
theorem zJ.close {y st y1 top br ch fa un pl sc bo n rs dp : Int} {S M bel cha fac ope own pla rd : Nat → Int} (h : zJ y st y1 top br ch fa un pl sc bo n S M rs dp bel cha fac ope own pla rd) (hst : st = 0 ∨ st = 1) (hy : 0 ≤ y ∧ y ≤ 120) : ∃ (K : List zLv) (G : List Int) (pl1 n1 rs1 : Int) (M1 bel1 cha1 pla1 rd1 : Nat → Int), f_X5_endFactor st fa un pl n M = some (0, pl1, n1, M1) ∧ f_X8_closeChain rs dp bel cha fac pla rd = some (rs1, bel1, cha1, pla1, rd1) ∧ zJk y br top dp S bel1 cha1 fac ope own K ∧ (zCx 360 n1 M1 (zpre K br ++ G) ∧ zRd rs1 rd1 (zpre K br ++ G)) ∧ zbal G ∧ zpt K br + G.length ≤ 3 * y ∧ bel1 K.length = 0 ∧ (pl1 = 0 ∨ pl1 = 1) ∧ y1 = st ∧ sc = 0 ∧ (bo = 0 ∨ bo = 1) ∧ pla1 K.length = 0 := by
  obtain ⟨K, G, N, F, hk, ⟨hC, hR⟩, hφ, hb, ⟨hp, ho⟩, hs⟩ := h
  rcases hs with ⟨-, s1, s2, s3, s4⟩ | ⟨s1, -⟩
  · subst s2
    have hkw := zpre_le (br := br) hk.1.1
    have hd : dp.toNat = K.length := by rw [hk.2.1.2.1]; omega
    have hK := hk.2.1
    rw [zct_0, List.append_nil] at hC hR
    simp only [zct_0, List.length_nil] at hφ
    obtain ⟨G', pl', n', M', rs', pla', rd', e1, e2, e3, e4, e5, e6, e7, e8, e9⟩ := e_close (dp := dp) (bel := bel) (cha := cha) (fac := fac) (pla := pla) (fa := fa) (mx := 0) s3 hC hR (by omega) (fun h => (s4 h).2.1.2) (by omega) (by rw [hd]; exact hb) (fun h => by rw [hd]; exact ⟨(s4 h).1, (s4 h).2.2.2⟩)
    refine ⟨K, G', pl', n', rs', M', _, _, pla', rd', e1, e2, hk.up (by rw [hd]; exact zsm_up) (by rw [hd]; exact zsm_up) zsm_id zsm_id (Int.le_refl _), ⟨e3, e4⟩, e5, by omega, by rw [hd]; exact zup_eq, e7, s1, rfl, ho, by rw [← hd]; exact e8⟩
  · omega
theorem e_j_blank {y st y1 top br ch fa un pl sc bo n rs dp ts : Int} {S M bel cha fac ope own pla rd tx : Nat → Int} (h : zJ y st y1 top br ch fa un pl sc bo n S M rs dp bel cha fac ope own pla rd) (hst : st = 0 ∨ st = 1) (hy : 0 ≤ y ∧ y < ts ∧ ts ≤ 120) (hc : tx y.toNat = 32) : ∃ (pl1 n1 rs1 : Int) (M1 bel1 cha1 pla1 rd1 : Nat → Int), f_X5_takes top st br ch fa un pl sc bo n S M 32 = some (1, top, 0, br, ch, fa, 0, pl1, 0, bo, n1, S, M1) ∧ (∀ fu e, f_X8_readText_19 ts tx e (fu + 1) rs dp bel cha fac ope own pla rd y1 y = f_X8_readText_19 ts tx e fu rs1 dp bel1 cha1 fac ope own pla1 rd1 0 (y + 1)) ∧ zJ (y + 1) 0 0 top br ch fa 0 pl1 0 bo n1 S M1 rs1 dp bel1 cha1 fac ope own pla1 rd1 := by
  obtain ⟨K, G, pl1, n1, rs1, M1, bel1, cha1, pla1, rd1, e1, e2, e3, ⟨e4, e5⟩, e6, e7, e8, e9, e10, e11, e12, e13⟩ := h.close hst (by omega)
  subst e11
  refine ⟨pl1, n1, rs1, M1, bel1, cha1, pla1, rd1, c_tk_blank hst e1, fun fu e => r_st_blank hy hc (by omega) e2, zJ.mk0 (e3.up zsm_id zsm_id zsm_id zsm_id (by omega)) e4 e5 e6 (by omega) e8 e9 e12⟩
theorem e_j_mark {y st y1 top br ch fa un pl sc bo n rs dp ts c : Int} {S M bel cha fac ope own pla rd tx : Nat → Int} (h : zJ y st y1 top br ch fa un pl sc bo n S M rs dp bel cha fac ope own pla rd) (hst : st = 0 ∨ st = 1) (hy : 0 ≤ y ∧ y < ts ∧ ts ≤ 120) (hc : tx y.toNat = c) (hm : c = 43 ∨ c = 45 ∨ c = 42 ∨ c = 61 ∨ c = 44 ∨ c = 46) : ∃ (pl1 n1 rs1 : Int) (M1 bel1 cha1 pla1 rd1 : Nat → Int), f_X5_takes top st br ch fa un pl sc bo n S M c = some (1, top, 0, br, ch, fa, 0, pl1, 0, bo, n1, S, M1) ∧ (∀ fu e, f_X8_readText_19 ts tx e (fu + 1) rs dp bel cha fac ope own pla rd y1 y = f_X8_readText_19 ts tx e fu rs1 dp bel1 cha1 fac ope own pla1 rd1 0 (y + 1)) ∧ zJ (y + 1) 0 0 top br ch fa 0 pl1 0 bo n1 S M1 rs1 dp bel1 cha1 fac ope own pla1 rd1 := by
  obtain ⟨K, G, pl1, n1, rs1, M1, bel1, cha1, pla1, rd1, e1, e2, e3, ⟨e4, e5⟩, e6, e7, e8, e9, e10, e11, e12, e13⟩ := h.close hst (by omega)
  subst e11
  have hkw := zpre_le (br := br) e3.1.1
  have hlen : (zpre K br ++ G).length < 360 := by simp; omega
  obtain ⟨M2, a1, a2⟩ := c_add e4 (m := c) (by unfold zv; omega) hlen
  obtain ⟨rd2, b1, b2⟩ := r_add e5 (m := c) (z := c) (zr_sy (by omega)).symm (by omega)
  refine ⟨pl1, n1 + 1, rs1 + 1, M2, bel1, cha1, pla1, rd2, c_tk_mark hst hm e1 a1, fun fu e => r_st_mark hy hc hm (by omega) e2 b1, zJ.mk0 (G := G ++ [c]) (e3.up zsm_id zsm_id zsm_id zsm_id (by omega)) (by simpa using a2) (by simpa using b2) (zbal_app e6 (zbal_one (by omega))) (by simp; omega) e8 e9 e12⟩
