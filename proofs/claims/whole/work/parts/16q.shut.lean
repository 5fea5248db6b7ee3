/-! the reader: a bracket is closed, on both sides -/
theorem zJ.bz {y st y1 top br ch fa un pl sc bo n rs dp : Int} {S M bel cha fac ope own pla rd : Nat → Int} (h : zJ y st y1 top br ch fa un pl sc bo n S M rs dp bel cha fac ope own pla rd) : ((br = 0 ∧ dp = 0) ∨ ((br = 4 ∨ br = 5) ∧ 0 < dp)) ∧ 0 ≤ dp ∧ dp ≤ y := by
  obtain ⟨K, G, N, F, ⟨⟨h1, h2, h3, h4⟩, ⟨h5, h6, h7⟩, h8⟩, -⟩ := h
  refine ⟨?_, by omega, by omega⟩
  rcases h2 with ⟨q1, q2⟩ | ⟨q1, q2⟩
  · left; exact ⟨q1, by rw [h6, q2]; rfl⟩
  · right
    refine ⟨q1, ?_⟩
    have : 0 < K.length := List.length_pos_iff.mpr q2
    omega
theorem e_j_shut {y st y1 top br ch fa un pl sc bo n rs dp ts : Int} {S M bel cha fac ope own pla rd tx : Nat → Int} (h : zJ y st y1 top br ch fa un pl sc bo n S M rs dp bel cha fac ope own pla rd) (hst : st = 0 ∨ st = 1) (hy : 0 ≤ y ∧ y < ts ∧ ts ≤ 120) (hc : tx y.toNat = 41) (hbr : br ≠ 0) : ∃ (st' b ch' fa' un' pl' bo' n2 rs2 : Int) (M2 bel2 cha2 pla2 rd2 : Nat → Int), f_X5_takes top st br ch fa un pl sc bo n S M 41 = some (1, top - 6, st', b, ch', fa', un', pl', 0, bo', n2, S, M2) ∧ (∀ fu e, f_X8_readText_19 ts tx e (fu + 1) rs dp bel cha fac ope own pla rd y1 y = f_X8_readText_19 ts tx e fu rs2 (dp - 1) bel2 cha2 fac ope own pla2 rd2 st' (y + 1)) ∧ zJ (y + 1) st' st' (top - 6) b ch' fa' un' pl' 0 bo' n2 S M2 rs2 (dp - 1) bel2 cha2 fac ope own pla2 rd2 := by
  obtain ⟨K, G, pl1, n1, rs1, M1, bel1, cha1, pla1, rd1, e1, e2, e3, ⟨e4, e5⟩, e6, e7, e8, e9, e10, e11, e12, e13⟩ := h.close hst (by omega)
  subst e11
  have hkw := zpre_le (br := br) e3.1.1
  obtain ⟨⟨h1, h2, h3, h4⟩, ⟨h5, h6, h7⟩, h8⟩ := e3
  rcases h2 with ⟨q1, -⟩ | ⟨hb45, hKn⟩
  · exact absurd q1 hbr
  match K, hKn with
  | (b, G0, N0, F0, un0, sc0, bo0) :: K', _ =>
  obtain ⟨hw, hkb, hkw'⟩ := h1
  obtain ⟨⟨r0, r1, r2⟩, r3, r4⟩ := h4
  have hS := h3
  obtain ⟨-, -, hS'⟩ := h3
  simp only [List.length_cons] at h5 h6 h7 h8
  have hd1 : (dp - 1).toNat = K'.length := by omega
  have hlen : (zpre ((b, G0, N0, F0, un0, sc0, bo0) :: K') br ++ G).length + 2 ≤ 360 := by
    rw [List.length_append]; omega
  have hd0 : dp.toNat = K'.length + 1 := by omega
  have hu := hw.2.1
  have ho := hw.2.2.1
  have hsc := hw.2.2.2.1
  obtain ⟨ch', fa', n', M', c1, c2, c3⟩ := c_closeB (top := top) (st := 0) (ch := ch) (fa := fa) (un0 := 0) (pl := pl1) (sc0 := 0) (bo0 := bo) hw (by omega) (by omega) hS e4 hlen hb45
  have hjk : ∀ v : Int, zJk (y + 1) b (top - 6) (dp - 1) S bel1 cha1 fac ope own K' := fun _ => ⟨⟨hkw', hkb, hS', r4⟩, ⟨by omega, by omega, by omega⟩, r1⟩
  have hjp : sc0 = 0 ∨ bo0 = 1 → zJp b ch' fa' un0 cha1 fac K' G0 N0 := fun hh => ⟨c3 hh, r3 hh⟩
  rw [zpt] at e7
  by_cases k1 : sc0 = 0
  · subst k1
    have hF := hw.2.2.2.2.1 rfl
    subst hF
    have ho1 : zom 0 br = [br] := if_pos (Or.inr rfl)
    have ho2 : zcm 0 br = [10 + br] := if_pos (Or.inr rfl)
    rw [zpre, ho1, zct_0] at c2 e5
    rw [ho2, show 10 + br = br + 10 by omega] at c2
    rw [ho1, zct_0] at e7
    simp only [List.length_cons, List.length_nil] at e7
    rw [if_pos rfl, if_pos rfl] at c1
    have hz : zcs 0 = [] := rfl
    rw [hz] at c2
    obtain ⟨rd2, b1, b2⟩ := r_add e5 (m := br + 10) (z := -11) (zr_cl (by omega)).symm (by rw [zpre, ho1, zct_0] at hlen; omega)
    have fin : ∀ v, v = (if br = 5 then 1 else 0 : Int) → zJ (y + 1) 1 1 (top - 6) b ch' fa' un0 v 0 bo0 n' S M' (rs1 + 1) (dp - 1) bel1 cha1 fac ope own (va_up pla1 (dp - 1).toNat v) rd2 := by
      intro v hv
      rw [hd1]
      refine zJ.mk1 (G := G0) (N := N0) (F := br :: (G ++ [br + 10])) (hjk 0) (by simpa using c2) (by simpa using b2) ⟨⟨hw.1.1, hw.1.2.1, zbal_enc (by omega) e6⟩, hu, by split at hv <;> omega, Or.inr ⟨rfl, fun hv1 => ⟨G, ?_, e6⟩⟩⟩ (by simp only [List.length_cons, List.length_append, List.length_nil]; omega) r0 zup_eq ho (hjp (Or.inl rfl))
      have : br = 5 := by split at hv <;> omega
      subst this; rfl
    rcases hb45 with hb4 | hb5
    · subst hb4
      rw [if_neg (by omega)] at c1
      have hop : ope dp.toNat = 2 := by rw [hd0, h8, zopc, if_pos rfl, if_pos rfl]
      exact ⟨1, b, ch', fa', un0, 0, bo0, n', rs1 + 1, M', bel1, cha1, va_up pla1 (dp - 1).toNat 0, rd2, c_tk_shut hst e1 c1 (Or.inr rfl), fun fu e => r_st_shut2 hy hc (by omega) (by omega) hop e2 b1, fin 0 (by rw [if_neg (by omega)])⟩
    · subst hb5
      rw [if_pos rfl] at c1
      have hop : ope dp.toNat = 1 := by rw [hd0, h8, zopc, if_neg (by omega), if_pos rfl]
      exact ⟨1, b, ch', fa', un0, 1, bo0, n', rs1 + 1, M', bel1, cha1, va_up pla1 (dp - 1).toNat 1, rd2, c_tk_shut hst e1 c1 (Or.inr rfl), fun fu e => r_st_shut1 hy hc (by omega) (by omega) hop e2 b1, fin 1 (by rw [if_pos rfl])⟩
  · have hz : zct sc0 = [sc0] := if_neg k1
    have hz2 : zcs sc0 = [sc0 + 10] := by unfold zcs; rw [if_neg k1, show 10 + sc0 = sc0 + 10 by omega]
    have hown := r2 k1
    rw [if_neg k1, if_neg k1] at c1
    rw [zpre, hz] at c2 e5
    rw [hz2] at c2
    rw [hz] at e7
    simp only [List.length_cons, List.length_nil] at e7
    have fin : ∀ (J : List Int) (rs2 : Int) (rd2 : Nat → Int), zbal J → (J.length : Int) = G.length + 2 * (zom sc0 br).length → zCx 360 n' M' (zpre K' b ++ (zlh un0 G0 N0 ++ (F0 ++ (sc0 :: (J ++ [sc0 + 10]))))) → zRd rs2 rd2 (zpre K' b ++ (zlh un0 G0 N0 ++ (F0 ++ (sc0 :: (J ++ [sc0 + 10]))))) → zJ (y + 1) bo0 bo0 (top - 6) b ch' fa' un0 0 0 bo0 n' S M' rs2 (dp - 1) bel1 cha1 fac ope own (va_up pla1 (dp - 1).toNat 0) rd2 := by
      intro J rs2 rd2 hJ hJl hCJ hRJ
      rw [hd1]
      have hI : zbal (sc0 :: (J ++ [sc0 + 10])) := zbal_enc (by omega) hJ
      rcases ho with ho | ho
      · subst ho
        obtain ⟨q1, q2⟩ := hw.2.2.2.2.2 k1 rfl
        subst q1 q2
        rw [zlh_0] at hCJ hRJ e7
        exact zJ.mk0 (G := G0 ++ (sc0 :: (J ++ [sc0 + 10]))) (hjk 0) (by simpa using hCJ) (by simpa using hRJ) (zbal_app hw.1.1 hI) (by simp only [List.length_append, List.length_cons, List.length_nil] at e7 ⊢; omega) r0 (Or.inl rfl) (Or.inl rfl)
      · subst ho
        exact zJ.mk1 (G := G0) (N := N0) (F := F0 ++ (sc0 :: (J ++ [sc0 + 10]))) (hjk 0) (by simpa using hCJ) (by simpa using hRJ) ⟨⟨hw.1.1, hw.1.2.1, zbal_app hw.1.2.2 hI⟩, hu, Or.inl rfl, Or.inr ⟨rfl, fun h => by omega⟩⟩ (by simp only [List.length_append, List.length_cons, List.length_nil]; omega) r0 zup_eq (Or.inr rfl) (hjp (Or.inr rfl))
    rcases hb45 with hb4 | hb5
    · subst hb4
      have ho1 : zom sc0 4 = [4] := if_pos (Or.inl rfl)
      have ho2 : zcm sc0 4 = [14] := if_pos (Or.inl rfl)
      rw [ho1] at c2 e5 fin
      rw [ho2] at c2
      have hop : ope dp.toNat = 4 := by rw [hd0, h8, zopc, if_pos rfl, if_neg k1]
      obtain ⟨rd2, b1, b2⟩ := r_add e5 (m := 14) (z := -11) (by decide) (by rw [zpre, ho1, hz] at hlen; omega)
      obtain ⟨rd3, b3, b4⟩ := r_add b2 (m := sc0 + 10) (z := -11) (zr_cl (by omega)).symm (by rw [zpre, ho1, hz] at hlen; rw [List.length_append]; simp only [List.length_cons, List.length_nil]; omega)
      refine ⟨bo0, b, ch', fa', un0, 0, bo0, n', rs1 + 1 + 1, M', bel1, cha1, va_up pla1 (dp - 1).toNat 0, rd3, c_tk_shut hst e1 c1 (Or.inr rfl), fun fu e => ?_, fin (4 :: (G ++ [4 + 10])) _ rd3 (zbal_enc (by omega) e6) (by simp only [List.length_append, List.length_cons, List.length_nil]; omega) (by simpa using c2) (by simpa using b4)⟩
      have := r_st_shut4 (dp := dp) (ts := ts) (tx := tx) (bel := bel) (cha := cha) (fac := fac) (ope := ope) (own := own) (pla := pla) (fu := fu) (e := e) (y1 := y1) (rs := rs) (rd := rd) hy hc (by omega) (by omega) hop (by rw [hd1, hown]; exact ho) e2 b1 b3
      rw [this, hd1, hown]
    · subst hb5
      have ho1 : zom sc0 5 = [] := if_neg (by omega)
      have ho2 : zcm sc0 5 = [] := if_neg (by omega)
      rw [ho1] at c2 e5 fin
      rw [ho2] at c2
      have hop : ope dp.toNat = 3 := by rw [hd0, h8, zopc, if_neg (by omega), if_neg k1]
      obtain ⟨rd2, b1, b2⟩ := r_add e5 (m := sc0 + 10) (z := -11) (zr_cl (by omega)).symm (by rw [zpre, ho1, hz] at hlen; omega)
      refine ⟨bo0, b, ch', fa', un0, 0, bo0, n', rs1 + 1, M', bel1, cha1, va_up pla1 (dp - 1).toNat 0, rd2, c_tk_shut hst e1 c1 (Or.inr rfl), fun fu e => ?_, fin G _ rd2 e6 (by simp only [List.length_nil]; omega) (by simpa using c2) (by simpa using b2)⟩
      have := r_st_shut3 (dp := dp) (ts := ts) (tx := tx) (bel := bel) (cha := cha) (fac := fac) (ope := ope) (own := own) (pla := pla) (fu := fu) (e := e) (y1 := y1) (rs := rs) (rd := rd) hy hc (by omega) (by omega) hop (by rw [hd1, hown]; exact ho) e2 b1
      rw [this, hd1, hown]
