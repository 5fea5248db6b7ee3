/-! the reader from its start to its end, on both sides; errorPosition, load -/
theorem r_openRow0 {k : Int} {bel cha ope own pla : Nat → Int} : f_X8_openRow (-1) bel cha ope own pla k = some (0, va_up bel 0 0, va_up cha 0 (-9), va_up ope 0 k, va_up own 0 0, va_up pla 0 0) := by
  unfold f_X8_openRow
  simp (disch := omega) only [z_in, z_gB]
  rfl
theorem zJ.start {S M bel cha fac ope own pla rd : Nat → Int} : zJ 0 0 0 0 0 0 0 0 0 0 0 0 S M 0 0 (va_up bel 0 0) (va_up cha 0 (-9)) fac (va_up ope 0 0) (va_up own 0 0) (va_up pla 0 0) rd := by
  refine zJ.mk0 (K := []) (G := []) ⟨⟨trivial, Or.inl ⟨rfl, rfl⟩, trivial, trivial⟩, ⟨rfl, rfl, by simp⟩, zup_eq⟩ ?_ ?_ rfl (by simp [zpt]) zup_eq (Or.inl rfl) (Or.inl rfl)
  · exact ⟨⟨rfl, by simp [zpre], by omega⟩, by intro A m T e; simp [zpre] at e, by intro m hm; simp [zpre] at hm⟩
  · exact ⟨rfl, by intro A m T e; simp [zpre] at e⟩
theorem e_read {n n2 top st br ch fa un pl sc bo sz rsz dp : Int} {F F2 S M bel cha fac ope own pla rd : Nat → Int} (h : zTx n n2 F F2) : ∃ (v top' st' br' ch' fa' un' pl' sc' bo' sz' rs' dp' : Int) (S' M' bel' cha' fac' ope' own' pla' rd' : Nat → Int), f_X5_firstError n top st br ch fa un pl sc bo sz F S M = some (v, top', st', br', ch', fa', un', pl', sc', bo', sz', S', M') ∧ f_X8_readText n2 rsz dp bel cha fac ope own pla rd F2 = some (v, rs', dp', bel', cha', fac', ope', own', pla', rd') ∧ ((0 ≤ v ∧ v ≤ 120) ∨ (v = -9 ∧ ∃ L : List Int, zbal L ∧ zCx 360 sz' M' L ∧ zRd rs' rd' L)) := by
  obtain ⟨h1, h2, h3⟩ := h
  have h1 := h1.symm
  subst h1
  have htx : ∀ j : Nat, (j : Int) < n2 → F j = F2 j ∧ 0 ≤ F j ∧ F j ≤ 255 := h3
  have hb : f_X5_begin top st br ch fa un pl sc bo sz = some (0, 0, 0, 0, 0, 0, 0, 0, 0, 0) := by
    unfold f_X5_begin f_X5_beginText
    simp (disch := omega) only [z_gB, z_bd]
  unfold f_X5_firstError f_X8_readText
  rw [hb, r_openRow0, z_bd, z_bd]
  have lp := e_loop (ts := n2) (tx := F2) (sF := F) (eC := fun (z3 : Int × Int × Int × Int × Int × Int × Int × Int × Int × Int × (Nat → Int) × (Nat → Int) × Int) => jn (fun (z6 : Unit) => some (n2, z3.1, z3.2.1, z3.2.2.1, z3.2.2.2.1, z3.2.2.2.2.1, z3.2.2.2.2.2.1, z3.2.2.2.2.2.2.1, z3.2.2.2.2.2.2.2.1, z3.2.2.2.2.2.2.2.2.1, z3.2.2.2.2.2.2.2.2.2.1, z3.2.2.2.2.2.2.2.2.2.2.1, z3.2.2.2.2.2.2.2.2.2.2.2.1)) (fun k4 => cEq z3.2.2.1 0 (cEq z3.2.1 2 (k4 ()) (cEq z3.2.1 3 (k4 ()) (bd (f_X5_endFactor z3.2.1 z3.2.2.2.2.1 z3.2.2.2.2.2.1 z3.2.2.2.2.2.2.1 z3.2.2.2.2.2.2.2.2.2.1 z3.2.2.2.2.2.2.2.2.2.2.2.1) (fun r5 => some ((-9), z3.1, z3.2.1, z3.2.2.1, z3.2.2.2.1, z3.2.2.2.2.1, r5.1, r5.2.1, z3.2.2.2.2.2.2.2.1, z3.2.2.2.2.2.2.2.2.1, r5.2.2.1, z3.2.2.2.2.2.2.2.2.2.2.1, r5.2.2.2))))) (k4 ()))) (eR := fun (z72 : Int × Int × (Nat → Int) × (Nat → Int) × (Nat → Int) × (Nat → Int) × (Nat → Int) × (Nat → Int) × (Nat → Int) × Int × Int) => jn (fun (z75 : Unit) => some (n2, z72.1, z72.2.1, z72.2.2.1, z72.2.2.2.1, z72.2.2.2.2.1, z72.2.2.2.2.2.1, z72.2.2.2.2.2.2.1, z72.2.2.2.2.2.2.2.1, z72.2.2.2.2.2.2.2.2.1)) (fun k73 => cLt 1 z72.2.2.2.2.2.2.2.2.2.1 (k73 ()) (cLt 0 z72.2.1 (k73 ()) (bd (f_X8_closeChain z72.1 z72.2.1 z72.2.2.1 z72.2.2.2.1 z72.2.2.2.2.1 z72.2.2.2.2.2.2.2.1 z72.2.2.2.2.2.2.2.2.1) (fun r74 => some ((-9), r74.1, z72.2.1, r74.2.1, r74.2.2.1, z72.2.2.2.2.1, z72.2.2.2.2.2.1, z72.2.2.2.2.2.2.1, r74.2.2.2.1, r74.2.2.2.2)))))) h2 htx (fun top br ch fa un pl sc bo n S M hbr => by
    by_cases hb0 : br = 0
    · exact ⟨(top, 3, br, ch, fa, un, pl, sc, bo, n, S, M), by simp (disch := omega) only [z_jn, z_eq_t, z_eq_f]⟩
    · exact ⟨(top, 3, br, ch, fa, un, pl, sc, bo, n, S, M), by simp (disch := omega) only [z_jn, z_eq_t, z_eq_f]⟩) n2.toNat n2.toNat (Nat.le_refl _) fuel fuel 0 0 0 0 0 0 0 0 0 0 0 0 0 0 S M _ _ fac _ _ _ rd (by omega) (by unfold fuel; omega) (by unfold fuel; omega) (by omega) (zJ.start (S := S) (M := M) (bel := bel) (cha := cha) (fac := fac) (ope := ope) (own := own) (pla := pla) (rd := rd))
  rcases lp with ⟨v, ⟨x1, x2, x3, x4, x5, x6, x7, x8, x9, x10, x11, x12⟩, ⟨w1, w2, w3, w4, w5, w6, w7, w8, w9⟩, e1, e2, e3⟩ | ⟨st', y1, top', br', ch', fa', un', pl', sc', bo', n', rs', dp', S', M', bel', cha', fac', ope', own', pla', rd', e1, e2, e3⟩
  · exact ⟨v, x1, x2, x3, x4, x5, x6, x7, x8, x9, x10, w1, w2, x11, x12, w3, w4, w5, w6, w7, w8, w9, e1, e2, Or.inl (by omega)⟩
  · have hbz := e3.bz
    have hst := e3.sta
    by_cases hs2 : st' = 2
    · refine ⟨n2, top', st', br', ch', fa', un', pl', sc', bo', n', rs', dp', S', M', bel', cha', fac', ope', own', pla', rd', ?_, ?_, Or.inl (by omega)⟩
      · refine e1.trans ?_
        by_cases hb0 : br' = 0
        · simp (disch := omega) only [z_jn, z_eq_t, z_eq_f]
        · simp (disch := omega) only [z_jn, z_eq_t, z_eq_f]
      · refine e2.trans ?_
        simp (disch := omega) only [z_jn, z_lt_t]
    · by_cases hb0 : br' = 0
      · obtain ⟨K, G, pl1, n1, rs1, M1, bel1, cha1, pla1, rd1, c1, c2, c3, ⟨c4, c5⟩, c6, c7, c8, c9, c10, c11, c12, c13⟩ := e3.close (by omega) (by omega)
        have hK : K = [] := by
          have := c3.2.1.2.1
          exact List.eq_nil_of_length_eq_zero (by omega)
        subst hK
        rw [zpre, List.nil_append] at c4 c5
        refine ⟨-9, top', st', br', ch', fa', 0, pl1, sc', bo', n1, rs1, dp', S', M1, bel1, cha1, fac', ope', own', pla1, rd1, ?_, ?_, Or.inr ⟨rfl, G, c6, c4, c5⟩⟩
        · refine e1.trans ?_
          simp (disch := omega) only [z_jn, z_eq_t, z_eq_f, c1, z_bd]
        · refine e2.trans ?_
          simp (disch := omega) only [z_jn, z_lt_f, c2, z_bd]
      · refine ⟨n2, top', st', br', ch', fa', un', pl', sc', bo', n', rs', dp', S', M', bel', cha', fac', ope', own', pla', rd', ?_, ?_, Or.inl (by omega)⟩
        · refine e1.trans ?_
          simp (disch := omega) only [z_jn, z_eq_f]
        · refine e2.trans ?_
          simp (disch := omega) only [z_jn, z_lt_t, z_lt_f]
theorem e_errorPosition {n n2 top st br ch fa un pl sc bo sz rsz dp rf : Int} {F F2 S M bel cha fac ope own pla rd : Nat → Int} (h : zTx n n2 F F2) : ∃ (v top' st' br' ch' fa' un' pl' sc' bo' sz' rs' dp' : Int) (S' M' bel' cha' fac' ope' own' pla' rd' : Nat → Int), f_X7_errorPosition n top st br ch fa un pl sc bo sz F S M = some (v, top', st', br', ch', fa', un', pl', sc', bo', sz', S', M') ∧ f_X8_errorPosition rf n2 rsz dp bel cha fac ope own pla rd F2 = some (v, 0, rs', dp', bel', cha', fac', ope', own', pla', rd') ∧ -9 ≤ v ∧ v ≤ 120 := by
  obtain ⟨v, top', st', br', ch', fa', un', pl', sc', bo', sz', rs', dp', S', M', bel', cha', fac', ope', own', pla', rd', e1, e2, e3⟩ := e_read (top := top) (st := st) (br := br) (ch := ch) (fa := fa) (un := un) (pl := pl) (sc := sc) (bo := bo) (sz := sz) (rsz := rsz) (dp := dp) (S := S) (M := M) (bel := bel) (cha := cha) (fac := fac) (ope := ope) (own := own) (pla := pla) (rd := rd) h
  refine ⟨v, top', st', br', ch', fa', un', pl', sc', bo', sz', rs', dp', S', M', bel', cha', fac', ope', own', pla', rd', ?_, ?_, by omega⟩
  · unfold f_X7_errorPosition
    rw [e1, z_bd]
  · unfold f_X8_errorPosition
    rw [e2, z_bd]
theorem r_ld_loop {ts rf ac rs dp : Int} {tx bel cha fac kp ope own pla rd : Nat → Int} {e : Int × Int × Int × Int × (Nat → Int) × (Nat → Int) × (Nat → Int) × (Nat → Int) × (Nat → Int) × (Nat → Int) × (Nat → Int) × (Nat → Int) × (Nat → Int) × Int → Option (Int × Int × Int × Int × Int × (Nat → Int) × (Nat → Int) × (Nat → Int) × (Nat → Int) × (Nat → Int) × (Nat → Int) × (Nat → Int) × (Nat → Int) × (Nat → Int))} : ∀ (Z P : List Int) (fu : Nat) (F : Nat → Int) (y : Int), zR rd (P ++ Z) → zR F P → rs = (P.length : Int) + Z.length → rs ≤ 184 → Z.length < fu → y = (P.length : Int) → ∃ F', f_X8_load_58 ts tx e fu rf ac rs dp bel cha fac kp F ope own pla rd y = e (rf, ac, rs, dp, bel, cha, fac, kp, F', ope, own, pla, rd, rs) ∧ zR F' (P ++ Z)
  | Z, P, 0, F, y, h, h2, hn, hn2, hf, hy => by omega
  | [], P, fu + 1, F, y, h, h2, hn, hn2, hf, hy => by
    simp only [List.length_nil] at hn
    refine ⟨F, ?_, by simpa using h2⟩
    simp (disch := omega) only [f_X8_load_58, z_lt_f]
    rw [show y = rs by omega]
  | m :: Z, P, fu + 1, F, y, h, h2, hn, hn2, hf, hy => by
    simp only [List.length_cons] at hn hf
    have hm : rd y.toNat = zr m := by
      rw [show y.toNat = P.length by omega]
      exact h P m Z rfl
    have e1 : y.toNat = P.length := by omega
    have key : zR (va_up F P.length (zr m)) (P ++ [m]) := zR_add h2
    obtain ⟨F', a1, a2⟩ := r_ld_loop (ts := ts) (rf := rf) (ac := ac) (rs := rs) (dp := dp) (tx := tx) (bel := bel) (cha := cha) (fac := fac) (kp := kp) (ope := ope) (own := own) (pla := pla) (rd := rd) (e := e) Z (P ++ [m]) fu (va_up F P.length (zr m)) (y + 1) (by simpa using h) key (by simp; omega) hn2 (by omega) (by simp; omega)
    refine ⟨F', ?_, by simpa using a2⟩
    rw [f_X8_load_58, z_lt_t (by omega), z_in (by omega), z_in (by omega), hm, e1, a1]
