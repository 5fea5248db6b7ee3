/-! the linear text: fractions; the whole line -/
section zwf
variable {n : Int} {F R : Nat → Int} {L : List Int} {e e2 : Int × (Nat → Int) × (Nat → Int) × Int × Int → Option (Int × (Nat → Int) × (Nat → Int))}
set_option maxHeartbeats 4000000 in
theorem zWr_frac (hC : zCx 180 n F L) (hR : zRy 184 R L) (hcL : zcnt L ≤ 60) {I J : List Int} (hI : zbal I) (hJ : zbal J) (ihI : zWr n F R e e2 L I) (ihJ : zWr n F R e e2 L J) : zWr n F R e e2 L (1 :: (I ++ 6 :: (J ++ [11]))) := by
  intro A B fu1 fu2 W br sg pile line d hL h1 h2 h3 h4 h5 h6 h7
  have h180 := hC.1
  have hq := hR.2
  have lS : (1 :: (I ++ 6 :: (J ++ [11]))).length = I.length + J.length + 3 := by simp; omega
  have lL : L.length = A.length + (I.length + J.length + 3 + B.length) := by rw [hL]; simp; omega
  have hcn : zcnt (1 :: (I ++ 6 :: (J ++ [11]))) = 1 + zcnt I + zcnt J := by
    have e1 : zsi 1 = true := by decide
    have e2 : zsi 6 = false := by decide
    have e3 : zsi 11 = false := by decide
    simp [zcnt, zcnt_app, e1, e2, e3]; omega
  have hcI : zcnt I ≤ 60 ∧ zcnt J ≤ 60 := by
    have : zcnt L = zcnt A + (1 + zcnt I + zcnt J) + zcnt B := by rw [hL, zcnt_app, zcnt_app, hcn]; omega
    omega
  have hp0 := zpk_0 I
  have hp1 := zpk_0 J
  have hpk : d + 1 + zpk I ≤ 5 ∧ d + 1 + zpk J ≤ 5 := by
    have lI := zlv_bal hI
    simp only [zpk_cons, zpk_app, zop_op (m := 1) ⟨by omega, by omega⟩, zop_6, lI] at h7
    have m1 := mx_s (zpk J) (zlv J + mxI 0 (zop 11 + zpk []))
    have m2 := mx_s 0 (0 + mxI (zpk J) (zlv J + mxI 0 (zop 11 + zpk [])))
    have m3 := mx_s (zpk I) (0 + mxI 0 (0 + mxI (zpk J) (zlv J + mxI 0 (zop 11 + zpk []))))
    have m4 := mx_s 0 (1 + mxI (zpk I) (0 + mxI 0 (0 + mxI (zpk J) (zlv J + mxI 0 (zop 11 + zpk [])))))
    omega
  rw [hcn] at h5 ⊢
  rw [lS] at h1 h2 ⊢
  obtain ⟨f1, rfl⟩ : ∃ f, fu1 = f + 1 := ⟨fu1 - 1, by omega⟩
  obtain ⟨f2, rfl⟩ : ∃ f, fu2 = f + 1 := ⟨fu2 - 1, by omega⟩
  have eL0 : L = A ++ 1 :: (I ++ 6 :: (J ++ 11 :: B)) := by rw [hL]; simp
  have c1 := (hC.at (A := A) (m := 1) eL0 (x := (A.length : Int)) rfl).1
  have r1 := (hR.1.at (A := A) (m := 1) eL0 (x := (A.length : Int)) rfl).1
  rw [zr_op ⟨by omega, by omega⟩] at r1
  have eL1 : L = (A ++ [1]) ++ (I ++ 6 :: (J ++ 11 :: B)) := by rw [hL]; simp
  have lA1 : ((A ++ [1]).length : Int) = (A.length : Int) + 1 := by simp
  have eL2 : L = (A ++ 1 :: I) ++ 6 :: (J ++ 11 :: B) := by rw [hL]; simp
  have lA2 : ((A ++ 1 :: I).length : Int) = (A.length : Int) + 1 + I.length := by simp; omega
  have eL3 : L = (A ++ 1 :: (I ++ [6])) ++ (J ++ 11 :: B) := by rw [hL]; simp
  have lA3 : ((A ++ 1 :: (I ++ [6])).length : Int) = (A.length : Int) + 1 + I.length + 1 := by simp; omega
  have eL4 : L = (A ++ 1 :: (I ++ 6 :: J)) ++ 11 :: B := by rw [hL]; simp
  have lA4 : ((A ++ 1 :: (I ++ 6 :: J)).length : Int) = (A.length : Int) + 1 + I.length + 1 + J.length := by simp; omega
  obtain ⟨b1, s1, s2⟩ := e_short hC hR (Q := 6 :: (J ++ 11 :: B)) (Or.inr ⟨6, _, rfl, by omega⟩) eL1 hI hcI.1 (x := (A.length : Int) + 1) lA1.symm
  obtain ⟨b2, s3, s4⟩ := e_short hC hR (Q := 11 :: B) (Or.inr ⟨11, _, rfl, by omega⟩) eL3 hJ hcI.2 (x := (A.length : Int) + 1 + I.length + 1) lA3.symm
  have hflip : ∀ (b : Bool) {ρ : Type} (q : Int → Option ρ), cEq (zbi b) 0 (q 1) (q 0) = q (zbi (!b)) := by
    intro b ρ q
    cases b
    · rw [zbi_f, z_eq_t (by omega)]; rfl
    · rw [zbi_t, z_eq_f (by omega)]; rfl
  -- the opening
  obtain ⟨sg1, u1, u2⟩ := c_beginE (br := br) (d := d + 1) b1 h3 (by omega) (by omega)
  obtain ⟨line1, v1, v2⟩ := r_sayUE b1 40 h4 (by omega)
  have lz1 := zwu_le b1 W 40
  have o1 : f_X6_write_9 180 n F e (f1 + 1) (W.length : Int) br sg d (A.length : Int) = f_X6_write_9 180 n F e f1 ((zwu b1 W 40).length : Int) (va_up br (d + 1).toNat (zbi (!b1))) sg1 (d + 1) ((A.length : Int) + 1) := by
    have hbeg : f_X6_beginStructure 180 (W.length : Int) br sg n F (A.length : Int) (d + 1) = some (((zwu b1 W 40).length : Int), va_up br (d + 1).toNat (zbi (!b1)), sg1) := by
      unfold f_X6_beginStructure
      simp (disch := omega) only [c1, z_bd, z_jn, z_eq_t, s1]
      refine Eq.trans (hflip b1 (fun z21 => bd (f_X6_beginSlot (W.length : Int) br sg (d + 1) z21) (fun r22 => some (r22.1, r22.2.1, r22.2.2)))) ?_
      rw [u1, z_bd]
    simp (disch := omega) only [f_X6_write_9, z_lt_t, c1, z_bd, c_on_t, z_jn, z_eq_f, hbeg]
  have o2 : f_X8_layLine_9 184 R e2 (f2 + 1) (W.length : Int) line pile d (A.length : Int) = f_X8_layLine_9 184 R e2 f2 ((zwu b1 W 40).length : Int) line1 (va_up pile d.toNat (A.length : Int)) (d + 1) ((A.length : Int) + 1) := by
    simp (disch := omega) only [f_X8_layLine_9, z_in, z180, hq.1, z_lt_t, z_lt_f, r1, r_bg_t, z_bd, z_jn, z_eq_t, z_eq_f, s2, v1]
  obtain ⟨W2, br2, sg2, pile2, line2, i1, i2, i3, i4, i5, i6, i7⟩ := ihI (A ++ [1]) (6 :: (J ++ 11 :: B)) f1 f2 (zwu b1 W 40) (va_up br (d + 1).toNat (zbi (!b1))) sg1 (va_up pile d.toNat (A.length : Int)) line1 (d + 1) eL1 (by omega) (by omega) u2 v2 (by omega) (by omega) hpk.1
  rw [lA1] at i1 i2
  have hb2 : br2 (d + 1).toNat = zbi (!b1) := by rw [i6 _ (by omega), vup_eq]
  have hp2 : pile2 d.toNat = (A.length : Int) := by rw [i7 _ (by omega), vup_eq]
  obtain ⟨g1, hg1⟩ : ∃ f, f1 - I.length = f + 1 := ⟨f1 - I.length - 1, by omega⟩
  obtain ⟨g2, hg2⟩ : ∃ f, f2 - I.length = f + 1 := ⟨f2 - I.length - 1, by omega⟩
  rw [hg1] at i1
  rw [hg2] at i2
  -- the middle
  have c2 := (hC.at (A := A ++ 1 :: I) (m := 6) eL2 (x := (A.length : Int) + 1 + I.length) lA2.symm).1
  have r2 := (hR.1.at (A := A ++ 1 :: I) (m := 6) eL2 (x := (A.length : Int) + 1 + I.length) lA2.symm).1
  rw [zr_6] at r2
  have lz2 := zwu_le b1 W2 41
  have lz3 : (zwu b1 W2 41 ++ [47]).length = (zwu b1 W2 41).length + 1 := by simp
  have lz4 := zwu_le b2 (zwu b1 W2 41 ++ [47]) 40
  obtain ⟨sg3, p1, p2⟩ := c_endE (br := br2) (d := d + 1) b1 i3 (by omega) (by omega) hb2
  obtain ⟨sg4, p3, p4⟩ := c_putE 47 p2 (by omega)
  obtain ⟨sg5, p5, p6⟩ := c_beginE (br := br2) (d := d + 1) b2 p4 (by omega) (by omega)
  obtain ⟨line3, t1, t2⟩ := r_sayUE b1 41 i4 (by omega)
  obtain ⟨line4, t3, t4⟩ := r_sayE 47 t2 (by omega)
  obtain ⟨line5, t5, t6⟩ := r_sayUE b2 40 t4 (by omega)
  have ed0 : d + 1 - 1 = d := by omega
  have m1 : f_X6_write_9 180 n F e (g1 + 1) (W2.length : Int) br2 sg2 (d + 1) ((A.length : Int) + 1 + I.length) = f_X6_write_9 180 n F e g1 ((zwu b2 (zwu b1 W2 41 ++ [47]) 40).length : Int) (va_up br2 (d + 1).toNat (zbi (!b2))) sg5 (d + 1) ((A.length : Int) + 1 + I.length + 1) := by
    simp (disch := omega) only [f_X6_write_9, z_lt_t, c2, z_bd, c_on_f, z_jn, z_eq_t, p1, p3, s3]
    cases b2
    · rw [Bool.not_false, zbi_t] at p5
      rw [zbi_f, z_eq_t (by omega), p5, z_bd, Bool.not_false, zbi_t]
    · rw [Bool.not_true, zbi_f] at p5
      rw [zbi_t, z_eq_f (by omega), p5, z_bd, Bool.not_true, zbi_f]
  have m2 : f_X8_layLine_9 184 R e2 (g2 + 1) (W2.length : Int) line2 pile2 (d + 1) ((A.length : Int) + 1 + I.length) = f_X8_layLine_9 184 R e2 g2 ((zwu b2 (zwu b1 W2 41 ++ [47]) 40).length : Int) line5 pile2 (d + 1) ((A.length : Int) + 1 + I.length + 1) := by
    simp (disch := omega) only [f_X8_layLine_9, z_in, z180, hq.1, z_lt_t, z_lt_f, r2, r_bg_f, z_bd, z_jn, z_eq_t, z_eq_f, ed0, hp2, s2, t1, t3, s4, t5]
  obtain ⟨W3, br3, sg6, pile3, line6, j1, j2, j3, j4, j5, j6, j7⟩ := ihJ (A ++ 1 :: (I ++ [6])) (11 :: B) g1 g2 (zwu b2 (zwu b1 W2 41 ++ [47]) 40) (va_up br2 (d + 1).toNat (zbi (!b2))) sg5 pile2 line5 (d + 1) eL3 (by omega) (by omega) p6 t6 (by omega) (by omega) hpk.2
  rw [lA3] at j1 j2
  have hb3 : br3 (d + 1).toNat = zbi (!b2) := by rw [j6 _ (by omega), vup_eq]
  have hp3 : pile3 d.toNat = (A.length : Int) := by rw [j7 _ (by omega), hp2]
  obtain ⟨q1, hq1⟩ : ∃ f, g1 - J.length = f + 1 := ⟨g1 - J.length - 1, by omega⟩
  obtain ⟨q2, hq2⟩ : ∃ f, g2 - J.length = f + 1 := ⟨g2 - J.length - 1, by omega⟩
  rw [hq1] at j1
  rw [hq2] at j2
  -- the end
  have c3 := (hC.at (A := A ++ 1 :: (I ++ 6 :: J)) (m := 11) eL4 (x := (A.length : Int) + 1 + I.length + 1 + J.length) lA4.symm).1
  have r3 := (hR.1.at (A := A ++ 1 :: (I ++ 6 :: J)) (m := 11) eL4 (x := (A.length : Int) + 1 + I.length + 1 + J.length) lA4.symm).1
  rw [zr_cl (by omega)] at r3
  have rrs := r_rs hR (P := A ++ 1 :: (I ++ [6])) (R := J) (T := 11 :: B) eL3 (Or.inr ⟨A ++ 1 :: I, 6, by simp, by omega, by omega⟩) hJ (x := (A.length : Int) + 1 + I.length + 1 + J.length) (by omega)
  rw [lA3] at rrs
  obtain ⟨sg7, y1, y2⟩ := c_endE (br := br3) (d := d + 1) b2 j3 (by omega) (by omega) hb3
  obtain ⟨line7, x1, x2⟩ := r_sayUE b2 41 j4 (by omega)
  have lz5 := zwu_le b2 W3 41
  have ed : d + 1 + (-1) = d := by omega
  have ex : (A.length : Int) + 1 + I.length + 1 + J.length + 1 = (A.length : Int) + ((I.length + J.length + 3 : Nat) : Int) := by omega
  refine ⟨zwu b2 W3 41, br3, sg7, pile3, line7, ?_, ?_, y2, x2, by omega, fun j hj => by rw [j6 j (by omega), vup_ne (by omega), i6 j (by omega), vup_ne (by omega)], fun j hj => by rw [j7 j (by omega), i7 j (by omega), vup_ne (by omega)]⟩
  · rw [o1, i1, m1, j1]
    have ef : f1 + 1 - (I.length + J.length + 3) = q1 := by omega
    rw [ef]
    simp (disch := omega) only [f_X6_write_9, z_lt_t, c3, z_bd, c_on_f, z_jn, z_eq_t, z_eq_f, c_cl_t, y1, ed, ex]
  · rw [o2, i2, m2, j2]
    have ef : f2 + 1 - (I.length + J.length + 3) = q2 := by omega
    rw [ef]
    simp (disch := omega) only [f_X8_layLine_9, z_in, z180, hq.1, z_lt_t, z_lt_f, r3, r_bg_f, z_bd, z_jn, z_eq_t, z_eq_f, ed, hp3, r1, rrs, s4, x1, ex]
theorem zWr_bal (hC : zCx 180 n F L) (hR : zRy 184 R L) (hbL : zbal L) (hcL : zcnt L ≤ 60) : ∀ {S : List Int}, zbal S → zWr n F R e e2 L S := by
  intro S hS
  refine zbal_ind2 (P := fun S => zWr n F R e e2 L S) zWr_nil ?_ ?_ ?_ S.length S (Nat.le_refl _) hS
  · intro m T hm hT ih
    have := zWr_app (zWr_sym (e := e) (e2 := e2) hC hR hm.1) ih (zit_bal (Or.inl ⟨m, rfl, hm.1, hm.2⟩))
    simpa using this
  · intro k I T hk hI hT ihI ihT
    have := zWr_app (zWr_str (e := e) (e2 := e2) hC hR hbL hcL hk hI ihI) ihT (zit_bal (Or.inr (Or.inl ⟨k, I, rfl, hk.1, hk.2, hI⟩)))
    simpa using this
  · intro I J T hI hJ hT ihI ihJ ihT
    have := zWr_app (zWr_frac (e := e) (e2 := e2) hC hR hcL hI hJ ihI ihJ) ihT (zit_bal (Or.inr (Or.inr ⟨I, J, rfl, hI, hJ⟩)))
    simpa using this
end zwf
/-- both write the same linear text -/
theorem e_write {n wl ls : Int} {F R br sg pile line : Nat → Int} {L : List Int} (hC : zCx 180 n F L) (hR : zRy 184 R L) (hbL : zbal L) (hcL : zcnt L ≤ 60) (hpL : zpk L ≤ 5) : ∃ (W : List Int) (br' sg' pile' line' : Nat → Int), f_X6_write 180 wl br sg n F = some ((W.length : Int), br', sg') ∧ f_X8_layLine 184 ls line pile R = some ((W.length : Int), line', pile') ∧ zCW sg' W ∧ zCW line' W ∧ W.length ≤ 300 := by
  have h180 := hC.1
  have hq := hR.2
  obtain ⟨W, br', sg', pile', line', a1, a2, a3, a4, a5, -, -⟩ := zWr_bal (e := fun (z15 : Int × (Nat → Int) × (Nat → Int) × Int × Int) => some (z15.1, z15.2.1, z15.2.2.1)) (e2 := fun (z40 : Int × (Nat → Int) × (Nat → Int) × Int × Int) => some (z40.1, z40.2.1, z40.2.2.1)) hC hR hbL hcL hbL [] [] fuel fuel [] br sg pile line 0 (by simp) (by unfold fuel; omega) (by unfold fuel; omega) zCW_nil zCW_nil (by simp; omega) (Int.le_refl 0) (by omega)
  obtain ⟨g, hg⟩ : ∃ g, fuel - L.length = g + 1 := ⟨fuel - L.length - 1, by unfold fuel; omega⟩
  rw [hg] at a1 a2
  simp only [List.length_nil, Int.natCast_zero, Int.ofNat_zero, Int.zero_add] at a1 a2
  refine ⟨W, br', sg', pile', line', ?_, ?_, a3, a4, by simp at a5; omega⟩
  · unfold f_X6_write
    refine Eq.trans a1 ?_
    simp (disch := omega) only [f_X6_write_9, z_lt_f]
  · unfold f_X8_layLine
    refine Eq.trans a2 ?_
    simp (disch := omega) only [f_X8_layLine_9, z_in, z180, hq.1, z_lt_f]
