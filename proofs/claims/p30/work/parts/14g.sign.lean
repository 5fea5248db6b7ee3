/-! the drawing: the sign, whole -/
section zpt
variable {n : Int} {F R : Nat → Int} {L : List Int} {w a b wi hi lo iw : Nat → Int}
/-- a sign is the same on both sides: of the class's outcome at a row, going on with g -/
def zsg (g : Int → Int → Int → Option (Int × Int × Int × Int)) (r : Option (Int × Int × Int × Int)) (s : Option Int) : Prop := ∃ r1 r2 r3 r4 v c1 c2 c3, r = some (r1, r2, r3, r4) ∧ cEq r1 (-9) (g r2 r3 r4) (some (r1, r2, r3, r4)) = some (v, c1, c2, c3) ∧ s = some v ∧ -1000 ≤ v ∧ v ≤ 1000
theorem zsg_p {g : Int → Int → Int → Option (Int × Int × Int × Int)} {v r2 r3 r4 : Int} (hv : 0 ≤ v ∧ v ≤ 1000) : zsg g (some (v, r2, r3, r4)) (some v) := ⟨v, r2, r3, r4, v, r2, r3, r4, rfl, by rw [z_eq_f (by omega)], rfl, by omega, by omega⟩
theorem zsg_out {g : Int → Int → Int → Option (Int × Int × Int × Int)} {r2 r3 r4 : Int} {s : Option Int} (hs : s = some 32) : zsg g (some (32, r2, r3, r4)) s := by rw [hs]; exact zsg_p (by omega)
/-- a slot entered: the next row's claim given -/
theorem zsg_ent {g : Int → Int → Int → Option (Int × Int × Int × Int)} {row x' h y x2 y2 cx ch : Int} {q fu2 : Nat} (hy : y = (q : Int)) (hq : q ≤ 180) (hbx : (1 ≤ w q ∧ w q ≤ 1000) ∧ 0 ≤ a q ∧ 0 ≤ b q ∧ a q + b q ≤ 1000) (he : wi q = w q ∧ hi q = a q ∧ lo q = b q) (hcx : cx = x' - x2) (hch : ch = h - y2) (hc : -2000 ≤ cx ∧ cx ≤ 2000 ∧ -2000 ≤ ch ∧ ch ≤ 2000) (hfu : 0 < fu2) (hin : zib w a b q cx ch → ∃ v c1 c2 c3, g y cx ch = some (v, c1, c2, c3) ∧ f_X8_signAt_9 184 hi iw lo wi R fu2 y cx ch = some v ∧ -1000 ≤ v ∧ v ≤ 1000) : zsg g (f_X4_enterSlot row x' h a b w y x2 y2) (f_X8_signAt_9 184 hi iw lo wi R fu2 y cx ch) := by
  subst hcx; subst hch
  rcases c_enter (w := w) (a := a) (b := b) (row := row) (c := x') (h := h) (c2 := x2) (h2 := y2) hy hq hbx hc with ⟨q1, q2⟩ | ⟨q1, q2⟩
  · obtain ⟨v, c1, c2, c3, o1, o2, o3⟩ := hin q1
    exact ⟨_, _, _, _, v, c1, c2, c3, q2, by rw [z_eq_t (by omega)]; exact o1, o2, o3⟩
  · obtain ⟨f2, rfl⟩ : ∃ f, fu2 = f + 1 := ⟨fu2 - 1, by omega⟩
    rw [q2]
    exact zsg_out (by rw [hy]; exact r_outside hq hbx hc he q1)
set_option maxHeartbeats 4000000 in
/-- one row: what happens at an item of it -/
theorem e_item (hC : zCx 180 n F L) (hR : zRy 184 R L) (hg : zgF L w a b wi hi lo iw) {U T1 X T2 Q : List Int} (hL : L = U ++ (T1 ++ (X ++ T2) ++ Q)) (hX : zit X) (hT1 : zbal T1) {y4 x x' h mf : Int} {fu2 : Nat} (hfu : 0 < fu2) (hy : zlv U = y4) (hx : 0 ≤ x' ∧ x' < ziw w (U.length + T1.length) X) (hh : -1000 ≤ h ∧ h ≤ 1000) (hiw : iw (U.length + T1.length) = ziw w (U.length + T1.length) X) (hf : f_X3_mark 180 n F (U.length : Int) = some mf) (hf2 : (1 ≤ mf ∧ mf ≤ 5) ∨ 42 ≤ mf ∧ mf ≤ 122) (hc0 : f_X4_itemAtColumn 180 (U.length : Int) x w n F = some (((U.length + T1.length : Nat) : Int), x')) {g : Int → Int → Int → Option (Int × Int × Int × Int)} (hrec : ∀ (U' T' Q' : List Int) (y cx ch : Int), L = U' ++ (T' ++ Q') → zend U' → zbeg Q' → zbal T' → zlv U' = y4 + 1 → y = (U'.length : Int) → zib w a b U'.length cx ch → ∃ v c1 c2 c3, g y cx ch = some (v, c1, c2, c3) ∧ f_X8_signAt_9 184 hi iw lo wi R fu2 y cx ch = some v ∧ -1000 ≤ v ∧ v ≤ 1000) : zsg g (f_X4_signInRow 180 (U.length : Int) x h a b w n F) (zE R hi iw lo wi fu2 (x', h, ((U.length + T1.length : Nat) : Int))) := by
  have h180 := hC.1
  have h3 := hR.2
  have lL : L.length = U.length + (T1.length + (X.length + T2.length) + Q.length) := by rw [hL]; simp; omega
  have hXl := zit_ne hX
  have eL : L = (U ++ T1) ++ (X ++ (T2 ++ Q)) := by rw [hL]; simp
  have lU1 : (U ++ T1).length = U.length + T1.length := by simp
  have hzl1 : zlv (U ++ T1) = y4 := by rw [zlv_app, zlv_bal hT1, hy]; omega
  obtain ⟨b1, -, -, ⟨b4, b5⟩, -⟩ := c_box hC (zgF_sl hg 0) eL hX (Nat.zero_le _) (x := ((U.length + T1.length : Nat) : Int)) (by rw [lU1])
  rw [lU1] at b1 b4 b5
  have hcm : ∀ (m : Int) (T : List Int), X = m :: T → f_X3_mark 180 n F ((U.length + T1.length : Nat) : Int) = some m := fun m T e => (hC.at (A := U ++ T1) (m := m) (T := T ++ (T2 ++ Q)) (by rw [eL, e]; rfl) (by rw [lU1])).1
  have hrm : ∀ (m : Int) (T : List Int), X = m :: T → R (U.length + T1.length) = zr m := fun m T e => by
    have := (hR.1.at (A := U ++ T1) (m := m) (T := T ++ (T2 ++ Q)) (by rw [eL, e]; rfl) (x := ((U.length + T1.length : Nat) : Int)) (by rw [lU1])).1
    rwa [Int.toNat_natCast] at this
  generalize hp : U.length + T1.length = p at *
  have hp180 : p < 180 := by omega
  rcases hX with ⟨m, rfl, j1, j2⟩ | ⟨k, I, rfl, j1, j2, hI⟩ | ⟨I, J, rfl, hI, hJ⟩
  · have hm := hcm m [] rfl
    have hr := hrm m [] rfl
    rw [zr_sy j1.1] at hr
    rw [c_row_sy hf hf2 hc0 hm j1 (by omega), zE_sy (by omega) hr j1 (by omega)]
    refine zsg_p ?_
    split <;> omega
  · have hm := hcm k _ rfl
    have hr := hrm k _ rfl
    rw [zr_op ⟨by omega, j2⟩] at hr
    have lX : (k :: (I ++ [k + 10])).length = I.length + 2 := by simp
    have lS : (U ++ T1 ++ [k]).length = p + 1 := by rw [List.length_append, lU1]; rfl
    have eS : L = (U ++ T1 ++ [k]) ++ (I ++ (k + 10) :: (T2 ++ Q)) := by rw [eL]; simp
    have hzs : zlv (U ++ T1 ++ [k]) = y4 + 1 := by rw [zlv_app, hzl1]; simp only [zlv, zop_op (m := k) ⟨by omega, j2⟩]; omega
    have zeS : zend (U ++ T1 ++ [k]) := Or.inr ⟨U ++ T1, k, rfl, by omega, by omega⟩
    have zbS : zbeg ((k + 10) :: (T2 ++ Q)) := Or.inr ⟨k + 10, _, rfl, by omega⟩
    obtain ⟨⟨⟨⟨u1, u2⟩, u3, u4, u5⟩, u6, u7, u8⟩, -, -⟩ := hg _ I _ eS zeS zbS hI trivial
    rw [lS] at u1 u2 u3 u4 u5 u6 u7 u8
    have qx : (p : Int) + 1 = ((p + 1 : Nat) : Int) := by omega
    have hin : ∀ cx ch : Int, zib w a b (p + 1) cx ch → ∃ v c1 c2 c3, g ((p : Int) + 1) cx ch = some (v, c1, c2, c3) ∧ f_X8_signAt_9 184 hi iw lo wi R fu2 ((p : Int) + 1) cx ch = some v ∧ -1000 ≤ v ∧ v ≤ 1000 := fun cx ch hz => hrec _ I _ ((p : Int) + 1) cx ch eS zeS zbS hI hzs (by rw [lS]; exact qx) (by rw [lS]; exact hz)
    rw [ziw_k ⟨j1, j2⟩] at hx b4 b5 hiw
    have hk : k = 2 ∨ k = 3 ∨ k = 4 ∨ k = 5 := by omega
    rcases hk with rfl | rfl | rfl | rfl
    · have hx2 : x' < w (p + 1) + 0 := hx.2
      rw [c_row_2 hf hf2 hc0 hm hp180, zE_2 (by omega) hr (by omega)]
      by_cases h0 : h < 0
      · rw [if_pos h0, u8]
        exact zsg_ent qx (by omega) (by omega) ⟨u6, u7, u8⟩ (by omega) (by omega) (by omega) hfu (hin _ _)
      · rw [if_neg h0]
        rcases c_enter (w := w) (a := a) (b := b) (row := (U.length : Int)) (c := x') (h := h) (c2 := 0) (h2 := -1 - b (p + 1)) qx (by omega) (by omega) (by omega) with ⟨w1, w2⟩ | ⟨w1, w2⟩
        · exfalso; unfold zib at w1; omega
        · rw [w2]; exact zsg_out rfl
    · have hx2 : x' < w (p + 1) + 0 := hx.2
      rw [c_row_3 hf hf2 hc0 hm hp180, zE_3 (by omega) hr (by omega)]
      by_cases h0 : 0 < h
      · rw [if_pos h0, u7]
        exact zsg_ent qx (by omega) (by omega) ⟨u6, u7, u8⟩ (by omega) (by omega) (by omega) hfu (hin _ _)
      · rw [if_neg h0]
        rcases c_enter (w := w) (a := a) (b := b) (row := (U.length : Int)) (c := x') (h := h) (c2 := 0) (h2 := 1 + a (p + 1)) qx (by omega) (by omega) (by omega) with ⟨w1, w2⟩ | ⟨w1, w2⟩
        · exfalso; unfold zib at w1; omega
        · rw [w2]; exact zsg_out rfl
    · have hx2 : x' < w (p + 1) + 1 := hx.2
      rw [c_row_4 hf hf2 hc0 hm hp180 (by omega) (by omega), zE_4 (by omega) hr (by omega) (by omega), u7, u8]
      by_cases h0 : h = -(a (p + 1)) - 1
      · rw [if_pos h0, if_pos h0]
        refine zsg_p ?_
        split <;> omega
      · rw [if_neg h0, if_neg h0]
        by_cases h1 : x' = 0
        · rw [if_pos h1, if_pos h1]
          refine zsg_p ?_
          split <;> omega
        · rw [if_neg h1, if_neg h1]
          exact zsg_ent qx (by omega) (by omega) ⟨u6, u7, u8⟩ (by omega) (by omega) (by omega) hfu (hin _ _)
    · have hx2 : x' < w (p + 1) + 2 := hx.2
      have hiw' : iw p = w (p + 1) + 2 := hiw
      rw [c_row_5 hf hf2 hc0 hm hp180 (by omega) (by omega) (by omega), zE_5 (by omega) hr (by omega) (by omega) (by omega), u7, u8]
      by_cases h1 : x' = 0 ∨ x' = w (p + 1) + 1
      · have h1' : x' = 0 ∨ x' = iw p - 1 := by omega
        rw [if_pos h1, if_pos h1']
        refine zsg_p ?_
        split
        · split <;> omega
        · omega
      · have h1' : ¬ (x' = 0 ∨ x' = iw p - 1) := by omega
        rw [if_neg h1, if_neg h1']
        exact zsg_ent qx (by omega) (by omega) ⟨u6, u7, u8⟩ (by omega) (by omega) (by omega) hfu (hin _ _)
  · have hm := hcm 1 _ rfl
    have hr := hrm 1 _ rfl
    rw [zr_op ⟨by omega, by omega⟩] at hr
    have lX : (1 :: (I ++ 6 :: (J ++ [11]))).length = I.length + J.length + 3 := by simp; omega
    generalize hW : ziw w p (1 :: (I ++ 6 :: (J ++ [11]))) = W at *
    have hWm : W = mxI (w (p + 1)) (w (p + I.length + 2)) := by rw [← hW, ziw_1 hI]
    have hmx := mx_s (w (p + 1)) (w (p + I.length + 2))
    have lS1 : (U ++ T1 ++ [(1 : Int)]).length = p + 1 := by rw [List.length_append, lU1]; rfl
    have eS1 : L = (U ++ T1 ++ [1]) ++ (I ++ 6 :: (J ++ [11] ++ (T2 ++ Q))) := by rw [eL]; simp
    have hzs1 : zlv (U ++ T1 ++ [1]) = y4 + 1 := by rw [zlv_app, hzl1]; simp only [zlv, zop_op (m := 1) ⟨by omega, by omega⟩]; omega
    have zeS1 : zend (U ++ T1 ++ [1]) := Or.inr ⟨U ++ T1, 1, rfl, by omega, by omega⟩
    have zbS1 : zbeg (6 :: (J ++ [11] ++ (T2 ++ Q))) := Or.inr ⟨6, _, rfl, by omega⟩
    have lS2 : (U ++ T1 ++ 1 :: (I ++ [6])).length = p + I.length + 2 := by rw [List.length_append, lU1]; simp; omega
    have eS2 : L = (U ++ T1 ++ 1 :: (I ++ [6])) ++ (J ++ 11 :: (T2 ++ Q)) := by rw [eL]; simp
    have hzs2 : zlv (U ++ T1 ++ 1 :: (I ++ [6])) = y4 + 1 := by rw [zlv_app, hzl1]; simp only [zlv, zlv_app, zlv_bal hI, zop_6, zop_op (m := 1) ⟨by omega, by omega⟩]; omega
    have zeS2 : zend (U ++ T1 ++ 1 :: (I ++ [6])) := Or.inr ⟨U ++ T1 ++ 1 :: I, 6, by simp, by omega, by omega⟩
    have zbS2 : zbeg (11 :: (T2 ++ Q)) := Or.inr ⟨11, _, rfl, by omega⟩
    obtain ⟨⟨⟨⟨u1, u2⟩, u3, u4, u5⟩, u6, u7, u8⟩, -, -⟩ := hg _ I _ eS1 zeS1 zbS1 hI trivial
    rw [lS1] at u1 u2 u3 u4 u5 u6 u7 u8
    obtain ⟨⟨⟨⟨s1, s2⟩, s3, s4, s5⟩, s6, s7, s8⟩, -, -⟩ := hg _ J _ eS2 zeS2 zbS2 hJ trivial
    rw [lS2] at s1 s2 s3 s4 s5 s6 s7 s8
    have qx : (p : Int) + 1 = ((p + 1 : Nat) : Int) := by omega
    have qy : ((p + I.length + 2 : Nat) : Int) = ((p + 1 + I.length : Nat) : Int) + 1 := by omega
    have e12 : p + 1 + I.length + 1 = p + I.length + 2 := by omega
    have hss := c_ss hC (A := U ++ T1) (I := I) (T := J ++ 11 :: (T2 ++ Q)) (by rw [eL]; simp) hI (x := (p : Int)) (by rw [lU1])
    rw [lU1, show (p : Int) + I.length + 2 = ((p + I.length + 2 : Nat) : Int) from by omega] at hss
    have hre := r_re hR (A := U ++ T1 ++ [1]) (R := I) (Q := 6 :: (J ++ [11] ++ (T2 ++ Q))) eS1 zbS1 hI (x := (p : Int) + 1) (by rw [lS1]; exact qx)
    rw [lS1, show ((p + 1 : Nat) : Int) + I.length = ((p + 1 + I.length : Nat) : Int) from by omega] at hre
    rw [c_row_1 hf hf2 hc0 hm hp180 (by omega) hss (by omega) b1 (by omega), zE_1 (by omega) hr (by omega) hre (by omega) (by rw [e12]; omega), e12, hiw, u6, u8, s6, s7]
    by_cases h0 : h = 0
    · rw [if_pos h0, if_pos h0]
      exact zsg_p (by omega)
    · rw [if_neg h0, if_neg h0]
      by_cases h1 : h < 0
      · rw [if_pos h1, if_pos h1]
        have hsh : 0 ≤ (W - w (p + 1)).tdiv 2 ∧ (W - w (p + 1)).tdiv 2 ≤ 1000 := by
          have e := Int.tdiv_eq_ediv_of_nonneg (a := W - w (p + 1)) (b := 2) (by omega)
          omega
        exact zsg_ent qx (by omega) (by omega) ⟨u6, u7, u8⟩ rfl (by omega) (by omega) hfu (fun hz => hrec _ I _ ((p : Int) + 1) _ _ eS1 zeS1 zbS1 hI hzs1 (by rw [lS1]; exact qx) (by rw [lS1]; exact hz))
      · rw [if_neg h1, if_neg h1]
        have hsh : 0 ≤ (W - w (p + I.length + 2)).tdiv 2 ∧ (W - w (p + I.length + 2)).tdiv 2 ≤ 1000 := by
          have e := Int.tdiv_eq_ediv_of_nonneg (a := W - w (p + I.length + 2)) (b := 2) (by omega)
          omega
        rw [← qy]
        exact zsg_ent rfl (by omega) (by omega) ⟨s6, s7, s8⟩ rfl (by omega) (by omega) hfu (fun hz => hrec _ J _ _ _ _ eS2 zeS2 zbS2 hJ hzs2 (by rw [lS2]) (by rw [lS2]; exact hz))
theorem e_sign (hC : zCx 180 n F L) (hR : zRy 184 R L) (hcL : zcnt L ≤ 60) (hpL : zpk L ≤ 5) (hg : zgF L w a b wi hi lo iw) {e24 : Int × Int × Int × Int → Option (Int × Int × Int × Int)} : ∀ (d : Nat) (U T Q : List Int) (fu1 fu2 : Nat) (x h y4 : Int), L = U ++ (T ++ Q) → zend U → zbeg Q → zbal T → y4 = zlv U → 0 ≤ y4 → y4 + d = 5 → d < fu1 → d + 1 < fu2 → zib w a b U.length x h → ∃ v c1 c2 c3, f_X4_signAt_24 180 a b w n F e24 fu1 (U.length : Int) x h y4 = some (v, c1, c2, c3) ∧ f_X8_signAt_9 184 hi iw lo wi R fu2 (U.length : Int) x h = some v ∧ -1000 ≤ v ∧ v ≤ 1000
  | d, U, T, Q, 0, fu2, x, h, y4, hL, hU, hQ, hT, hy, hy0, hyd, h1, h2, hb => by omega
  | d, U, T, Q, fu1 + 1, 0, x, h, y4, hL, hU, hQ, hT, hy, hy0, hyd, h1, h2, hb => by omega
  | d, U, T, Q, fu1 + 1, fu2 + 1, x, h, y4, hL, hU, hQ, hT, hy, hy0, hyd, h1, h2, hb => by
    have h180 := hC.1
    have h3 := hR.2
    have lL : L.length = U.length + (T.length + Q.length) := by rw [hL]; simp
    have hcT : zcnt T ≤ 60 := by
      have : zcnt L = zcnt U + (zcnt T + zcnt Q) := by rw [hL, zcnt_app, zcnt_app]
      omega
    obtain ⟨⟨⟨⟨v1, v2⟩, v3, v4, v5⟩, v6, v7, v8⟩, v9, v10⟩ := hg U T Q hL hU hQ hT trivial
    have rin := r_inrow hR hL hQ hT (x := x) (h := h) (iw := iw) fu2 ⟨v6, v7, v8⟩ hb (by omega)
    obtain ⟨⟨hx0, hxw⟩, hh0, hh1⟩ := hb
    rw [rin]
    by_cases hT0 : T = []
    · have l0 : T.length = 0 := by rw [hT0]; rfl
      have hh : h = 0 := by omega
      rcases c_next hC (A := U) (R2 := T) (Q := Q) hL hQ hT (x := (U.length : Int)) rfl with ⟨i0, m, m1, m2⟩ | ⟨X, T1, m, m0, m1, m2, m3, m4, Y, m5⟩
      · have hsr : f_X4_signInRow 180 (U.length : Int) x h a b w n F = some (63, (U.length : Int), x, h) := by
          unfold f_X4_signInRow
          simp (disch := omega) only [m1, z_bd, c_st_f, z_eq_t, z_jn]
        refine ⟨63, (U.length : Int), x, h, ?_, by rw [z_eq_t (by omega)], by omega, by omega⟩
        simp (disch := omega) only [f_X4_signAt_24, z_lt_f, hsr, z_bd, z_eq_f]
      · rw [hT0] at m0; rw [m5] at m0; simp at m0
    · have hlt : 0 < T.length := List.length_pos_iff.mpr hT0
      rw [if_neg hT0] at v9
      obtain ⟨X0, T0, e0, hX0, hT0b⟩ := zitF hT hT0
      obtain ⟨mf, Yf, ef, hmf, hmf2⟩ := zit_first hX0
      have hf := (hC.at (A := U) (m := mf) (T := Yf ++ T0 ++ Q) (by rw [hL, e0, ef]; simp) (x := (U.length : Int)) rfl).1
      obtain ⟨T1, X, T2, x', i', g1, g2, g3, g4, g5, g6, g7⟩ := e_col hC hR hg (Q := Q) (row := (U.length : Int)) (h := h) (e := fun (z4 : Int × Int × Int) => some (z4.2.1, z4.1)) (e2 := zE R hi iw lo wi fu2) T.length T U fuel fuel x 0 (Nat.le_refl _) hT hL (by unfold fuel; omega) (by unfold fuel; omega) v10 ⟨hx0, by omega⟩ (by rw [← v9]; exact hxw) (Int.le_refl 0) (by omega)
      have hc0 : f_X4_itemAtColumn 180 (U.length : Int) x w n F = some (((U.length + T1.length : Nat) : Int), x') := g6
      rw [z_eq_f (by omega), g7]
      obtain ⟨r1, r2, r3, r4, v, c1, c2, c3, o1, o2, o3, o4⟩ := e_item hC hR hg (U := U) (T1 := T1) (X := X) (T2 := T2) (Q := Q) (by rw [hL, g1]) g2 g3 (y4 := y4) (x := x) (x' := x') (h := h) (mf := mf) (fu2 := fu2) (by omega) hy.symm ⟨g4, g5⟩ (by omega) (v10 T1 X T2 g1 g2 g3) hf hmf2 hc0 (g := fun r2 r3 r4 => f_X4_signAt_24 180 a b w n F e24 fu1 r2 r3 r4 (y4 + 1)) (fun U' T' Q' y cx ch k1 k2 k3 k4 k5 k6 k7 => by
        have hlv5 : y4 + 1 ≤ 5 := by
          have e1 := zpk_lv U'
          have e2 : zpk L = mxI (zpk U') (zlv U' + zpk (T' ++ Q')) := by rw [k1, zpk_app]
          have e3 := mx_s (zpk U') (zlv U' + zpk (T' ++ Q'))
          omega
        obtain ⟨d', rfl⟩ : ∃ f, d = f + 1 := ⟨d - 1, by omega⟩
        subst k6
        exact e_sign hC hR hcL hpL hg (e24 := e24) d' U' T' Q' fu1 fu2 cx ch (y4 + 1) k1 k2 k3 k4 k5.symm (by omega) (by omega) (by omega) (by omega) k7)
      refine ⟨v, c1, c2, c3, ?_, o3, o4⟩
      simp (disch := omega) only [f_X4_signAt_24, z_lt_f, o1, z_bd]
      exact o2
end zpt
