/-! p30: the class measures the boxes of the rows -/
def zms (L : List Int) (w a b : Nat → Int) (P : Nat → Prop) : Prop := ∀ U T Q : List Int, L = U ++ (T ++ Q) → zend U → zbeg Q → zbal T → P U.length → w U.length = (zbf (zdm T)).1 ∧ a U.length = (zdm T).2.1 ∧ b U.length = (zdm T).2.2
theorem zms_bd {w a b : Nat → Int} {U T : List Int} (hT : zbal T) (h : w U.length = (zbf (zdm T)).1 ∧ a U.length = (zdm T).2.1 ∧ b U.length = (zdm T).2.2) : zbd w a b U.length T.length := by
  obtain ⟨h1, h2, h3⟩ := h
  obtain ⟨⟨b1, b2⟩, -⟩ := zdm_b hT
  obtain ⟨o1, o2, o3⟩ := zdm_o hT
  obtain ⟨f1, f2, f3, f4⟩ := zbf_1 (zdm_o hT)
  refine ⟨⟨?_, ?_⟩, ?_, ?_, ?_⟩
  · omega
  · omega
  · omega
  · omega
  · omega
theorem zms_sl {L : List Int} {w a b : Nat → Int} {q : Nat} (h : zms L w a b (fun j => q < j)) : zsl L w a b w a b q := fun U T Q h1 h2 h3 h4 h5 => ⟨zms_bd h4 (h U T Q h1 h2 h3 h4 h5), rfl, rfl, rfl⟩
theorem zdm_it1 {m : Int} (hm : 42 ≤ m) : zdm [m] = (1, 0, 0) := by
  rw [zdm_sym hm rfl, zdm_nil, zbp_n zo1]
theorem zdm_itk {k : Int} {I : List Int} (hk : 2 ≤ k ∧ k ≤ 5) (hI : zbal I) : zdm (k :: (I ++ [k + 10])) = zbk k (zbf (zdm I)) := by
  rw [zdm_k hk hI rfl, zdm_nil, zbp_n (zbk_o (zbf_o (zdm_o hI)))]
theorem zdm_itq {I J : List Int} (hI : zbal I) (hJ : zbal J) : zdm (1 :: (I ++ 6 :: (J ++ [11]))) = zbq (zbf (zdm I)) (zbf (zdm J)) := by
  rw [zdm_q hI hJ rfl, zdm_nil, zbp_n (zbq_o (zbf_o (zdm_o hI)) (zbf_o (zdm_o hJ)))]
/-- an item's box out of those of its slots -/
theorem zms_it {L : List Int} {w a b : Nat → Int} {q : Nat} (hs : zms L w a b (fun j => q < j)) {A X B : List Int} (hL : L = A ++ (X ++ B)) (hX : zit X) (hq : q ≤ A.length) : ziw w A.length X = (zdm X).1 ∧ zih a b A.length X = (zdm X).2.1 ∧ zil a b A.length X = (zdm X).2.2 := by
  rcases hX with ⟨m, rfl, h1, h2⟩ | ⟨k, I, rfl, h1, h2, hI⟩ | ⟨I, J, rfl, hI, hJ⟩
  · rw [zdm_it1 h1.1, ziw_sy h1.1]
    refine ⟨rfl, ?_, ?_⟩
    · simp only [zih]; rw [if_neg (by omega), if_neg (by omega), if_neg (by omega)]
    · simp only [zil]; rw [if_neg (by omega), if_neg (by omega), if_neg (by omega)]
  · obtain ⟨v1, v2, v3⟩ := hs (A ++ [k]) I ((k + 10) :: B) (by rw [hL]; simp) (Or.inr ⟨A, k, rfl, by omega, by omega⟩) (Or.inr ⟨k + 10, B, rfl, by omega⟩) hI (by simp; omega)
    rw [show (A ++ [k]).length = A.length + 1 by simp] at v1 v2 v3
    have hf := (zbf_1 (zdm_o hI)).2.1
    rw [zdm_itk ⟨h1, h2⟩ hI, ziw_k ⟨h1, h2⟩, v1]
    have hk : k = 2 ∨ k = 3 ∨ k = 4 ∨ k = 5 := by omega
    rcases hk with rfl | rfl | rfl | rfl
    · refine ⟨by simp [zbk], ?_, ?_⟩
      · simp [zih, zbk, v2, v3, hf]
      · simp [zil, zbk]
    · refine ⟨by simp [zbk], ?_, ?_⟩
      · simp [zih, zbk]
      · simp [zil, zbk, v2, v3, hf]
    · refine ⟨by simp [zbk]; omega, ?_, ?_⟩
      · simp [zih, zbk, v2, hf]
      · simp [zil, zbk, v3, hf]
    · refine ⟨by simp [zbk]; omega, ?_, ?_⟩
      · simp [zih, zbk, v2, hf]
      · simp [zil, zbk, v3, hf]
  · obtain ⟨v1, v2, v3⟩ := hs (A ++ [1]) I (6 :: (J ++ [11] ++ B)) (by rw [hL]; simp) (Or.inr ⟨A, 1, rfl, by omega, by omega⟩) (Or.inr ⟨6, _, rfl, by omega⟩) hI (by simp; omega)
    rw [show (A ++ [(1 : Int)]).length = A.length + 1 from by simp] at v1 v2 v3
    obtain ⟨u1, u2, u3⟩ := hs (A ++ 1 :: (I ++ [6])) J (11 :: B) (by rw [hL]; simp) (Or.inr ⟨A ++ 1 :: I, 6, by simp, by omega, by omega⟩) (Or.inr ⟨11, _, rfl, by omega⟩) hJ (by simp; omega)
    rw [show (A ++ 1 :: (I ++ [(6 : Int)])).length = A.length + I.length + 2 from by simp; omega] at u1 u2 u3
    have hre : zre 0 (I ++ 6 :: (J ++ [11])) = I.length := zre_at (Or.inr ⟨6, _, rfl, by omega⟩) hI
    have hf := (zbf_1 (zdm_o hI)).2.1
    have hg := (zbf_1 (zdm_o hJ)).2.1
    rw [zdm_itq hI hJ, ziw_1 hI, v1, u1]
    refine ⟨rfl, ?_, ?_⟩
    · simp [zih, zbq, v2, v3, hf]
    · simp [zil, zbq, hre, u2, u3, hg]
section MS
variable {n : Int} {F : Nat → Int} {L : List Int}
theorem c_mrow_loop (hC : zCx 180 n F L) {w a b : Nat → Int} {q : Nat} {Q : List Int} (hQ : zbeg Q) (hs : zms L w a b (fun j => q < j)) {y2 : Int} {e : (Nat → Int) × (Nat → Int) × (Nat → Int) × Int × Int × Int × Int × Int → Option ((Nat → Int) × (Nat → Int) × (Nat → Int))} : ∀ (k : Nat) (T U : List Int) (fu : Nat) (W H Lo i : Int), T.length ≤ k → zbal T → L = U ++ (T ++ Q) → q ≤ U.length → T.length < fu → 0 ≤ i → i + zcnt T ≤ 60 → (0 ≤ W ∧ W ≤ 1 + 2 * U.length ∧ 0 ≤ H ∧ 0 ≤ Lo ∧ H ≤ 2 * U.length ∧ Lo ≤ 2 * U.length) → ∃ i' : Int, f_X4_measureRow_40 180 n F y2 e fu a b w W H Lo (U.length : Int) i = e (a, b, w, W + (zdm T).1, mxI H (zdm T).2.1, mxI Lo (zdm T).2.2, (U.length : Int) + T.length, i')
  | k, T, U, 0, W, H, Lo, i, hk, hT, hL, hq, h1, hi0, hi1, hb => by omega
  | k, T, U, fu + 1, W, H, Lo, i, hk, hT, hL, hq, h1, hi0, hi1, hb => by
    have h180 := hC.1
    have lL : L.length = U.length + (T.length + Q.length) := by rw [hL]; simp
    rcases c_next hC (A := U) (R2 := T) (Q := Q) hL hQ hT (x := (U.length : Int)) rfl with ⟨i0, m, m1, m2⟩ | ⟨X, T1, m, m0, m1, m2, m3, m4, Y, m5⟩
    · subst i0
      rw [zdm_nil]
      have mh := mx_s H 0
      have ml := mx_s Lo 0
      refine ⟨i, ?_⟩
      show _ = e (a, b, w, W + 0, mxI H 0, mxI Lo 0, (U.length : Int) + ([] : List Int).length, i)
      rw [show mxI H 0 = H by omega, show mxI Lo 0 = Lo by omega, Int.add_zero]
      simp only [List.length_nil]
      by_cases hi60 : i < 60
      · simp (disch := omega) only [f_X4_measureRow_40, z_lt_t, m1, z_bd, c_st_f, z_eq_t]
        simp
      · simp (disch := omega) only [f_X4_measureRow_40, z_lt_f]
        simp
    · have hXl := zit_ne m1
      have lT : T.length = X.length + T1.length := by rw [m0]; simp
      have eL : L = U ++ (X ++ (T1 ++ Q)) := by rw [hL, m0]; simp
      obtain ⟨b1, b2, b3, ⟨b4, b5⟩, b6, b7, b8⟩ := c_box hC (zms_sl hs) eL m1 hq (x := (U.length : Int)) rfl
      obtain ⟨d1, d2, d3⟩ := zms_it hs eL m1 hq
      have ci := c_ie hC (A := U) (X := X) (T := T1 ++ Q) eL m1 (x := (U.length : Int)) rfl
      have hcX : zcnt T = zcnt X + zcnt T1 := by rw [m0, zcnt_app]
      have hcX1 : 1 ≤ zcnt X := by rw [m5]; simp only [zcnt]; rw [if_pos (by simp [zsi]; omega)]; omega
      have mh := mx_s H (zih a b U.length X)
      have ml := mx_s Lo (zil a b U.length X)
      have lUX : ((U ++ X).length : Int) = (U.length : Int) + X.length := by simp
      have lUX' : (U ++ X).length = U.length + X.length := by simp
      cases k with
      | zero => omega
      | succ k =>
        obtain ⟨i', g1⟩ := c_mrow_loop hC hQ hs (y2 := y2) (e := e) k T1 (U ++ X) fu (W + ziw w U.length X) (mxI H (zih a b U.length X)) (mxI Lo (zil a b U.length X)) (i + 1) (by omega) m2 (by rw [eL]; simp) (by omega) (by omega) (by omega) (by omega) (by omega)
        rw [lUX] at g1
        refine ⟨i', ?_⟩
        have eT : zdm T = zbp (zdm X) (zdm T1) := by rw [m0, zdm_app (zit_bal m1) m2]
        have ha := zbp_a (0, H, Lo) (zdm X) (zdm T1)
        have ha2 := congrArg (fun z : zbT => z.2.1) ha
        have ha3 := congrArg (fun z : zbT => z.2.2) ha
        rw [eT]
        have e1 : W + (zbp (zdm X) (zdm T1)).1 = W + ziw w U.length X + (zdm T1).1 := by
          show W + ((zdm X).1 + (zdm T1).1) = _
          rw [d1]; omega
        have e2 : mxI H (zbp (zdm X) (zdm T1)).2.1 = mxI (mxI H (zih a b U.length X)) (zdm T1).2.1 := by rw [d2]; exact ha2.symm
        have e3 : mxI Lo (zbp (zdm X) (zdm T1)).2.2 = mxI (mxI Lo (zil a b U.length X)) (zdm T1).2.2 := by rw [d3]; exact ha3.symm
        rw [e1, e2, e3, show (U.length : Int) + T.length = (U.length : Int) + X.length + T1.length by omega]
        simp (disch := omega) only [f_X4_measureRow_40, z_lt_t, m3, z_bd, c_st_t, z_eq_f, b1, b2, b3, z_gR, ci]
        exact g1
theorem c_mrow (hC : zCx 180 n F L) (hcL : zcnt L ≤ 60) {U T Q : List Int} (hL : L = U ++ (T ++ Q)) (hU : zend U) (hQ : zbeg Q) (hT : zbal T) {w a b : Nat → Int} (hs : zms L w a b (fun j => U.length < j)) : ∃ vw va vb, f_X4_measureRow 180 a b w n F (U.length : Int) = some (va_up a U.length va, va_up b U.length vb, va_up w U.length vw) ∧ zms L (va_up w U.length vw) (va_up a U.length va) (va_up b U.length vb) (fun j => U.length ≤ j) := by
  have h180 := hC.1
  have lL : L.length = U.length + (T.length + Q.length) := by rw [hL]; simp
  have hcT : zcnt T ≤ 60 := by
    have : zcnt L = zcnt U + (zcnt T + zcnt Q) := by rw [hL, zcnt_app, zcnt_app]
    omega
  have hn0 : ((U.length : Nat) : Int).toNat = U.length := Int.toNat_natCast _
  have ho := zdm_o hT
  obtain ⟨o1, o2, o3⟩ := ho
  have hfin : ∀ (z0 : Int), (z0 + (zdm T).1 = (zbf (zdm T)).1) → zms L (va_up w U.length (z0 + (zdm T).1)) (va_up a U.length (mxI 0 (zdm T).2.1)) (va_up b U.length (mxI 0 (zdm T).2.2)) (fun j => U.length ≤ j) := by
    intro z0 hz U' T' Q' h1 h2 h4 h5 h6
    have m1 := mx_s 0 (zdm T).2.1
    have m2 := mx_s 0 (zdm T).2.2
    by_cases hu : U'.length = U.length
    · obtain ⟨rfl, rfl, rfl⟩ := zrow_un h1 hL h4 hQ h5 hT hu
      rw [zup_eq, zup_eq, zup_eq]
      exact ⟨hz, by omega, by omega⟩
    · have ne : U'.length ≠ U.length := hu
      have h7 : U.length ≤ U'.length := h6
      rw [zup_ne ne, zup_ne ne, zup_ne ne]
      exact hs U' T' Q' h1 h2 h4 h5 (by show U.length < U'.length; omega)
  obtain ⟨-, hne⟩ := zdm_b hT
  rcases c_next hC (A := U) (R2 := T) (Q := Q) hL hQ hT (x := (U.length : Int)) rfl with ⟨i0, m, m1, m2⟩ | ⟨X, T1, m, m0, m1, m2, m3, m4, Y, m5⟩
  · have hz : (zdm T).1 = 0 := hne.mpr i0
    refine ⟨_, _, _, ?_, hfin 1 (by unfold zbf; simp only [if_pos hz]; omega)⟩
    unfold f_X4_measureRow
    rw [m1, z_bd, c_st_f (by omega), z_bd]
    simp (disch := omega) only [z_jn, z_eq_t, z_eq_f]
    obtain ⟨i', g⟩ := c_mrow_loop hC hQ hs (y2 := (U.length : Int)) (e := fun (z13 : (Nat → Int) × (Nat → Int) × (Nat → Int) × Int × Int × Int × Int × Int) => jn (fun (z15 : (Nat → Int) × (Nat → Int) × (Nat → Int)) => some (z15.1, z15.2.1, z15.2.2)) (fun k14 => cLt (U.length : Int) 0 (k14 (z13.1, z13.2.1, z13.2.2.1)) (cLt (U.length : Int) 181 (cLt (U.length : Int) 181 (cLt (U.length : Int) 181 (gIn (U.length : Int) 181 (gIn (U.length : Int) 181 (gIn (U.length : Int) 181 (k14 (va_up z13.1 (U.length : Int).toNat z13.2.2.2.2.1, va_up z13.2.1 (U.length : Int).toNat z13.2.2.2.2.2.1, va_up z13.2.2.1 (U.length : Int).toNat z13.2.2.2.1))))) (k14 (z13.1, z13.2.1, z13.2.2.1))) (k14 (z13.1, z13.2.1, z13.2.2.1))) (k14 (z13.1, z13.2.1, z13.2.2.1))))) T.length T U fuel 1 0 0 0 (Nat.le_refl _) hT hL (Nat.le_refl _) (by unfold fuel; omega) (by omega) (by omega) (by omega)
    simp (disch := omega) only [z_jn, z_lt_f, z_lt_t, z_in, hn0] at g ⊢
    exact g
  · have hTn : T ≠ [] := by rw [m0, m5]; simp
    have hz : ¬ (zdm T).1 = 0 := fun z => hTn (hne.mp z)
    refine ⟨_, _, _, ?_, hfin 0 (by unfold zbf; simp only [if_neg hz]; omega)⟩
    unfold f_X4_measureRow
    rw [m3, z_bd, c_st_t (by omega), z_bd]
    simp (disch := omega) only [z_jn, z_eq_t, z_eq_f]
    obtain ⟨i', g⟩ := c_mrow_loop hC hQ hs (y2 := (U.length : Int)) (e := fun (z13 : (Nat → Int) × (Nat → Int) × (Nat → Int) × Int × Int × Int × Int × Int) => jn (fun (z15 : (Nat → Int) × (Nat → Int) × (Nat → Int)) => some (z15.1, z15.2.1, z15.2.2)) (fun k14 => cLt (U.length : Int) 0 (k14 (z13.1, z13.2.1, z13.2.2.1)) (cLt (U.length : Int) 181 (cLt (U.length : Int) 181 (cLt (U.length : Int) 181 (gIn (U.length : Int) 181 (gIn (U.length : Int) 181 (gIn (U.length : Int) 181 (k14 (va_up z13.1 (U.length : Int).toNat z13.2.2.2.2.1, va_up z13.2.1 (U.length : Int).toNat z13.2.2.2.2.2.1, va_up z13.2.2.1 (U.length : Int).toNat z13.2.2.2.1))))) (k14 (z13.1, z13.2.1, z13.2.2.1))) (k14 (z13.1, z13.2.1, z13.2.2.1))) (k14 (z13.1, z13.2.1, z13.2.2.1))))) T.length T U fuel 0 0 0 0 (Nat.le_refl _) hT hL (Nat.le_refl _) (by unfold fuel; omega) (by omega) (by omega) (by omega)
    simp (disch := omega) only [z_jn, z_lt_f, z_lt_t, z_in, hn0] at g ⊢
    exact g
theorem c_boxes_loop (hC : zCx 180 n F L) (hbL : zbal L) (hcL : zcnt L ≤ 60) : ∀ (p fu1 : Nat) (w a b : Nat → Int), p ≤ L.length → p + 2 ≤ fu1 → zms L w a b (fun j => p < j) → ∃ w' a' b', f_X4_measure_5 180 n F (fun (z8 : (Nat → Int) × (Nat → Int) × (Nat → Int) × Int) => some (z8.1, z8.2.1, z8.2.2.1)) fu1 a b w (p : Int) = some (a', b', w') ∧ zms L w' a' b' (fun _ => True)
  | p, 0, w, a, b, hp, h1, hg => by omega
  | 0, fu1 + 1, w, a, b, hp, h1, hg => by
    have h180 := hC.1
    obtain ⟨vw, va, vb, g1, g3⟩ := c_mrow hC hcL (U := []) (T := L) (Q := []) (by simp) (Or.inl rfl) (Or.inl rfl) hbL hg
    refine ⟨_, _, _, ?_, fun U T Q e1 e2 e3 e4 _ => g3 U T Q e1 e2 e3 e4 (Nat.zero_le _)⟩
    have hm := hC.out (x := ((0 : Nat) : Int) - 1) (by simp)
    obtain ⟨f1, rfl⟩ : ∃ f, fu1 = f + 1 := ⟨fu1 - 1, by omega⟩
    have g1' : f_X4_measureRow 180 a b w n F ((0 : Nat) : Int) = some (va_up a ([] : List Int).length va, va_up b ([] : List Int).length vb, va_up w ([] : List Int).length vw) := g1
    simp (disch := omega) only [f_X4_measure_5, z_lt_f, z_lt_t, hm, z_bd, z_jn, z_eq_t, g1']
  | p + 1, fu1 + 1, w, a, b, hp, h1, hg => by
    have h180 := hC.1
    obtain ⟨A, B, eL, lA⟩ := zat (L := L) (x := ((p + 1 : Nat) : Int)) (by omega)
    have lA' : A.length = p + 1 := by omega
    obtain ⟨A0, m, eA⟩ : ∃ A0 m, A = A0 ++ [m] := by
      rcases List.eq_nil_or_concat A with h | ⟨A0, m, h⟩
      · rw [h] at lA'; simp at lA'
      · exact ⟨A0, m, by rw [h, List.concat_eq_append]⟩
    have lA0 : A0.length = p := by rw [eA] at lA'; simpa using lA'
    have eL2 : L = A0 ++ m :: B := by rw [← eL, eA]; simp
    have hm := hC.at (A := A0) (m := m) (T := B) eL2 (x := ((p + 1 : Nat) : Int) - 1) (by omega)
    have hv := zv_rc hm.2.1
    have ep2 : ((p + 1 : Nat) : Int) + (-1) = (p : Int) := by omega
    by_cases hst : (1 ≤ m ∧ m ≤ 5) ∨ m = 6
    · have hU : zend A := Or.inr ⟨A0, m, eA, by omega, by omega⟩
      obtain ⟨T, Q, e1, hQ, hT⟩ := zrow_at hbL eL.symm hU
      obtain ⟨vw, va, vb, g1, g3⟩ := c_mrow hC hcL (U := A) (T := T) (Q := Q) (by rw [← eL, e1]) hU hQ hT (by rw [lA']; exact hg)
      rw [lA'] at g1 g3
      obtain ⟨w2, a2, b2, k1, k3⟩ := c_boxes_loop hC hbL hcL p fu1 _ _ _ (by omega) (by omega) (fun U T Q e1 e2 e3 e4 e5 => g3 U T Q e1 e2 e3 e4 (by omega))
      refine ⟨w2, a2, b2, ?_, k3⟩
      rcases hst with h | h
      · simp (disch := omega) only [f_X4_measure_5, z_lt_f, hm.1, z_bd, z_jn, z_eq_f, c_on_t, g1, ep2, k1]
      · simp (disch := omega) only [f_X4_measure_5, z_lt_f, hm.1, z_bd, z_jn, z_eq_f, z_eq_t, c_on_f, g1, ep2, k1]
    · obtain ⟨w2, a2, b2, k1, k3⟩ := c_boxes_loop hC hbL hcL p fu1 w a b (by omega) (by omega) (fun U T Q e1 e2 e3 e4 e5 => by
        refine hg U T Q e1 e2 e3 e4 ?_
        by_cases hUp : U.length = p + 1
        · exfalso
          obtain ⟨e6, -⟩ := zpre_eq e1 eL.symm (by omega)
          rcases e2 with h | ⟨P0, o, h, h4, h5⟩
          · rw [h] at hUp; simp at hUp
          · rw [e6, eA] at h
            have := List.append_inj_right' h rfl
            simp only [List.cons.injEq, and_true] at this
            omega
        · show p + 1 < U.length
          have : p < U.length := e5
          omega)
      refine ⟨w2, a2, b2, ?_, k3⟩
      simp (disch := omega) only [f_X4_measure_5, z_lt_f, hm.1, z_bd, z_jn, z_eq_f, z_eq_t, c_on_f, ep2, k1]
theorem va_same {f : Nat → Int} {k : Nat} {v : Int} (h : v = f k) : va_up f k v = f := by
  funext j
  by_cases hj : j = k
  · rw [hj, zup_eq, h]
  · rw [zup_ne hj]
theorem c_mrow_id (hC : zCx 180 n F L) (hcL : zcnt L ≤ 60) {U T Q : List Int} (hL : L = U ++ (T ++ Q)) (hU : zend U) (hQ : zbeg Q) (hT : zbal T) {w a b : Nat → Int} (hg : zms L w a b (fun _ => True)) : f_X4_measureRow 180 a b w n F (U.length : Int) = some (a, b, w) := by
  obtain ⟨vw, va, vb, g1, g3⟩ := c_mrow hC hcL hL hU hQ hT (fun U T Q h1 h2 h3 h4 _ => hg U T Q h1 h2 h3 h4 trivial)
  obtain ⟨h1, h2, h3⟩ := g3 U T Q hL hU hQ hT (Nat.le_refl _)
  obtain ⟨i1, i2, i3⟩ := hg U T Q hL hU hQ hT trivial
  rw [zup_eq] at h1 h2 h3
  rw [g1, va_same (f := a) (h2.trans i2.symm), va_same (f := b) (h3.trans i3.symm), va_same (f := w) (h1.trans i1.symm)]
theorem c_boxes_id (hC : zCx 180 n F L) (hbL : zbal L) (hcL : zcnt L ≤ 60) {w a b : Nat → Int} (hg : zms L w a b (fun _ => True)) : ∀ (p fu1 : Nat), p ≤ L.length → p + 2 ≤ fu1 → f_X4_measure_5 180 n F (fun (z8 : (Nat → Int) × (Nat → Int) × (Nat → Int) × Int) => some (z8.1, z8.2.1, z8.2.2.1)) fu1 a b w (p : Int) = some (a, b, w)
  | p, 0, hp, h1 => by omega
  | 0, fu1 + 1, hp, h1 => by
    have h180 := hC.1
    have g1 := c_mrow_id hC hcL (U := []) (T := L) (Q := []) (by simp) (Or.inl rfl) (Or.inl rfl) hbL hg
    have hm := hC.out (x := ((0 : Nat) : Int) - 1) (by simp)
    obtain ⟨f1, rfl⟩ : ∃ f, fu1 = f + 1 := ⟨fu1 - 1, by omega⟩
    have g1' : f_X4_measureRow 180 a b w n F ((0 : Nat) : Int) = some (a, b, w) := g1
    simp (disch := omega) only [f_X4_measure_5, z_lt_f, z_lt_t, hm, z_bd, z_jn, z_eq_t, g1']
  | p + 1, fu1 + 1, hp, h1 => by
    have h180 := hC.1
    obtain ⟨A, B, eL, lA⟩ := zat (L := L) (x := ((p + 1 : Nat) : Int)) (by omega)
    have lA' : A.length = p + 1 := by omega
    obtain ⟨A0, m, eA⟩ : ∃ A0 m, A = A0 ++ [m] := by
      rcases List.eq_nil_or_concat A with h | ⟨A0, m, h⟩
      · rw [h] at lA'; simp at lA'
      · exact ⟨A0, m, by rw [h, List.concat_eq_append]⟩
    have lA0 : A0.length = p := by rw [eA] at lA'; simpa using lA'
    have eL2 : L = A0 ++ m :: B := by rw [← eL, eA]; simp
    have hm := hC.at (A := A0) (m := m) (T := B) eL2 (x := ((p + 1 : Nat) : Int) - 1) (by omega)
    have hv := zv_rc hm.2.1
    have ep2 : ((p + 1 : Nat) : Int) + (-1) = (p : Int) := by omega
    have k1 := c_boxes_id hC hbL hcL hg p fu1 (by omega) (by omega)
    by_cases hst : (1 ≤ m ∧ m ≤ 5) ∨ m = 6
    · have hU : zend A := Or.inr ⟨A0, m, eA, by omega, by omega⟩
      obtain ⟨T, Q, e1, hQ, hT⟩ := zrow_at hbL eL.symm hU
      have g1 := c_mrow_id hC hcL (U := A) (T := T) (Q := Q) (by rw [← eL, e1]) hU hQ hT hg
      rw [lA'] at g1
      rcases hst with h | h
      · simp (disch := omega) only [f_X4_measure_5, z_lt_f, hm.1, z_bd, z_jn, z_eq_f, c_on_t, g1, ep2, k1]
      · simp (disch := omega) only [f_X4_measure_5, z_lt_f, hm.1, z_bd, z_jn, z_eq_f, z_eq_t, c_on_f, g1, ep2, k1]
    · simp (disch := omega) only [f_X4_measure_5, z_lt_f, hm.1, z_bd, z_jn, z_eq_f, z_eq_t, c_on_f, ep2, k1]
theorem c_measure (hC : zCx 180 n F L) (hbL : zbal L) (hcL : zcnt L ≤ 60) (w a b : Nat → Int) : ∃ w' a' b', f_X4_measure 180 a b w n F = some (a', b', w') ∧ zms L w' a' b' (fun _ => True) := by
  have h180 := hC.1
  obtain ⟨w', a', b', g1, g3⟩ := c_boxes_loop hC hbL hcL L.length fuel w a b (Nat.le_refl _) (by unfold fuel; omega) (fun U T Q e1 e2 e3 e4 e5 => by
    exfalso
    have : L.length < U.length := e5
    have := congrArg List.length e1
    simp at this
    omega)
  refine ⟨w', a', b', ?_, g3⟩
  rw [← h180.1] at g1
  unfold f_X4_measure
  exact g1
theorem c_measure_id (hC : zCx 180 n F L) (hbL : zbal L) (hcL : zcnt L ≤ 60) {w a b : Nat → Int} (hg : zms L w a b (fun _ => True)) : f_X4_measure 180 a b w n F = some (a, b, w) := by
  have h180 := hC.1
  have g1 := c_boxes_id hC hbL hcL hg L.length fuel (Nat.le_refl _) (by unfold fuel; omega)
  rw [← h180.1] at g1
  unfold f_X4_measure
  exact g1
end MS
/-- the drawing's own numbers -/
theorem m_drawing9 {n : Int} {F : Nat → Int} {L : List Int} (hC : zCx 180 n F L) (hbL : zbal L) {w a b w' a' b' : Nat → Int} (g1 : f_X4_measure 180 a b w n F = some (a', b', w')) (g2 : zms L w' a' b' (fun _ => True)) : f_X7_drawing n F a b w 0 = some (0, (zbf (zdm L)).1, a', b', w') ∧ f_X7_drawing n F a b w 1 = some (0, (zdm L).2.1 + 1 + (zdm L).2.2, a', b', w') ∧ f_X7_drawing n F a b w 2 = some (0, (zdm L).2.1, a', b', w') := by
  obtain ⟨h1, h2, h3⟩ := g2 [] L [] (by simp) (Or.inl rfl) (Or.inl rfl) hbL trivial
  simp only [List.length_nil] at h1 h2 h3
  refine ⟨?_, ?_, ?_⟩
  · unfold f_X7_drawing
    rw [g1, z_bd]
    simp (disch := omega) only [z_eq_t, c_wd (w := w') (x := 0) 0 rfl (by omega), z_bd, h1]
  · unfold f_X7_drawing
    rw [g1, z_bd]
    simp (disch := omega) only [z_eq_t, z_eq_f, c_ln (a := a') (b := b') (x := 0) 0 rfl (by omega), z_bd, h2, h3]
  · unfold f_X7_drawing
    rw [g1, z_bd]
    simp (disch := omega) only [z_eq_t, z_eq_f, c_ab (w := a') (x := 0) 0 rfl (by omega), z_bd, h2]
theorem m_drawing {n : Int} {F : Nat → Int} {L : List Int} (hC : zCx 180 n F L) (hbL : zbal L) (hcL : zcnt L ≤ 60) (w a b : Nat → Int) : ∃ w' a' b', zms L w' a' b' (fun _ => True) ∧ f_X7_drawing n F a b w 0 = some (0, (zbf (zdm L)).1, a', b', w') ∧ f_X7_drawing n F a b w 1 = some (0, (zdm L).2.1 + 1 + (zdm L).2.2, a', b', w') ∧ f_X7_drawing n F a b w 2 = some (0, (zdm L).2.1, a', b', w') := by
  obtain ⟨w', a', b', g1, g2⟩ := c_measure hC hbL hcL w a b
  exact ⟨w', a', b', g2, m_drawing9 hC hbL g1 g2⟩
theorem m_drawing_id {n : Int} {F : Nat → Int} {L : List Int} (hC : zCx 180 n F L) (hbL : zbal L) (hcL : zcnt L ≤ 60) {w a b : Nat → Int} (g : zms L w a b (fun _ => True)) : f_X7_drawing n F a b w 0 = some (0, (zbf (zdm L)).1, a, b, w) ∧ f_X7_drawing n F a b w 1 = some (0, (zdm L).2.1 + 1 + (zdm L).2.2, a, b, w) ∧ f_X7_drawing n F a b w 2 = some (0, (zdm L).2.1, a, b, w) :=
  m_drawing9 hC hbL (c_measure_id hC hbL hcL g) g
