/-! p30: the signs of each item, of each row -/
section IT
variable {n : Int} {F : Nat → Int} {L : List Int} {w a b : Nat → Int}
set_option maxHeartbeats 1000000 in
theorem m_item (hC : zCx 180 n F L) (hpL : zpk L ≤ 5) (hbL : zbal L) (hg : zms L w a b (fun _ => True)) {U T1 X B : List Int} {mf : Int} (hL : L = U ++ (T1 ++ (X ++ B))) (hT1 : zbal T1) (hX : zit X) (hf : f_X3_mark 180 n F (U.length : Int) = some mf) (hf2 : (1 ≤ mf ∧ mf ≤ 5) ∨ 42 ≤ mf ∧ mf ≤ 122) (hab : 0 ≤ a U.length ∧ 0 ≤ b U.length ∧ a U.length + b U.length ≤ 1000) (ih : ∀ U' T' Q' : List Int, L = U' ++ (T' ++ Q') → zend U' → zbeg Q' → zbal T' → T'.length < X.length → zRow n F w a b U' T') : zItm n F w a b U (U.length + T1.length) X := by
  have h180 := hC.1
  have lL : L.length = U.length + (T1.length + (X.length + B.length)) := by rw [hL]; simp
  have hbU : ∃ B', zbal (U ++ B') ∧ L = U ++ B' := ⟨T1 ++ (X ++ B), by rw [← hL]; exact hbL, hL⟩
  have hy0 : 0 ≤ zlv U := by obtain ⟨B', q1, -⟩ := hbU; exact zpre0 q1
  have hy5 : zlv U ≤ 5 := by
    have e1 := zpk_lv U
    have e2 : zpk U ≤ zpk L := by rw [hL]; exact zpk_le
    omega
  have hlvX : ∀ (U' : List Int) (k : Int), U' = U ++ (T1 ++ [k]) → (1 ≤ k ∧ k ≤ 5) → zlv U' = zlv U + 1 := by
    intro U' k e hk
    rw [e, zlv_app, zlv_app, zlv_bal hT1]
    have := zop_op hk
    simp only [zlv]; omega
  have hXl := zit_ne hX
  have hL2 : L = (U ++ T1) ++ (X ++ B) := by rw [hL]; simp
  have hlp : ((U ++ T1).length : Int) = ((U.length + T1.length : Nat) : Int) := by simp
  have hX0 := hX
  rcases hX with ⟨m, rfl, a1, a2⟩ | ⟨k, I, rfl, a1, a2, hI⟩ | ⟨I, J, rfl, hI, hJ⟩
  · -- a symbol
    have hm := (hC.at (A := U ++ T1) (m := m) (T := B) (by rw [hL2]; rfl) hlp.symm).1
    refine ⟨fun _ h => if h = 0 then m else 32, ?_, ?_, ?_⟩
    · intro e24 fu y x0 x' h hy hfu hc hx hh
      obtain ⟨fu2, rfl⟩ : ∃ f, fu = f + 1 := ⟨fu - 1, by omega⟩
      have r := c_row_sy (a := a) (b := b) (h := h) hf hf2 hc hm a1 (by omega)
      exact ⟨_, _, _, m_once (by omega) r (by dsimp only; split <;> omega)⟩
    · intro x h
      show 32 ≤ (if h = 0 then m else 32) ∧ (if h = 0 then m else 32) ≤ 122
      split <;> omega
    · intro s hs α β hα hβ
      rw [zdm_it1 a1.1] at hα hβ ⊢
      have hα' : (0 : Int) ≤ α := hα
      have hβ' : (0 : Int) ≤ β := hβ
      have hs2 : 42 ≤ s := hs.1
      rw [z2_win (p := 0) (q := 0) (m := 1) (n := 1) (Int.le_refl 0) (by show (0 : Int) + 1 ≤ 0 + ((1 : Int).toNat : Int); decide) (by omega) (by omega) (fun x y g1 g2 g3 g4 g5 => by
        have : ¬ y = 0 := by
          have g2' : x < 0 + 1 := g2
          omega
        show zis9 (if y = 0 then m else 32) s = 0
        rw [if_neg this]
        exact zis9_n (by omega))]
      show (zis9 m s + 0) + 0 = zri s [m]
      unfold zri
      have hz : zes [m] = 0 := by
        show zeb m (zhd []) + 0 = 0
        unfold zeb; rw [if_neg (by omega)]
      rw [hz]
      have hmc : zmc s [m] = zis9 m s + 0 := rfl
      rw [hmc]
      split <;> rfl
  · -- a structure of one slot
    have hm := (hC.at (A := U ++ T1) (m := k) (T := I ++ [k + 10] ++ B) (by rw [hL2]; simp) hlp.symm).1
    have eU' : U ++ (T1 ++ [k]) = (U ++ T1) ++ [k] := by simp
    have eL' : L = (U ++ (T1 ++ [k])) ++ (I ++ (k + 10) :: B) := by rw [hL]; simp
    have hend : zend (U ++ (T1 ++ [k])) := Or.inr ⟨U ++ T1, k, eU', by omega, by omega⟩
    have hbeg : zbeg ((k + 10) :: B) := Or.inr ⟨k + 10, B, rfl, by omega⟩
    have lU' : (U ++ (T1 ++ [k])).length = U.length + T1.length + 1 := by simp; omega
    have lX : (k :: (I ++ [k + 10])).length = I.length + 2 := by simp
    obtain ⟨g, q1, q2, q3⟩ := ih _ I _ eL' hend hbeg hI (by omega)
    obtain ⟨d1, d2, d3⟩ := hg _ I _ eL' hend hbeg hI trivial
    obtain ⟨⟨v1, v2⟩, v3, v4, v5⟩ := zms_bd hI ⟨d1, d2, d3⟩
    have hlv := hlvX _ k rfl (by omega)
    rw [lU'] at d1 d2 d3 v1 v2 v3 v4 v5 q3
    have hbox : (1 ≤ w (U ++ (T1 ++ [k])).length ∧ w (U ++ (T1 ++ [k])).length ≤ 1000) ∧ 0 ≤ a (U ++ (T1 ++ [k])).length ∧ 0 ≤ b (U ++ (T1 ++ [k])).length ∧ a (U ++ (T1 ++ [k])).length + b (U ++ (T1 ++ [k])).length ≤ 1000 := by rw [lU']; omega
    have hq : (U ++ (T1 ++ [k])).length ≤ 180 := by rw [lU']; omega
    have hcast : (((U ++ (T1 ++ [k])).length : Nat) : Int) = ((U.length + T1.length : Nat) : Int) + 1 := by rw [lU']; omega
    have hp180 : U.length + T1.length < 180 := by omega
    have hf' := (zbf_1 (zdm_o hI)).2.1
    have hdm := zdm_itk ⟨a1, a2⟩ hI
    have hk : k = 2 ∨ k = 3 ∨ k = 4 ∨ k = 5 := by omega
    have hlX : (zdm (k :: (I ++ [k + 10]))).1 ≤ 400 := by
      have := (zdm_b (zit_bal hX0)).1.1
      omega
    rcases hk with rfl | rfl | rfl | rfl
    · -- superscript
      have hd : zdm (2 :: (I ++ [12])) = (w (U.length + T1.length + 1), a (U.length + T1.length + 1) + 1 + b (U.length + T1.length + 1), 0) := by
        rw [d1, d2, d3]
        refine hdm.trans ?_
        unfold zbk; rw [if_pos rfl, hf']
      refine ⟨fun x h => zpl g (w (U.length + T1.length + 1)) (a (U.length + T1.length + 1)) (b (U.length + T1.length + 1)) 0 (-1 - b (U.length + T1.length + 1)) x h, ?_, fun x h => zpl_b q2 _ _ _ _ _ _ _, ?_⟩
      · intro e24 fu y x0 x' h hy hfu hc hx hh
        obtain ⟨fu2, rfl⟩ : ∃ f, fu = f + 1 := ⟨fu - 1, by omega⟩
        have r := c_row_2 (a := a) (b := b) (h := h) hf hf2 hc hm hp180
        rw [← hcast] at r
        have t := m_enter (U := U) (e24 := e24) (fu := fu2) (y := y) (x0 := x0) (x' := x') (h := h) q1 q2 (by rw [hlv, hy]) (by omega) (by omega) r hq hbox (by omega)
        rw [lU'] at t
        exact t
      · intro s hs α β hα hβ
        have hs2 : 42 ≤ s := hs.1
        have e1 := zri_k (k := 2) hs ⟨by omega, by omega⟩ hI
        show z2 0 (zdm (2 :: (I ++ [12]))).1.toNat _ _ _ = zri s (2 :: (I ++ [2 + 10]))
        have hα2 : (zdm (2 :: (I ++ [12]))).2.1 ≤ α := hα
        have hβ2 : (zdm (2 :: (I ++ [12]))).2.2 ≤ β := hβ
        rw [hd] at hα2 hβ2 ⊢
        have hα3 : a (U.length + T1.length + 1) + 1 + b (U.length + T1.length + 1) ≤ α := hα2
        have hβ3 : 0 ≤ β := hβ2
        rw [e1, ← q3 s hs]
        exact zpl_count (by omega) (by omega) v3 v4 (Int.le_refl 0) (by show 0 + w _ ≤ 0 + ((w (U.length + T1.length + 1)).toNat : Int); omega) (by omega) (by omega)
    · -- subscript
      have hd : zdm (3 :: (I ++ [13])) = (w (U.length + T1.length + 1), 0, a (U.length + T1.length + 1) + 1 + b (U.length + T1.length + 1)) := by
        rw [d1, d2, d3]
        refine hdm.trans ?_
        unfold zbk; rw [if_neg (by decide), if_pos rfl, hf']
      refine ⟨fun x h => zpl g (w (U.length + T1.length + 1)) (a (U.length + T1.length + 1)) (b (U.length + T1.length + 1)) 0 (1 + a (U.length + T1.length + 1)) x h, ?_, fun x h => zpl_b q2 _ _ _ _ _ _ _, ?_⟩
      · intro e24 fu y x0 x' h hy hfu hc hx hh
        obtain ⟨fu2, rfl⟩ : ∃ f, fu = f + 1 := ⟨fu - 1, by omega⟩
        have r := c_row_3 (a := a) (b := b) (h := h) hf hf2 hc hm hp180
        rw [← hcast] at r
        have t := m_enter (U := U) (e24 := e24) (fu := fu2) (y := y) (x0 := x0) (x' := x') (h := h) q1 q2 (by rw [hlv, hy]) (by omega) (by omega) r hq hbox (by omega)
        rw [lU'] at t
        exact t
      · intro s hs α β hα hβ
        have hs2 : 42 ≤ s := hs.1
        have e1 := zri_k (k := 3) hs ⟨by omega, by omega⟩ hI
        show z2 0 (zdm (3 :: (I ++ [13]))).1.toNat _ _ _ = zri s (3 :: (I ++ [3 + 10]))
        have hα2 : (zdm (3 :: (I ++ [13]))).2.1 ≤ α := hα
        have hβ2 : (zdm (3 :: (I ++ [13]))).2.2 ≤ β := hβ
        rw [hd] at hα2 hβ2 ⊢
        have hα3 : 0 ≤ α := hα2
        have hβ3 : a (U.length + T1.length + 1) + 1 + b (U.length + T1.length + 1) ≤ β := hβ2
        rw [e1, ← q3 s hs]
        exact zpl_count (by omega) (by omega) v3 v4 (Int.le_refl 0) (by show 0 + w _ ≤ 0 + ((w (U.length + T1.length + 1)).toNat : Int); omega) (by omega) (by omega)
    · -- root
      have hd : zdm (4 :: (I ++ [14])) = (1 + w (U.length + T1.length + 1), 1 + a (U.length + T1.length + 1), b (U.length + T1.length + 1)) := by
        rw [d1, d2, d3]
        refine hdm.trans ?_
        unfold zbk; rw [if_neg (by decide), if_neg (by decide), if_pos rfl, hf']
      refine ⟨fun x h => if h = -(a (U.length + T1.length + 1)) - 1 then (if 0 < x then 95 else 32) else if x = 0 then (if -(a (U.length + T1.length + 1)) ≤ h ∧ h ≤ b (U.length + T1.length + 1) then 86 else 32) else zpl g (w (U.length + T1.length + 1)) (a (U.length + T1.length + 1)) (b (U.length + T1.length + 1)) 1 0 x h, ?_, ?_, ?_⟩
      · intro e24 fu y x0 x' h hy hfu hc hx hh
        obtain ⟨fu2, rfl⟩ : ∃ f, fu = f + 1 := ⟨fu - 1, by omega⟩
        have r := c_row_4 (a := a) (b := b) (h := h) hf hf2 hc hm hp180 (by omega) (by omega)
        by_cases z1 : h = -(a (U.length + T1.length + 1)) - 1
        · rw [if_pos z1] at r
          simp only [if_pos z1]
          exact ⟨_, _, _, m_once (by omega) r (by split <;> omega)⟩
        · rw [if_neg z1] at r
          by_cases z2 : x' = 0
          · rw [if_pos z2] at r
            simp only [if_neg z1, if_pos z2]
            exact ⟨_, _, _, m_once (by omega) r (by split <;> omega)⟩
          · rw [if_neg z2, ← hcast] at r
            have t := m_enter (U := U) (e24 := e24) (fu := fu2) (y := y) (x0 := x0) (x' := x') (h := h) q1 q2 (by rw [hlv, hy]) (by omega) (by omega) r hq hbox (by omega)
            rw [lU'] at t
            simp only [if_neg z1, if_neg z2]
            exact t
      · intro x h
        dsimp only
        split
        · split <;> omega
        · split
          · split <;> omega
          · exact zpl_b q2 _ _ _ _ _ _ _
      · intro s hs α β hα hβ
        have hs2 : 42 ≤ s := hs.1
        obtain ⟨-, s45, s95, s86⟩ := hs
        have hs' : zok s := ⟨hs2, s45, s95, s86⟩
        have e1 := zri_k (k := 4) hs' ⟨by omega, by omega⟩ hI
        show z2 0 (zdm (4 :: (I ++ [14]))).1.toNat _ _ _ = zri s (4 :: (I ++ [4 + 10]))
        have hα2 : (zdm (4 :: (I ++ [14]))).2.1 ≤ α := hα
        have hβ2 : (zdm (4 :: (I ++ [14]))).2.2 ≤ β := hβ
        rw [hd] at hα2 hβ2 ⊢
        have hα3 : 1 + a (U.length + T1.length + 1) ≤ α := hα2
        have hβ3 : b (U.length + T1.length + 1) ≤ β := hβ2
        rw [e1, ← q3 s hs']
        rw [← zpl_count (g := g) (sx := 1) (sh := 0) (s := s) (c := 0) (r := -α) (C := (1 + w (U.length + T1.length + 1)).toNat) (R := (α + 1 + β).toNat) (by omega) (show 0 ≤ w (U.length + T1.length + 1) by omega) v3 v4 (by omega) (by omega) (by omega) (by omega)]
        refine z2_congr (fun x h g1 g2 g3 g4 => ?_)
        try dsimp only
        by_cases z1 : h = -(a (U.length + T1.length + 1)) - 1
        · rw [if_pos z1, zpl_is (by omega) (by omega)]
          exact zis9_n (by split <;> omega)
        · rw [if_neg z1]
          by_cases z2 : x = 0
          · rw [if_pos z2, zpl_is (by omega) (by omega)]
            exact zis9_n (by split <;> omega)
          · rw [if_neg z2]
    · -- parentheses
      have hd : zdm (5 :: (I ++ [15])) = (2 + w (U.length + T1.length + 1), a (U.length + T1.length + 1), b (U.length + T1.length + 1)) := by
        rw [d1, d2, d3]
        refine hdm.trans ?_
        unfold zbk; rw [if_neg (by decide), if_neg (by decide), if_neg (by decide), hf']
      refine ⟨fun x h => if x = 0 ∨ x = w (U.length + T1.length + 1) + 1 then (if -(a (U.length + T1.length + 1)) ≤ h ∧ h ≤ b (U.length + T1.length + 1) then (if x = 0 then 40 else 41) else 32) else zpl g (w (U.length + T1.length + 1)) (a (U.length + T1.length + 1)) (b (U.length + T1.length + 1)) 1 0 x h, ?_, ?_, ?_⟩
      · intro e24 fu y x0 x' h hy hfu hc hx hh
        obtain ⟨fu2, rfl⟩ : ∃ f, fu = f + 1 := ⟨fu - 1, by omega⟩
        have r := c_row_5 (a := a) (b := b) (h := h) hf hf2 hc hm hp180 (by omega) (by omega) (by omega)
        by_cases z1 : x' = 0 ∨ x' = w (U.length + T1.length + 1) + 1
        · rw [if_pos z1] at r
          simp only [if_pos z1]
          exact ⟨_, _, _, m_once (by omega) r (by split; split <;> omega; omega)⟩
        · rw [if_neg z1, ← hcast] at r
          have t := m_enter (U := U) (e24 := e24) (fu := fu2) (y := y) (x0 := x0) (x' := x') (h := h) q1 q2 (by rw [hlv, hy]) (by omega) (by omega) r hq hbox (by omega)
          rw [lU'] at t
          simp only [if_neg z1]
          exact t
      · intro x h
        dsimp only
        split
        · split
          · split <;> omega
          · omega
        · exact zpl_b q2 _ _ _ _ _ _ _
      · intro s hs α β hα hβ
        have hs2 : 42 ≤ s := hs.1
        have e1 := zri_k (k := 5) hs ⟨by omega, by omega⟩ hI
        show z2 0 (zdm (5 :: (I ++ [15]))).1.toNat _ _ _ = zri s (5 :: (I ++ [5 + 10]))
        have hα2 : (zdm (5 :: (I ++ [15]))).2.1 ≤ α := hα
        have hβ2 : (zdm (5 :: (I ++ [15]))).2.2 ≤ β := hβ
        rw [hd] at hα2 hβ2 ⊢
        have hα3 : a (U.length + T1.length + 1) ≤ α := hα2
        have hβ3 : b (U.length + T1.length + 1) ≤ β := hβ2
        rw [e1, ← q3 s hs]
        rw [← zpl_count (g := g) (sx := 1) (sh := 0) (s := s) (c := 0) (r := -α) (C := (2 + w (U.length + T1.length + 1)).toNat) (R := (α + 1 + β).toNat) (by omega) (show 0 ≤ w (U.length + T1.length + 1) by omega) v3 v4 (by omega) (by omega) (by omega) (by omega)]
        refine z2_congr (fun x h g1 g2 g3 g4 => ?_)
        try dsimp only
        by_cases z1 : x = 0 ∨ x = w (U.length + T1.length + 1) + 1
        · rw [if_pos z1, zpl_is (by omega) (by omega)]
          exact zis9_n (by split; split <;> omega; omega)
        · rw [if_neg z1]
  · -- a fraction
    have hm := (hC.at (A := U ++ T1) (m := 1) (T := I ++ 6 :: (J ++ [11]) ++ B) (by rw [hL2]; simp) hlp.symm).1
    have eL1 : L = (U ++ (T1 ++ [1])) ++ (I ++ 6 :: (J ++ 11 :: B)) := by rw [hL]; simp
    have hend1 : zend (U ++ (T1 ++ [1])) := Or.inr ⟨U ++ T1, 1, by simp, by omega, by omega⟩
    have hbeg1 : zbeg (6 :: (J ++ 11 :: B)) := Or.inr ⟨6, _, rfl, by omega⟩
    have eL2 : L = (U ++ (T1 ++ 1 :: (I ++ [6]))) ++ (J ++ 11 :: B) := by rw [hL]; simp
    have hend2 : zend (U ++ (T1 ++ 1 :: (I ++ [6]))) := Or.inr ⟨U ++ (T1 ++ 1 :: I), 6, by simp, by omega, by omega⟩
    have hbeg2 : zbeg (11 :: B) := Or.inr ⟨11, _, rfl, by omega⟩
    have lU1 : (U ++ (T1 ++ [(1 : Int)])).length = U.length + T1.length + 1 := by simp; omega
    have lU2 : (U ++ (T1 ++ 1 :: (I ++ [(6 : Int)]))).length = U.length + T1.length + I.length + 2 := by simp; omega
    have lX : (1 :: (I ++ 6 :: (J ++ [11]))).length = I.length + J.length + 3 := by simp; omega
    obtain ⟨g, q1, q2, q3⟩ := ih _ I _ eL1 hend1 hbeg1 hI (by omega)
    obtain ⟨d1, d2, d3⟩ := hg _ I _ eL1 hend1 hbeg1 hI trivial
    obtain ⟨⟨v1, v2⟩, v3, v4, v5⟩ := zms_bd hI ⟨d1, d2, d3⟩
    obtain ⟨g', p1, p2, p3⟩ := ih _ J _ eL2 hend2 hbeg2 hJ (by omega)
    obtain ⟨f1, f2, f3⟩ := hg _ J _ eL2 hend2 hbeg2 hJ trivial
    obtain ⟨⟨u1, u2⟩, u3, u4, u5⟩ := zms_bd hJ ⟨f1, f2, f3⟩
    have hlv1 := hlvX _ 1 rfl (by omega)
    have hlv2 : zlv (U ++ (T1 ++ 1 :: (I ++ [6]))) = zlv U + 1 := by
      have e : U ++ (T1 ++ 1 :: (I ++ [6])) = (U ++ (T1 ++ [1])) ++ (I ++ [6]) := by simp
      rw [e, zlv_app, hlv1, zlv_app, zlv_bal hI]
      have := zop_6
      simp only [zlv]; omega
    rw [lU1] at d1 d2 d3 v1 v2 v3 v4 v5 q3
    rw [lU2] at f1 f2 f3 u1 u2 u3 u4 u5 p3
    have hbox1 : (1 ≤ w (U ++ (T1 ++ [(1 : Int)])).length ∧ w (U ++ (T1 ++ [(1 : Int)])).length ≤ 1000) ∧ 0 ≤ a (U ++ (T1 ++ [(1 : Int)])).length ∧ 0 ≤ b (U ++ (T1 ++ [(1 : Int)])).length ∧ a (U ++ (T1 ++ [(1 : Int)])).length + b (U ++ (T1 ++ [(1 : Int)])).length ≤ 1000 := by rw [lU1]; omega
    have hbox2 : (1 ≤ w (U ++ (T1 ++ 1 :: (I ++ [(6 : Int)]))).length ∧ w (U ++ (T1 ++ 1 :: (I ++ [(6 : Int)]))).length ≤ 1000) ∧ 0 ≤ a (U ++ (T1 ++ 1 :: (I ++ [(6 : Int)]))).length ∧ 0 ≤ b (U ++ (T1 ++ 1 :: (I ++ [(6 : Int)]))).length ∧ a (U ++ (T1 ++ 1 :: (I ++ [(6 : Int)]))).length + b (U ++ (T1 ++ 1 :: (I ++ [(6 : Int)]))).length ≤ 1000 := by rw [lU2]; omega
    have hq1 : (U ++ (T1 ++ [(1 : Int)])).length ≤ 180 := by rw [lU1]; omega
    have hq2 : (U ++ (T1 ++ 1 :: (I ++ [(6 : Int)]))).length ≤ 180 := by rw [lU2]; omega
    have hcast1 : (((U ++ (T1 ++ [(1 : Int)])).length : Nat) : Int) = ((U.length + T1.length : Nat) : Int) + 1 := by rw [lU1]; omega
    have hcast2 : (((U ++ (T1 ++ 1 :: (I ++ [(6 : Int)]))).length : Nat) : Int) = ((U.length + T1.length + I.length + 2 : Nat) : Int) := by rw [lU2]
    have hp180 : U.length + T1.length < 180 := by omega
    have hss := c_ss hC (A := U ++ T1) (I := I) (T := J ++ [11] ++ B) (by rw [hL2]; simp) hI hlp.symm
    have hss' : f_X3_secondSlot 180 n F ((U.length + T1.length : Nat) : Int) = some ((U.length + T1.length + I.length + 2 : Nat) : Int) := by
      rw [hss]; congr 1; rw [hlp]; omega
    obtain ⟨bw, -, -, ⟨bw1, bw2⟩, -⟩ := c_box hC (zms_sl (zms_any hg (U ++ T1).length)) hL2 hX0 (Nat.le_refl _) (x := ((U.length + T1.length : Nat) : Int)) hlp.symm
    obtain ⟨bd, -, -⟩ := zms_it (zms_any hg (U ++ T1).length) hL2 hX0 (Nat.le_refl _)
    rw [bd] at bw bw1 bw2
    have hd : zdm (1 :: (I ++ 6 :: (J ++ [11]))) = (mxI (w (U.length + T1.length + 1)) (w (U.length + T1.length + I.length + 2)), a (U.length + T1.length + 1) + 1 + b (U.length + T1.length + 1), a (U.length + T1.length + I.length + 2) + 1 + b (U.length + T1.length + I.length + 2)) := by
      rw [d1, d2, d3, f1, f2, f3, zdm_itq hI hJ]
      unfold zbq
      rw [(zbf_1 (zdm_o hI)).2.1, (zbf_1 (zdm_o hJ)).2.1]
    rw [hd] at bw bw1 bw2
    have hmx := mx_s (w (U.length + T1.length + 1)) (w (U.length + T1.length + I.length + 2))
    have bw' : f_X4_itemWidth 180 w n F ((U.length + T1.length : Nat) : Int) = some (mxI (w (U.length + T1.length + 1)) (w (U.length + T1.length + I.length + 2))) := bw
    obtain ⟨W, hW⟩ : ∃ W, W = mxI (w (U.length + T1.length + 1)) (w (U.length + T1.length + I.length + 2)) := ⟨_, rfl⟩
    rw [← hW] at hmx bw' hd
    have ht1 : 0 ≤ (W - w (U.length + T1.length + 1)).tdiv 2 ∧ 2 * (W - w (U.length + T1.length + 1)).tdiv 2 ≤ W - w (U.length + T1.length + 1) := by
      have := Int.tdiv_eq_ediv_of_nonneg (a := W - w (U.length + T1.length + 1)) (b := 2) (by omega)
      rw [this]; omega
    have ht2 : 0 ≤ (W - w (U.length + T1.length + I.length + 2)).tdiv 2 ∧ 2 * (W - w (U.length + T1.length + I.length + 2)).tdiv 2 ≤ W - w (U.length + T1.length + I.length + 2) := by
      have := Int.tdiv_eq_ediv_of_nonneg (a := W - w (U.length + T1.length + I.length + 2)) (b := 2) (by omega)
      rw [this]; omega
    obtain ⟨x1, hx1⟩ : ∃ z, z = (W - w (U.length + T1.length + 1)).tdiv 2 := ⟨_, rfl⟩
    obtain ⟨x2, hx2⟩ : ∃ z, z = (W - w (U.length + T1.length + I.length + 2)).tdiv 2 := ⟨_, rfl⟩
    rw [← hx1] at ht1
    rw [← hx2] at ht2
    refine ⟨fun x h => if h = 0 then 45 else if h < 0 then zpl g (w (U.length + T1.length + 1)) (a (U.length + T1.length + 1)) (b (U.length + T1.length + 1)) x1 (-1 - b (U.length + T1.length + 1)) x h else zpl g' (w (U.length + T1.length + I.length + 2)) (a (U.length + T1.length + I.length + 2)) (b (U.length + T1.length + I.length + 2)) x2 (1 + a (U.length + T1.length + I.length + 2)) x h, ?_, ?_, ?_⟩
    · intro e24 fu y x0 x' h hy hfu hc hx hh
      rw [hd] at hx
      have hx' : 0 ≤ x' ∧ x' < W := hx
      obtain ⟨fu2, rfl⟩ : ∃ f, fu = f + 1 := ⟨fu - 1, by omega⟩
      have r := c_row_1 (a := a) (b := b) (h := h) hf hf2 hc hm hp180 (by omega) hss' (by omega) bw' (by omega)
      by_cases z1 : h = 0
      · rw [if_pos z1] at r
        simp only [if_pos z1]
        exact ⟨_, _, _, m_once (by omega) r (by omega)⟩
      · rw [if_neg z1] at r
        by_cases z2 : h < 0
        · rw [if_pos z2, ← hx1, ← hcast1] at r
          have t := m_enter (U := U) (e24 := e24) (fu := fu2) (y := y) (x0 := x0) (x' := x') (h := h) q1 q2 (by rw [hlv1, hy]) (by omega) (by omega) r hq1 hbox1 (by omega)
          rw [lU1] at t
          simp only [if_neg z1, if_pos z2]
          exact t
        · rw [if_neg z2, ← hx2, ← hcast2] at r
          have t := m_enter (U := U) (e24 := e24) (fu := fu2) (y := y) (x0 := x0) (x' := x') (h := h) p1 p2 (by rw [hlv2, hy]) (by omega) (by omega) r hq2 hbox2 (by omega)
          rw [lU2] at t
          simp only [if_neg z1, if_neg z2]
          exact t
    · intro x h
      dsimp only
      split
      · omega
      · split
        · exact zpl_b q2 _ _ _ _ _ _ _
        · exact zpl_b p2 _ _ _ _ _ _ _
    · intro s hs α β hα hβ
      have hs2 : 42 ≤ s := hs.1
      have s45 : s ≠ 45 := hs.2.1
      rw [hd] at hα hβ ⊢
      have hα3 : a (U.length + T1.length + 1) + 1 + b (U.length + T1.length + 1) ≤ α := hα
      have hβ3 : a (U.length + T1.length + I.length + 2) + 1 + b (U.length + T1.length + I.length + 2) ≤ β := hβ
      rw [zri_q hs hI hJ, ← q3 s hs, ← p3 s hs]
      have hWn : ((W.toNat : Nat) : Int) = W := by omega
      rw [← zpl_count (g := g) (sx := x1) (sh := -1 - b (U.length + T1.length + 1)) (s := s) (c := 0) (r := -α) (C := W.toNat) (R := (α + 1 + β).toNat) (by omega) (show 0 ≤ w (U.length + T1.length + 1) by omega) v3 v4 (by omega) (by omega) (by omega) (by omega)]
      rw [← zpl_count (g := g') (sx := x2) (sh := 1 + a (U.length + T1.length + I.length + 2)) (s := s) (c := 0) (r := -α) (C := W.toNat) (R := (α + 1 + β).toNat) (by omega) (show 0 ≤ w (U.length + T1.length + I.length + 2) by omega) u3 u4 (by omega) (by omega) (by omega) (by omega)]
      rw [← z2_plus]
      refine z2_congr (fun x h g1 g2 g3 g4 => ?_)
      try dsimp only
      by_cases z1 : h = 0
      · rw [if_pos z1, zpl_is (by omega) (by omega), zpl_is (by omega) (by omega)]
        exact zis9_n (by omega)
      · rw [if_neg z1]
        by_cases z2 : h < 0
        · rw [if_pos z2, zpl_is (g := g') (by omega) (by omega)]
          exact (Nat.add_zero _).symm
        · rw [if_neg z2, zpl_is (g := g) (by omega) (by omega), Nat.zero_add]
end IT
