def f_X3_levelOf_4 (a0_marksN : Nat) (a0_size : Int) (a0_marksF : (Nat → Int)) (y1 : Int) (e4_26 : Int × Int → Option (Int)) : Nat → Int → Int → Option (Int)
  | 0, _, _ => none
  | n + 1, y2, y3 => cLt y3 y1 (bd (f_X3_mark a0_marksN a0_size a0_marksF y3) (fun r1 => bd (f_X3_opening r1) (fun r2 => f_X3_levelOf_4 a0_marksN a0_size a0_marksF y1 e4_26 n (y2 + r2) (y3 + 1)))) (e4_26 (y2, y3))
set_option maxRecDepth 100000 in
theorem l_X3_levelOf_4 {D : va_G} {cs : q_CS} {κ : q_X} {a0 a0_marks : Nat} {a0_marksN : Nat} {a0_ci : Nat} {a0_fx : List Value} {a0_size : Int} {a0_marksF : (Nat → Int)} {y1 : Int} {r : (Int)} {e4_26 : Int × Int → Option (Int)} (ha0 : q_mk a0_ci a0_fx) (ok : q_ok D cs κ cX3_levelOf 4 RX3 (q_rm 1 21)) (fin : ∀ (lv : List (Nat × Value)) (pc : Nat), decode cX3_levelOf pc = .ok (.ireturn, 1) → q_J D κ 4 0 0 [(a0, .inr (a0_ci, .ref a0_marks :: .int (iI a0_size) :: a0_fx)), (a0_marks, .inl (cs.1, a0_marksN, .inl (aI a0_marksF)))] lv pc [.int (iI r)]) (he4_26 : ∀ x : Int × Int, e4_26 x = some r → q_J D κ 4 0 0 [(a0, .inr (a0_ci, .ref a0_marks :: .int (iI a0_size) :: a0_fx)), (a0_marks, .inl (cs.1, a0_marksN, .inl (aI a0_marksF)))] [(2, .int (iI x.1))] 26 []) : ∀ (n : Nat) (y2 : Int) (y3 : Int), f_X3_levelOf_4 a0_marksN a0_size a0_marksF y1 e4_26 n y2 y3 = some r → q_J D κ 4 0 0 [(a0, .inr (a0_ci, .ref a0_marks :: .int (iI a0_size) :: a0_fx)), (a0_marks, .inl (cs.1, a0_marksN, .inl (aI a0_marksF)))] [(0, .ref a0), (1, .int (iI y1)), (2, .int (iI y2)), (3, .int (iI y3))] 4 [] := by
  intro n
  induction n with
  | zero =>
    intro y2 y3 h
    exact absurd h (by unfold f_X3_levelOf_4; exact fun z => by cases z)
  | succ n ih =>
    intro y2 y3 h
    unfold f_X3_levelOf_4 at h
    refine j_iload_n (pc := 4) 3 ok dX3_levelOf_4 rfl rfl ?_
    refine j_iload_n (pc := 5) 1 ok dX3_levelOf_5 rfl rfl ?_
    refine j_icmp_ge (pc := 6) 26 ok dX3_levelOf_6 (by decide) h (fun h => ?_) (fun h => ?_)
    · refine j_lv [2] rfl ?_
      exact he4_26 (y2, y3) h
    · refine j_iload_n (pc := 9) 2 ok dX3_levelOf_9 rfl rfl ?_
      refine j_aload_n (pc := 10) 0 ok dX3_levelOf_10 rfl rfl ?_
      refine j_iload_n (pc := 11) 3 ok dX3_levelOf_11 rfl rfl ?_
      obtain ⟨r1, hr1, h⟩ := bd_inv h
      refine j_callM (pc := 12) ok ha0 (k_X3_mark (a0 := a0) (a0_marks := a0_marks) (a0_ci := a0_ci) (a0_fx := a0_fx) (a0_marksN := a0_marksN) (a0_size := a0_size) (a0_marksF := a0_marksF) (x1 := y3) ha0 hr1) gU_X3_31 rfl hd_X3_mark gV_X3_31 ⟨rfl, hd_X3_mark⟩ [0, 1] (by decide) rfl rfl 0 rfl rfl rfl ⟨Nat.zero_le _, Nat.zero_le _⟩ (Nat.le_of_ble_eq_true rfl) dX3_levelOf_12 rfl [(a0, .inr (a0_ci, .ref a0_marks :: .int (iI a0_size) :: a0_fx)), (a0_marks, .inl (cs.1, a0_marksN, .inl (aI a0_marksF)))] rfl ?_
      obtain ⟨r2, hr2, h⟩ := bd_inv h
      refine j_callS (pc := 15) ok (k_X3_opening (x0 := r1) hr2) gS_X3_42 hd_X3_opening [] (by decide) rfl rfl rfl rfl ⟨Nat.zero_le _, Nat.zero_le _⟩ (Nat.le_of_ble_eq_true rfl) dX3_levelOf_15 rfl [(a0, .inr (a0_ci, .ref a0_marks :: .int (iI a0_size) :: a0_fx)), (a0_marks, .inl (cs.1, a0_marksN, .inl (aI a0_marksF)))] rfl ?_
      refine j_iadd (pc := 18) ok dX3_levelOf_18 ?_
      refine j_istore_n (pc := 19) (lv' := [(2, .int (iI (y2 + r2))), (0, .ref a0), (1, .int (iI y1)), (3, .int (iI y3))]) ok dX3_levelOf_19 rfl (by decide) rfl ?_
      refine j_iinc (pc := 20) (lv' := [(3, .int (iI (y3 + 1))), (2, .int (iI (y2 + r2))), (0, .ref a0), (1, .int (iI y1))]) 3 ok dX3_levelOf_20 rfl (by decide) rfl ?_
      refine j_goto (pc := 23) 4 ok dX3_levelOf_23 (by decide) ?_
      refine j_lv [2, 3, 1, 0] rfl ?_
      exact ih _ _ h
def f_X3_levelOf (a0_marksN : Nat) (a0_size : Int) (a0_marksF : (Nat → Int)) (x1 : Int) : Option (Int) := f_X3_levelOf_4 a0_marksN a0_size a0_marksF x1 (fun (z3 : Int × Int) => some z3.1) fuel 0 0
set_option maxRecDepth 100000 in
set_option maxHeartbeats 4000000 in
theorem k_X3_levelOf {D : va_G} {cs : q_CS} {a0 a0_marks : Nat} {a0_marksN : Nat} {a0_ci : Nat} {a0_fx : List Value} {a0_size : Int} {a0_marksF : (Nat → Int)} {x1 : Int} {r : (Int)} (ha0 : q_mk a0_ci a0_fx) (h : f_X3_levelOf a0_marksN a0_size a0_marksF x1 = some r) : q_M D cs yX3_levelOf cX3_levelOf 4 (some .int) 1 21 [.ref a0, .int (iI x1)] [(a0, .inr (a0_ci, .ref a0_marks :: .int (iI a0_size) :: a0_fx)), (a0_marks, .inl (cs.1, a0_marksN, .inl (aI a0_marksF)))] (some (.int (iI r))) [(a0, .inr (a0_ci, .ref a0_marks :: .int (iI a0_size) :: a0_fx)), (a0_marks, .inl (cs.1, a0_marksN, .inl (aI a0_marksF)))] := by
  refine q_start_i [(0, .ref a0), (1, .int (iI x1))] RX3 rfl (by decide +kernel) rfl (Nat.le_of_ble_eq_true rfl) rfl (fun κ ok fin => ?_)
  unfold f_X3_levelOf at h
  refine j_iconst (pc := 0) ok dX3_levelOf_0 ?_
  refine j_istore_n (pc := 1) (lv' := [(2, .int (iI 0)), (0, .ref a0), (1, .int (iI x1))]) ok dX3_levelOf_1 rfl (by decide) rfl ?_
  refine j_iconst (pc := 2) ok dX3_levelOf_2 ?_
  refine j_istore_n (pc := 3) (lv' := [(3, .int (iI 0)), (2, .int (iI 0)), (0, .ref a0), (1, .int (iI x1))]) ok dX3_levelOf_3 rfl (by decide) rfl ?_
  refine j_lv [2, 3, 1, 0] rfl ?_
  refine l_X3_levelOf_4 ha0 ok fin (fun z3 h => ?_) fuel _ _ h
  · refine j_iload_n (pc := 26) 0 ok dX3_levelOf_26 rfl rfl ?_
    obtain rfl := Option.some.inj h
    exact fin _ 27 dX3_levelOf_27
def f_X0_canHold (a0_size : Int) (a0_caret : Int) (a0_from : Int) (a0_marksF : (Nat → Int)) (x1 : Int) (x2 : Int) : Option (Int) := bd (f_X3_countItems 180 a0_size a0_marksF 0 a0_size) (fun r1 => bd (f_X3_countItems 180 a0_size a0_marksF a0_from a0_caret) (fun r2 => jn (fun (z7 : Int) => gB z7 (some z7)) (fun k4 => jn (fun (z6 : Unit) => k4 0) (fun k3 => cLt 60 ((r1 - r2) + x1) (k3 ()) (bd (f_X3_levelOf 180 a0_size a0_marksF a0_caret) (fun r5 => cLt 5 (r5 + x2) (k3 ()) (k4 1)))))))
set_option maxRecDepth 100000 in
set_option maxHeartbeats 4000000 in
theorem k_X0_canHold {D : va_G} {cs : q_CS} {a0 a0_marks : Nat} {a0_size a0_caret a0_from : Int} {a0_marksF : (Nat → Int)} {x1 x2 : Int} {r : (Int)} (h : f_X0_canHold a0_size a0_caret a0_from a0_marksF x1 x2 = some r) : q_M D cs yX0_canHold cX0_canHold 4 (some .boolean) 2 45 [.ref a0, .int (iI x1), .int (iI x2)] [(a0, .inr (0, [.ref a0_marks, .int (iI a0_size), .int (iI a0_caret), .int (iI a0_from)])), (a0_marks, .inl (cs.1, 180, .inl (aI a0_marksF)))] (some (.int (iI r))) [(a0, .inr (0, [.ref a0_marks, .int (iI a0_size), .int (iI a0_caret), .int (iI a0_from)])), (a0_marks, .inl (cs.1, 180, .inl (aI a0_marksF)))] := by
  refine q_start_z [(0, .ref a0), (1, .int (iI x1)), (2, .int (iI x2))] RX0 rfl (by decide +kernel) rfl (Nat.le_of_ble_eq_true rfl) (fun κ ok fin => ?_)
  unfold f_X0_canHold at h
  refine j_aload_n (pc := 0) 0 ok dX0_canHold_0 rfl rfl ?_
  refine j_iconst (pc := 1) ok dX0_canHold_1 ?_
  refine j_aload_n (pc := 2) 0 ok dX0_canHold_2 rfl rfl ?_
  refine gf_X0_9_0 (pc := 3) 0 ok rfl dX0_canHold_3 ?_
  obtain ⟨r1, hr1, h⟩ := bd_inv h
  refine j_callU (pc := 6) ok (k_X3_countItems (a0 := a0) (a0_marks := a0_marks) (a0_ci := 0) (a0_fx := [.int (iI a0_caret), .int (iI a0_from)]) (a0_marksN := 180) (a0_size := a0_size) (a0_marksF := a0_marksF) (x1 := 0) (x2 := a0_size) (q_mk0 _ _) hr1) gU_X0_29 rfl hd_X3_countItems [0, 1] (by decide) rfl rfl 0 rfl rfl rfl rfl ⟨Nat.zero_le _, Nat.zero_le _⟩ (Nat.le_of_ble_eq_true rfl) dX0_canHold_6 rfl [(a0, .inr (0, [.ref a0_marks, .int (iI a0_size), .int (iI a0_caret), .int (iI a0_from)])), (a0_marks, .inl (cs.1, 180, .inl (aI a0_marksF)))] rfl ?_
  refine j_aload_n (pc := 9) 0 ok dX0_canHold_9 rfl rfl ?_
  refine j_aload_n (pc := 10) 0 ok dX0_canHold_10 rfl rfl ?_
  refine gf_X0_22_0 (pc := 11) 0 ok rfl dX0_canHold_11 ?_
  refine j_aload_n (pc := 14) 0 ok dX0_canHold_14 rfl rfl ?_
  refine gf_X0_19_0 (pc := 15) 0 ok rfl dX0_canHold_15 ?_
  obtain ⟨r2, hr2, h⟩ := bd_inv h
  refine j_callU (pc := 18) ok (k_X3_countItems (a0 := a0) (a0_marks := a0_marks) (a0_ci := 0) (a0_fx := [.int (iI a0_caret), .int (iI a0_from)]) (a0_marksN := 180) (a0_size := a0_size) (a0_marksF := a0_marksF) (x1 := a0_from) (x2 := a0_caret) (q_mk0 _ _) hr2) gU_X0_29 rfl hd_X3_countItems [0, 1] (by decide) rfl rfl 0 rfl rfl rfl rfl ⟨Nat.zero_le _, Nat.zero_le _⟩ (Nat.le_of_ble_eq_true rfl) dX0_canHold_18 rfl [(a0, .inr (0, [.ref a0_marks, .int (iI a0_size), .int (iI a0_caret), .int (iI a0_from)])), (a0_marks, .inl (cs.1, 180, .inl (aI a0_marksF)))] rfl ?_
  refine j_isub (pc := 21) ok dX0_canHold_21 ?_
  refine j_istore_n (pc := 22) (lv' := [(3, .int (iI (r1 - r2))), (0, .ref a0), (1, .int (iI x1)), (2, .int (iI x2))]) ok dX0_canHold_22 rfl (by decide) rfl ?_
  refine j_iload_n (pc := 23) 0 ok dX0_canHold_23 rfl rfl ?_
  refine j_iload_n (pc := 24) 2 ok dX0_canHold_24 rfl rfl ?_
  refine j_iadd (pc := 25) ok dX0_canHold_25 ?_
  refine j_bipush (pc := 26) ok dX0_canHold_26 (by decide) ?_
  refine jn_use (P := fun z7 => q_J D κ 4 0 0 [(a0, .inr (0, [.ref a0_marks, .int (iI a0_size), .int (iI a0_caret), .int (iI a0_from)])), (a0_marks, .inl (cs.1, 180, .inl (aI a0_marksF)))] [] 50 [.int (iI z7)]) h (fun z7 h => ?_) (fun k4 hk4 h => ?_)
  · obtain ⟨hbo, h⟩ := gB_inv h
    obtain rfl := Option.some.inj h
    exact fin _ 50 hbo dX0_canHold_50
  · refine jn_use (P := fun z6 => q_J D κ 4 0 0 [(a0, .inr (0, [.ref a0_marks, .int (iI a0_size), .int (iI a0_caret), .int (iI a0_from)])), (a0_marks, .inl (cs.1, 180, .inl (aI a0_marksF)))] [] 49 []) h (fun z6 h => ?_) (fun k3 hk3 h => ?_)
    · refine j_iconst (pc := 49) ok dX0_canHold_49 ?_
      exact hk4 0 h
    · refine j_icmp_gt (pc := 28) 49 ok dX0_canHold_28 (by decide) h (fun h => ?_) (fun h => ?_)
      · refine j_lv [] rfl ?_
        exact hk3 () h
      · refine j_aload_n (pc := 31) 1 ok dX0_canHold_31 rfl rfl ?_
        refine j_aload_n (pc := 32) 1 ok dX0_canHold_32 rfl rfl ?_
        refine gf_X0_19_0 (pc := 33) 0 ok rfl dX0_canHold_33 ?_
        obtain ⟨r5, hr5, h⟩ := bd_inv h
        refine j_callU (pc := 36) ok (k_X3_levelOf (a0 := a0) (a0_marks := a0_marks) (a0_ci := 0) (a0_fx := [.int (iI a0_caret), .int (iI a0_from)]) (a0_marksN := 180) (a0_size := a0_size) (a0_marksF := a0_marksF) (x1 := a0_caret) (q_mk0 _ _) hr5) gU_X0_93 rfl hd_X3_levelOf [0, 1] (by decide) rfl rfl 0 rfl rfl rfl rfl ⟨Nat.zero_le _, Nat.zero_le _⟩ (Nat.le_of_ble_eq_true rfl) dX0_canHold_36 rfl [(a0, .inr (0, [.ref a0_marks, .int (iI a0_size), .int (iI a0_caret), .int (iI a0_from)])), (a0_marks, .inl (cs.1, 180, .inl (aI a0_marksF)))] rfl ?_
        refine j_iload_n (pc := 39) 3 ok dX0_canHold_39 rfl rfl ?_
        refine j_iadd (pc := 40) ok dX0_canHold_40 ?_
        refine j_iconst (pc := 41) ok dX0_canHold_41 ?_
        refine j_icmp_gt (pc := 42) 49 ok dX0_canHold_42 (by decide) h (fun h => ?_) (fun h => ?_)
        · refine j_lv [] rfl ?_
          exact hk3 () h
        · refine j_iconst (pc := 45) ok dX0_canHold_45 ?_
          refine j_goto (pc := 46) 50 ok dX0_canHold_46 (by decide) ?_
          refine j_lv [] rfl ?_
          exact hk4 1 h
def f_X0_canHoldSymbol (a0_size : Int) (a0_caret : Int) (a0_from : Int) (a0_marksF : (Nat → Int)) : Option (Int) := bd (f_X0_canHold a0_size a0_caret a0_from a0_marksF 1 0) (fun r1 => gB r1 (some r1))
set_option maxRecDepth 100000 in
set_option maxHeartbeats 4000000 in
theorem k_X0_canHoldSymbol {D : va_G} {cs : q_CS} {a0 a0_marks : Nat} {a0_size a0_caret a0_from : Int} {a0_marksF : (Nat → Int)} {r : (Int)} (h : f_X0_canHoldSymbol a0_size a0_caret a0_from a0_marksF = some r) : q_M D cs yX0_canHoldSymbol cX0_canHoldSymbol 1 (some .boolean) 3 68 [.ref a0] [(a0, .inr (0, [.ref a0_marks, .int (iI a0_size), .int (iI a0_caret), .int (iI a0_from)])), (a0_marks, .inl (cs.1, 180, .inl (aI a0_marksF)))] (some (.int (iI r))) [(a0, .inr (0, [.ref a0_marks, .int (iI a0_size), .int (iI a0_caret), .int (iI a0_from)])), (a0_marks, .inl (cs.1, 180, .inl (aI a0_marksF)))] := by
  refine q_start_z [(0, .ref a0)] RX0 rfl (by decide +kernel) rfl (Nat.le_of_ble_eq_true rfl) (fun κ ok fin => ?_)
  unfold f_X0_canHoldSymbol at h
  refine j_aload_n (pc := 0) 0 ok dX0_canHoldSymbol_0 rfl rfl ?_
  refine j_iconst (pc := 1) ok dX0_canHoldSymbol_1 ?_
  refine j_iconst (pc := 2) ok dX0_canHoldSymbol_2 ?_
  obtain ⟨r1, hr1, h⟩ := bd_inv h
  refine j_callV (pc := 3) ok (k_X0_canHold (a0 := a0) (a0_marks := a0_marks) (a0_size := a0_size) (a0_caret := a0_caret) (a0_from := a0_from) (a0_marksF := a0_marksF) (x1 := 1) (x2 := 0) hr1) gV_X0_96 ⟨rfl, hd_X0_canHold⟩ [0, 1] (by decide) rfl rfl 0 rfl rfl rfl rfl ⟨Nat.zero_le _, Nat.zero_le _⟩ (Nat.le_of_ble_eq_true rfl) dX0_canHoldSymbol_3 rfl [(a0, .inr (0, [.ref a0_marks, .int (iI a0_size), .int (iI a0_caret), .int (iI a0_from)])), (a0_marks, .inl (cs.1, 180, .inl (aI a0_marksF)))] rfl ?_
  obtain ⟨hbo, h⟩ := gB_inv h
  obtain rfl := Option.some.inj h
  exact fin _ 6 hbo dX0_canHoldSymbol_6
def f_X3_depth_8 (a0_marksN : Nat) (a0_size : Int) (a0_marksF : (Nat → Int)) (y2 : Int) (e8_40 : Int × Int × Int → Option (Int)) : Nat → Int → Int → Int → Option (Int)
  | 0, _, _, _ => none
  | n + 1, y3, y4, y5 => cLt y5 y2 (bd (f_X3_mark a0_marksN a0_size a0_marksF y5) (fun r1 => bd (f_X3_opening r1) (fun r2 => gR y4 (gR (y3 + r2) (f_X3_depth_8 a0_marksN a0_size a0_marksF y2 e8_40 n (y3 + r2) (mxI y4 (y3 + r2)) (y5 + 1)))))) (e8_40 (y3, y4, y5))
set_option maxRecDepth 100000 in
theorem l_X3_depth_8 {D : va_G} {cs : q_CS} {κ : q_X} {a0 a0_marks : Nat} {a0_marksN : Nat} {a0_ci : Nat} {a0_fx : List Value} {a0_size : Int} {a0_marksF : (Nat → Int)} {y2 : Int} {r : (Int)} {e8_40 : Int × Int × Int → Option (Int)} (ha0 : q_mk a0_ci a0_fx) (ok : q_ok D cs κ cX3_depth 6 RX3 (q_rm 1 21)) (fin : ∀ (lv : List (Nat × Value)) (pc : Nat), decode cX3_depth pc = .ok (.ireturn, 1) → q_J D κ 6 0 0 [(a0, .inr (a0_ci, .ref a0_marks :: .int (iI a0_size) :: a0_fx)), (a0_marks, .inl (cs.1, a0_marksN, .inl (aI a0_marksF)))] lv pc [.int (iI r)]) (he8_40 : ∀ x : Int × Int × Int, e8_40 x = some r → q_J D κ 6 0 0 [(a0, .inr (a0_ci, .ref a0_marks :: .int (iI a0_size) :: a0_fx)), (a0_marks, .inl (cs.1, a0_marksN, .inl (aI a0_marksF)))] [(4, .int (iI x.2.1))] 40 []) : ∀ (n : Nat) (y3 : Int) (y4 : Int) (y5 : Int), f_X3_depth_8 a0_marksN a0_size a0_marksF y2 e8_40 n y3 y4 y5 = some r → q_J D κ 6 0 0 [(a0, .inr (a0_ci, .ref a0_marks :: .int (iI a0_size) :: a0_fx)), (a0_marks, .inl (cs.1, a0_marksN, .inl (aI a0_marksF)))] [(0, .ref a0), (2, .int (iI y2)), (3, .int (iI y3)), (4, .int (iI y4)), (5, .int (iI y5))] 8 [] := by
  intro n
  induction n with
  | zero =>
    intro y3 y4 y5 h
    exact absurd h (by unfold f_X3_depth_8; exact fun z => by cases z)
  | succ n ih =>
    intro y3 y4 y5 h
    unfold f_X3_depth_8 at h
    refine j_iload (pc := 8) 4 ok dX3_depth_8 rfl ?_
    refine j_iload_n (pc := 10) 1 ok dX3_depth_10 rfl rfl ?_
    refine j_icmp_ge (pc := 11) 40 ok dX3_depth_11 (by decide) h (fun h => ?_) (fun h => ?_)
    · refine j_lv [3] rfl ?_
      exact he8_40 (y3, y4, y5) h
    · refine j_iload_n (pc := 14) 2 ok dX3_depth_14 rfl rfl ?_
      refine j_aload_n (pc := 15) 0 ok dX3_depth_15 rfl rfl ?_
      refine j_iload (pc := 16) 4 ok dX3_depth_16 rfl ?_
      obtain ⟨r1, hr1, h⟩ := bd_inv h
      refine j_callM (pc := 18) ok ha0 (k_X3_mark (a0 := a0) (a0_marks := a0_marks) (a0_ci := a0_ci) (a0_fx := a0_fx) (a0_marksN := a0_marksN) (a0_size := a0_size) (a0_marksF := a0_marksF) (x1 := y5) ha0 hr1) gU_X3_31 rfl hd_X3_mark gV_X3_31 ⟨rfl, hd_X3_mark⟩ [0, 1] (by decide) rfl rfl 0 rfl rfl rfl ⟨Nat.zero_le _, Nat.zero_le _⟩ (Nat.le_of_ble_eq_true rfl) dX3_depth_18 rfl [(a0, .inr (a0_ci, .ref a0_marks :: .int (iI a0_size) :: a0_fx)), (a0_marks, .inl (cs.1, a0_marksN, .inl (aI a0_marksF)))] rfl ?_
      obtain ⟨r2, hr2, h⟩ := bd_inv h
      refine j_callS (pc := 21) ok (k_X3_opening (x0 := r1) hr2) gS_X3_42 hd_X3_opening [] (by decide) rfl rfl rfl rfl ⟨Nat.zero_le _, Nat.zero_le _⟩ (Nat.le_of_ble_eq_true rfl) dX3_depth_21 rfl [(a0, .inr (a0_ci, .ref a0_marks :: .int (iI a0_size) :: a0_fx)), (a0_marks, .inl (cs.1, a0_marksN, .inl (aI a0_marksF)))] rfl ?_
      refine j_iadd (pc := 24) ok dX3_depth_24 ?_
      refine j_istore_n (pc := 25) (lv' := [(3, .int (iI (y3 + r2))), (0, .ref a0), (2, .int (iI y2)), (4, .int (iI y4)), (5, .int (iI y5))]) ok dX3_depth_25 rfl (by decide) rfl ?_
      refine j_iload (pc := 26) 3 ok dX3_depth_26 rfl ?_
      refine j_iload_n (pc := 28) 0 ok dX3_depth_28 rfl rfl ?_
      refine j_maxw (pc := 29) ok (q_in 79 (by decide +kernel) (by decide +kernel)) (q_in 80 (by decide +kernel) (by decide +kernel)) (q_in 49 (by decide +kernel) (by decide +kernel)) (q_in 81 (by decide +kernel) (by decide +kernel)) (by decide) (Nat.le_of_ble_eq_true rfl) (Nat.zero_le _) (Nat.zero_le _) dX3_depth_29 h (fun h => ?_)
      refine j_istore (pc := 32) (lv' := [(4, .int (iI (mxI y4 (y3 + r2)))), (3, .int (iI (y3 + r2))), (0, .ref a0), (2, .int (iI y2)), (5, .int (iI y5))]) ok dX3_depth_32 (by decide) rfl ?_
      refine j_iinc (pc := 34) (lv' := [(5, .int (iI (y5 + 1))), (4, .int (iI (mxI y4 (y3 + r2)))), (3, .int (iI (y3 + r2))), (0, .ref a0), (2, .int (iI y2))]) 4 ok dX3_depth_34 rfl (by decide) rfl ?_
      refine j_goto (pc := 37) 8 ok dX3_depth_37 (by decide) ?_
      refine j_lv [3, 4, 2, 1, 0] rfl ?_
      exact ih _ _ _ h
def f_X3_depth (a0_marksN : Nat) (a0_size : Int) (a0_marksF : (Nat → Int)) (x1 : Int) (x2 : Int) : Option (Int) := f_X3_depth_8 a0_marksN a0_size a0_marksF x2 (fun (z3 : Int × Int × Int) => some z3.2.1) fuel 0 0 x1
set_option maxRecDepth 100000 in
set_option maxHeartbeats 4000000 in
theorem k_X3_depth {D : va_G} {cs : q_CS} {a0 a0_marks : Nat} {a0_marksN : Nat} {a0_ci : Nat} {a0_fx : List Value} {a0_size : Int} {a0_marksF : (Nat → Int)} {x1 x2 : Int} {r : (Int)} (ha0 : q_mk a0_ci a0_fx) (h : f_X3_depth a0_marksN a0_size a0_marksF x1 x2 = some r) : q_M D cs yX3_depth cX3_depth 6 (some .int) 1 21 [.ref a0, .int (iI x1), .int (iI x2)] [(a0, .inr (a0_ci, .ref a0_marks :: .int (iI a0_size) :: a0_fx)), (a0_marks, .inl (cs.1, a0_marksN, .inl (aI a0_marksF)))] (some (.int (iI r))) [(a0, .inr (a0_ci, .ref a0_marks :: .int (iI a0_size) :: a0_fx)), (a0_marks, .inl (cs.1, a0_marksN, .inl (aI a0_marksF)))] := by
  refine q_start_i [(0, .ref a0), (1, .int (iI x1)), (2, .int (iI x2))] RX3 rfl (by decide +kernel) rfl (Nat.le_of_ble_eq_true rfl) rfl (fun κ ok fin => ?_)
  unfold f_X3_depth at h
  refine j_iconst (pc := 0) ok dX3_depth_0 ?_
  refine j_istore_n (pc := 1) (lv' := [(3, .int (iI 0)), (0, .ref a0), (1, .int (iI x1)), (2, .int (iI x2))]) ok dX3_depth_1 rfl (by decide) rfl ?_
  refine j_iconst (pc := 2) ok dX3_depth_2 ?_
  refine j_istore (pc := 3) (lv' := [(4, .int (iI 0)), (3, .int (iI 0)), (0, .ref a0), (1, .int (iI x1)), (2, .int (iI x2))]) ok dX3_depth_3 (by decide) rfl ?_
  refine j_iload_n (pc := 5) 3 ok dX3_depth_5 rfl rfl ?_
  refine j_istore (pc := 6) (lv' := [(5, .int (iI x1)), (4, .int (iI 0)), (3, .int (iI 0)), (0, .ref a0), (1, .int (iI x1)), (2, .int (iI x2))]) ok dX3_depth_6 (by decide) rfl ?_
  refine j_lv [3, 5, 2, 1, 0] rfl ?_
  refine l_X3_depth_8 ha0 ok fin (fun z3 h => ?_) fuel _ _ _ h
  · refine j_iload (pc := 40) 0 ok dX3_depth_40 rfl ?_
    obtain rfl := Option.some.inj h
    exact fin _ 42 dX3_depth_42
def f_X0_canHoldStructure (a0_size : Int) (a0_caret : Int) (a0_from : Int) (a0_marksF : (Nat → Int)) : Option (Int) := bd (f_X3_countItems 180 a0_size a0_marksF a0_from a0_caret) (fun r1 => bd (f_X3_depth 180 a0_size a0_marksF a0_from a0_caret) (fun r2 => bd (f_X0_canHold a0_size a0_caret a0_from a0_marksF (1 + r1) (1 + r2)) (fun r3 => gB r3 (some r3))))
set_option maxRecDepth 100000 in
set_option maxHeartbeats 4000000 in
theorem k_X0_canHoldStructure {D : va_G} {cs : q_CS} {a0 a0_marks : Nat} {a0_size a0_caret a0_from : Int} {a0_marksF : (Nat → Int)} {r : (Int)} (h : f_X0_canHoldStructure a0_size a0_caret a0_from a0_marksF = some r) : q_M D cs yX0_canHoldStructure cX0_canHoldStructure 1 (some .boolean) 3 68 [.ref a0] [(a0, .inr (0, [.ref a0_marks, .int (iI a0_size), .int (iI a0_caret), .int (iI a0_from)])), (a0_marks, .inl (cs.1, 180, .inl (aI a0_marksF)))] (some (.int (iI r))) [(a0, .inr (0, [.ref a0_marks, .int (iI a0_size), .int (iI a0_caret), .int (iI a0_from)])), (a0_marks, .inl (cs.1, 180, .inl (aI a0_marksF)))] := by
  refine q_start_z [(0, .ref a0)] RX0 rfl (by decide +kernel) rfl (Nat.le_of_ble_eq_true rfl) (fun κ ok fin => ?_)
  unfold f_X0_canHoldStructure at h
  refine j_aload_n (pc := 0) 0 ok dX0_canHoldStructure_0 rfl rfl ?_
  refine j_iconst (pc := 1) ok dX0_canHoldStructure_1 ?_
  refine j_aload_n (pc := 2) 0 ok dX0_canHoldStructure_2 rfl rfl ?_
  refine j_aload_n (pc := 3) 0 ok dX0_canHoldStructure_3 rfl rfl ?_
  refine gf_X0_22_0 (pc := 4) 0 ok rfl dX0_canHoldStructure_4 ?_
  refine j_aload_n (pc := 7) 0 ok dX0_canHoldStructure_7 rfl rfl ?_
  refine gf_X0_19_0 (pc := 8) 0 ok rfl dX0_canHoldStructure_8 ?_
  obtain ⟨r1, hr1, h⟩ := bd_inv h
  refine j_callU (pc := 11) ok (k_X3_countItems (a0 := a0) (a0_marks := a0_marks) (a0_ci := 0) (a0_fx := [.int (iI a0_caret), .int (iI a0_from)]) (a0_marksN := 180) (a0_size := a0_size) (a0_marksF := a0_marksF) (x1 := a0_from) (x2 := a0_caret) (q_mk0 _ _) hr1) gU_X0_29 rfl hd_X3_countItems [0, 1] (by decide) rfl rfl 0 rfl rfl rfl rfl ⟨Nat.zero_le _, Nat.zero_le _⟩ (Nat.le_of_ble_eq_true rfl) dX0_canHoldStructure_11 rfl [(a0, .inr (0, [.ref a0_marks, .int (iI a0_size), .int (iI a0_caret), .int (iI a0_from)])), (a0_marks, .inl (cs.1, 180, .inl (aI a0_marksF)))] rfl ?_
  refine j_iadd (pc := 14) ok dX0_canHoldStructure_14 ?_
  refine j_iconst (pc := 15) ok dX0_canHoldStructure_15 ?_
  refine j_aload_n (pc := 16) 0 ok dX0_canHoldStructure_16 rfl rfl ?_
  refine j_aload_n (pc := 17) 0 ok dX0_canHoldStructure_17 rfl rfl ?_
  refine gf_X0_22_0 (pc := 18) 0 ok rfl dX0_canHoldStructure_18 ?_
  refine j_aload_n (pc := 21) 0 ok dX0_canHoldStructure_21 rfl rfl ?_
  refine gf_X0_19_0 (pc := 22) 0 ok rfl dX0_canHoldStructure_22 ?_
  obtain ⟨r2, hr2, h⟩ := bd_inv h
  refine j_callU (pc := 25) ok (k_X3_depth (a0 := a0) (a0_marks := a0_marks) (a0_ci := 0) (a0_fx := [.int (iI a0_caret), .int (iI a0_from)]) (a0_marksN := 180) (a0_size := a0_size) (a0_marksF := a0_marksF) (x1 := a0_from) (x2 := a0_caret) (q_mk0 _ _) hr2) gU_X0_100 rfl hd_X3_depth [0, 1] (by decide) rfl rfl 0 rfl rfl rfl rfl ⟨Nat.zero_le _, Nat.zero_le _⟩ (Nat.le_of_ble_eq_true rfl) dX0_canHoldStructure_25 rfl [(a0, .inr (0, [.ref a0_marks, .int (iI a0_size), .int (iI a0_caret), .int (iI a0_from)])), (a0_marks, .inl (cs.1, 180, .inl (aI a0_marksF)))] rfl ?_
  refine j_iadd (pc := 28) ok dX0_canHoldStructure_28 ?_
  obtain ⟨r3, hr3, h⟩ := bd_inv h
  refine j_callV (pc := 29) ok (k_X0_canHold (a0 := a0) (a0_marks := a0_marks) (a0_size := a0_size) (a0_caret := a0_caret) (a0_from := a0_from) (a0_marksF := a0_marksF) (x1 := 1 + r1) (x2 := 1 + r2) hr3) gV_X0_96 ⟨rfl, hd_X0_canHold⟩ [0, 1] (by decide) rfl rfl 0 rfl rfl rfl rfl ⟨Nat.zero_le _, Nat.zero_le _⟩ (Nat.le_of_ble_eq_true rfl) dX0_canHoldStructure_29 rfl [(a0, .inr (0, [.ref a0_marks, .int (iI a0_size), .int (iI a0_caret), .int (iI a0_from)])), (a0_marks, .inl (cs.1, 180, .inl (aI a0_marksF)))] rfl ?_
  obtain ⟨hbo, h⟩ := gB_inv h
  obtain rfl := Option.some.inj h
  exact fin _ 32 hbo dX0_canHoldStructure_32
def f_X3_allItems (a0_marksN : Nat) (a0_size : Int) (a0_marksF : (Nat → Int)) : Option (Int) := bd (f_X3_countItems a0_marksN a0_size a0_marksF 0 a0_size) (fun r1 => some r1)
set_option maxRecDepth 100000 in
set_option maxHeartbeats 4000000 in
theorem k_X3_allItems {D : va_G} {cs : q_CS} {a0 a0_marks : Nat} {a0_marksN : Nat} {a0_ci : Nat} {a0_fx : List Value} {a0_size : Int} {a0_marksF : (Nat → Int)} {r : (Int)} (ha0 : q_mk a0_ci a0_fx) (h : f_X3_allItems a0_marksN a0_size a0_marksF = some r) : q_M D cs yX3_allItems cX3_allItems 1 (some .int) 2 45 [.ref a0] [(a0, .inr (a0_ci, .ref a0_marks :: .int (iI a0_size) :: a0_fx)), (a0_marks, .inl (cs.1, a0_marksN, .inl (aI a0_marksF)))] (some (.int (iI r))) [(a0, .inr (a0_ci, .ref a0_marks :: .int (iI a0_size) :: a0_fx)), (a0_marks, .inl (cs.1, a0_marksN, .inl (aI a0_marksF)))] := by
  refine q_start_i [(0, .ref a0)] RX3 rfl (by decide +kernel) rfl (Nat.le_of_ble_eq_true rfl) rfl (fun κ ok fin => ?_)
  unfold f_X3_allItems at h
  refine j_aload_n (pc := 0) 0 ok dX3_allItems_0 rfl rfl ?_
  refine j_iconst (pc := 1) ok dX3_allItems_1 ?_
  refine j_aload_n (pc := 2) 0 ok dX3_allItems_2 rfl rfl ?_
  refine gm_X3_21 (pc := 3) 0 ok ha0 rfl dX3_allItems_3 ?_
  obtain ⟨r1, hr1, h⟩ := bd_inv h
  refine j_callM (pc := 6) ok ha0 (k_X3_countItems (a0 := a0) (a0_marks := a0_marks) (a0_ci := a0_ci) (a0_fx := a0_fx) (a0_marksN := a0_marksN) (a0_size := a0_size) (a0_marksF := a0_marksF) (x1 := 0) (x2 := a0_size) ha0 hr1) gU_X3_39 rfl hd_X3_countItems gV_X3_39 ⟨rfl, hd_X3_countItems⟩ [0, 1] (by decide) rfl rfl 0 rfl rfl rfl ⟨Nat.zero_le _, Nat.zero_le _⟩ (Nat.le_of_ble_eq_true rfl) dX3_allItems_6 rfl [(a0, .inr (a0_ci, .ref a0_marks :: .int (iI a0_size) :: a0_fx)), (a0_marks, .inl (cs.1, a0_marksN, .inl (aI a0_marksF)))] rfl ?_
  obtain rfl := Option.some.inj h
  exact fin _ 9 dX3_allItems_9
def f_X0_canHoldAll (a1_marksN : Nat) (a0_size : Int) (a0_caret : Int) (a0_from : Int) (a0_marksF : (Nat → Int)) (a1_size : Int) (a1_marksF : (Nat → Int)) : Option (Int) := bd (f_X3_allItems a1_marksN a1_size a1_marksF) (fun r1 => bd (f_X3_depth a1_marksN a1_size a1_marksF 0 a1_size) (fun r2 => bd (f_X0_canHold a0_size a0_caret a0_from a0_marksF r1 r2) (fun r3 => gB r3 (some r3))))
set_option maxRecDepth 100000 in
set_option maxHeartbeats 4000000 in
theorem k_X0_canHoldAll {D : va_G} {cs : q_CS} {a0 a0_marks a1 a1_marks : Nat} {a1_marksN : Nat} {a1_ci : Nat} {a1_fx : List Value} {a0_size a0_caret a0_from a1_size : Int} {a0_marksF a1_marksF : (Nat → Int)} {r : (Int)} (ha1 : q_mk a1_ci a1_fx) (h : f_X0_canHoldAll a1_marksN a0_size a0_caret a0_from a0_marksF a1_size a1_marksF = some r) : q_M D cs yX0_canHoldAll cX0_canHoldAll 2 (some .boolean) 3 68 [.ref a0, .ref a1] [(a0, .inr (0, [.ref a0_marks, .int (iI a0_size), .int (iI a0_caret), .int (iI a0_from)])), (a0_marks, .inl (cs.1, 180, .inl (aI a0_marksF))), (a1, .inr (a1_ci, .ref a1_marks :: .int (iI a1_size) :: a1_fx)), (a1_marks, .inl (cs.1, a1_marksN, .inl (aI a1_marksF)))] (some (.int (iI r))) [(a0, .inr (0, [.ref a0_marks, .int (iI a0_size), .int (iI a0_caret), .int (iI a0_from)])), (a0_marks, .inl (cs.1, 180, .inl (aI a0_marksF))), (a1, .inr (a1_ci, .ref a1_marks :: .int (iI a1_size) :: a1_fx)), (a1_marks, .inl (cs.1, a1_marksN, .inl (aI a1_marksF)))] := by
  refine q_start_z [(0, .ref a0), (1, .ref a1)] RX0 rfl (by decide +kernel) rfl (Nat.le_of_ble_eq_true rfl) (fun κ ok fin => ?_)
  unfold f_X0_canHoldAll at h
  refine j_aload_n (pc := 0) 0 ok dX0_canHoldAll_0 rfl rfl ?_
  refine j_aload_n (pc := 1) 1 ok dX0_canHoldAll_1 rfl rfl ?_
  obtain ⟨r1, hr1, h⟩ := bd_inv h
  refine j_callM (pc := 2) ok ha1 (k_X3_allItems (a0 := a1) (a0_marks := a1_marks) (a0_ci := a1_ci) (a0_fx := a1_fx) (a0_marksN := a1_marksN) (a0_size := a1_size) (a0_marksF := a1_marksF) ha1 hr1) gU_X0_103 rfl hd_X3_allItems gV_X0_103 ⟨rfl, hd_X3_allItems⟩ [2, 3] (by decide) rfl rfl 2 rfl rfl rfl ⟨Nat.zero_le _, Nat.zero_le _⟩ (Nat.le_of_ble_eq_true rfl) dX0_canHoldAll_2 rfl [(a0, .inr (0, [.ref a0_marks, .int (iI a0_size), .int (iI a0_caret), .int (iI a0_from)])), (a0_marks, .inl (cs.1, 180, .inl (aI a0_marksF))), (a1, .inr (a1_ci, .ref a1_marks :: .int (iI a1_size) :: a1_fx)), (a1_marks, .inl (cs.1, a1_marksN, .inl (aI a1_marksF)))] rfl ?_
  refine j_aload_n (pc := 5) 1 ok dX0_canHoldAll_5 rfl rfl ?_
  refine j_iconst (pc := 6) ok dX0_canHoldAll_6 ?_
  refine j_aload_n (pc := 7) 1 ok dX0_canHoldAll_7 rfl rfl ?_
  refine gm_X0_107 (pc := 8) 2 ok ha1 rfl dX0_canHoldAll_8 ?_
  obtain ⟨r2, hr2, h⟩ := bd_inv h
  refine j_callM (pc := 11) ok ha1 (k_X3_depth (a0 := a1) (a0_marks := a1_marks) (a0_ci := a1_ci) (a0_fx := a1_fx) (a0_marksN := a1_marksN) (a0_size := a1_size) (a0_marksF := a1_marksF) (x1 := 0) (x2 := a1_size) ha1 hr2) gU_X0_108 rfl hd_X3_depth gV_X0_108 ⟨rfl, hd_X3_depth⟩ [2, 3] (by decide) rfl rfl 2 rfl rfl rfl ⟨Nat.zero_le _, Nat.zero_le _⟩ (Nat.le_of_ble_eq_true rfl) dX0_canHoldAll_11 rfl [(a0, .inr (0, [.ref a0_marks, .int (iI a0_size), .int (iI a0_caret), .int (iI a0_from)])), (a0_marks, .inl (cs.1, 180, .inl (aI a0_marksF))), (a1, .inr (a1_ci, .ref a1_marks :: .int (iI a1_size) :: a1_fx)), (a1_marks, .inl (cs.1, a1_marksN, .inl (aI a1_marksF)))] rfl ?_
  obtain ⟨r3, hr3, h⟩ := bd_inv h
  refine j_callV (pc := 14) ok (k_X0_canHold (a0 := a0) (a0_marks := a0_marks) (a0_size := a0_size) (a0_caret := a0_caret) (a0_from := a0_from) (a0_marksF := a0_marksF) (x1 := r1) (x2 := r2) hr3) gV_X0_96 ⟨rfl, hd_X0_canHold⟩ [0, 1] (by decide) rfl rfl 0 rfl rfl rfl rfl ⟨Nat.zero_le _, Nat.zero_le _⟩ (Nat.le_of_ble_eq_true rfl) dX0_canHoldAll_14 rfl [(a0, .inr (0, [.ref a0_marks, .int (iI a0_size), .int (iI a0_caret), .int (iI a0_from)])), (a0_marks, .inl (cs.1, 180, .inl (aI a0_marksF))), (a1, .inr (a1_ci, .ref a1_marks :: .int (iI a1_size) :: a1_fx)), (a1_marks, .inl (cs.1, a1_marksN, .inl (aI a1_marksF)))] rfl ?_
  obtain ⟨hbo, h⟩ := gB_inv h
  obtain rfl := Option.some.inj h
  exact fin _ 17 hbo dX0_canHoldAll_17
def f_X3_remove (a0_marksN : Nat) (a0_size : Int) (a0_marksF : (Nat → Int)) (x1 : Int) (x2 : Int) : Option (Int × (Nat → Int)) := jn (fun (z2 : Int × (Nat → Int)) => some (z2.1, z2.2)) (fun k1 => cLt x1 0 (k1 (a0_size, a0_marksF)) (cLt x2 x1 (k1 (a0_size, a0_marksF)) (cLt a0_size x2 (k1 (a0_size, a0_marksF)) (cLt ((a0_marksN : Int)) a0_size (k1 (a0_size, a0_marksF)) (gC x2 x1 (a0_size - x2) a0_marksN a0_marksN (k1 (a0_size - (x2 - x1), va_cpy a0_marksF a0_marksF x2.toNat x1.toNat (a0_size - x2).toNat)))))))
set_option maxRecDepth 100000 in
set_option maxHeartbeats 4000000 in
theorem k_X3_remove {D : va_G} {cs : q_CS} {a0 a0_marks : Nat} {a0_marksN : Nat} {a0_ci : Nat} {a0_fx : List Value} {a0_size : Int} {a0_marksF : (Nat → Int)} {x1 x2 : Int} {r : (Int × (Nat → Int))} (ha0 : q_mk a0_ci a0_fx) (h : f_X3_remove a0_marksN a0_size a0_marksF x1 x2 = some r) : q_M D cs yX3_remove cX3_remove 3 none 1 18 [.ref a0, .int (iI x1), .int (iI x2)] [(a0, .inr (a0_ci, .ref a0_marks :: .int (iI a0_size) :: a0_fx)), (a0_marks, .inl (cs.1, a0_marksN, .inl (aI a0_marksF)))] none [(a0, .inr (a0_ci, .ref a0_marks :: .int (iI r.1) :: a0_fx)), (a0_marks, .inl (cs.1, a0_marksN, .inl (aI r.2)))] := by
  refine q_start_v [(0, .ref a0), (1, .int (iI x1)), (2, .int (iI x2))] RX3 rfl (by decide +kernel) rfl (Nat.le_of_ble_eq_true rfl) (fun κ ok fin => ?_)
  unfold f_X3_remove at h
  refine j_iload_n (pc := 0) 1 ok dX3_remove_0 rfl rfl ?_
  refine jn_use (P := fun z2 => q_J D κ 3 0 0 [(a0, .inr (a0_ci, .ref a0_marks :: .int (iI z2.1) :: a0_fx)), (a0_marks, .inl (cs.1, a0_marksN, .inl (aI z2.2)))] [] 60 []) h (fun z2 h => ?_) (fun k1 hk1 h => ?_)
  · obtain rfl := Option.some.inj h
    exact fin _ 60 dX3_remove_60
  · refine j_if_lt (pc := 1) 60 ok dX3_remove_1 (by decide) h (fun h => ?_) (fun h => ?_)
    · refine j_lv [] rfl ?_
      exact hk1 (a0_size, a0_marksF) h
    · refine j_iload_n (pc := 4) 1 ok dX3_remove_4 rfl rfl ?_
      refine j_iload_n (pc := 5) 2 ok dX3_remove_5 rfl rfl ?_
      refine j_icmp_gt (pc := 6) 60 ok dX3_remove_6 (by decide) h (fun h => ?_) (fun h => ?_)
      · refine j_lv [] rfl ?_
        exact hk1 (a0_size, a0_marksF) h
      · refine j_iload_n (pc := 9) 2 ok dX3_remove_9 rfl rfl ?_
        refine j_aload_n (pc := 10) 0 ok dX3_remove_10 rfl rfl ?_
        refine gm_X3_21 (pc := 11) 0 ok ha0 rfl dX3_remove_11 ?_
        refine j_icmp_gt (pc := 14) 60 ok dX3_remove_14 (by decide) h (fun h => ?_) (fun h => ?_)
        · refine j_lv [] rfl ?_
          exact hk1 (a0_size, a0_marksF) h
        · refine j_aload_n (pc := 17) 0 ok dX3_remove_17 rfl rfl ?_
          refine gm_X3_21 (pc := 18) 0 ok ha0 rfl dX3_remove_18 ?_
          refine j_aload_n (pc := 21) 0 ok dX3_remove_21 rfl rfl ?_
          refine gm_X3_15 (pc := 22) 0 ok ha0 rfl dX3_remove_22 ?_
          refine j_alen (pc := 25) 1 0 ok rfl rfl dX3_remove_25 ?_
          refine j_icmp_gt (pc := 26) 60 ok dX3_remove_26 (by decide) h (fun h => ?_) (fun h => ?_)
          · refine j_lv [] rfl ?_
            exact hk1 (a0_size, a0_marksF) h
          · refine j_aload_n (pc := 29) 0 ok dX3_remove_29 rfl rfl ?_
            refine gm_X3_15 (pc := 30) 0 ok ha0 rfl dX3_remove_30 ?_
            refine j_iload_n (pc := 33) 2 ok dX3_remove_33 rfl rfl ?_
            refine j_aload_n (pc := 34) 0 ok dX3_remove_34 rfl rfl ?_
            refine gm_X3_15 (pc := 35) 0 ok ha0 rfl dX3_remove_35 ?_
            refine j_iload_n (pc := 38) 1 ok dX3_remove_38 rfl rfl ?_
            refine j_aload_n (pc := 39) 0 ok dX3_remove_39 rfl rfl ?_
            refine gm_X3_21 (pc := 40) 0 ok ha0 rfl dX3_remove_40 ?_
            refine j_iload_n (pc := 43) 2 ok dX3_remove_43 rfl rfl ?_
            refine j_isub (pc := 44) ok dX3_remove_44 ?_
            refine j_copyw (pc := 45) 1 1 ok rfl rfl (q_in 339 (by decide +kernel) (by decide +kernel)) (q_in 341 (by decide +kernel) (by decide +kernel)) (q_in 340 (by decide +kernel) (by decide +kernel)) (q_in 55 (by decide +kernel) (by decide +kernel)) (by decide) (by decide) dX3_remove_45 h [(a0, .inr (a0_ci, .ref a0_marks :: .int (iI a0_size) :: a0_fx)), (a0_marks, .inl (cs.1, a0_marksN, .inl (aI (va_cpy a0_marksF a0_marksF x2.toNat x1.toNat (a0_size - x2).toNat))))] rfl (fun h => ?_)
            refine j_aload_n (pc := 48) 0 ok dX3_remove_48 rfl rfl ?_
            refine j_dup (pc := 49) ok dX3_remove_49 rfl ?_
            refine gm_X3_21 (pc := 50) 0 ok ha0 rfl dX3_remove_50 ?_
            refine j_iload_n (pc := 53) 2 ok dX3_remove_53 rfl rfl ?_
            refine j_iload_n (pc := 54) 1 ok dX3_remove_54 rfl rfl ?_
            refine j_isub (pc := 55) ok dX3_remove_55 ?_
            refine j_isub (pc := 56) ok dX3_remove_56 ?_
            refine pm_X3_21 (pc := 57) 0 ok ha0 rfl dX3_remove_57 [(a0, .inr (a0_ci, .ref a0_marks :: .int (iI (a0_size - (x2 - x1))) :: a0_fx)), (a0_marks, .inl (cs.1, a0_marksN, .inl (aI (va_cpy a0_marksF a0_marksF x2.toNat x1.toNat (a0_size - x2).toNat))))] rfl ?_
            refine j_lv [] rfl ?_
            exact hk1 (a0_size - (x2 - x1), va_cpy a0_marksF a0_marksF x2.toNat x1.toNat (a0_size - x2).toNat) h
def f_X0_removeSelection (a0_size : Int) (a0_caret : Int) (a0_from : Int) (a0_marksF : (Nat → Int)) : Option (Int × Int × Int × (Nat → Int)) := bd (f_X3_remove 180 a0_size a0_marksF a0_from a0_caret) (fun r1 => bd (f_X0_putCaret a0_caret a0_from a0_from) (fun r2 => some (r1.1, r2.1, r2.2, r1.2)))
set_option maxRecDepth 100000 in
set_option maxHeartbeats 4000000 in
theorem k_X0_removeSelection {D : va_G} {cs : q_CS} {a0 a0_marks : Nat} {a0_size a0_caret a0_from : Int} {a0_marksF : (Nat → Int)} {r : (Int × Int × Int × (Nat → Int))} (h : f_X0_removeSelection a0_size a0_caret a0_from a0_marksF = some r) : q_M D cs yX0_removeSelection cX0_removeSelection 1 none 2 40 [.ref a0] [(a0, .inr (0, [.ref a0_marks, .int (iI a0_size), .int (iI a0_caret), .int (iI a0_from)])), (a0_marks, .inl (cs.1, 180, .inl (aI a0_marksF)))] none [(a0, .inr (0, [.ref a0_marks, .int (iI r.1), .int (iI r.2.1), .int (iI r.2.2.1)])), (a0_marks, .inl (cs.1, 180, .inl (aI r.2.2.2)))] := by
  refine q_start_v [(0, .ref a0)] RX0 rfl (by decide +kernel) rfl (Nat.le_of_ble_eq_true rfl) (fun κ ok fin => ?_)
  unfold f_X0_removeSelection at h
  refine j_aload_n (pc := 0) 0 ok dX0_removeSelection_0 rfl rfl ?_
  refine j_aload_n (pc := 1) 0 ok dX0_removeSelection_1 rfl rfl ?_
  refine gf_X0_22_0 (pc := 2) 0 ok rfl dX0_removeSelection_2 ?_
  refine j_aload_n (pc := 5) 0 ok dX0_removeSelection_5 rfl rfl ?_
  refine gf_X0_19_0 (pc := 6) 0 ok rfl dX0_removeSelection_6 ?_
  obtain ⟨r1, hr1, h⟩ := bd_inv h
  refine j_callU (pc := 9) ok (k_X3_remove (a0 := a0) (a0_marks := a0_marks) (a0_ci := 0) (a0_fx := [.int (iI a0_caret), .int (iI a0_from)]) (a0_marksN := 180) (a0_size := a0_size) (a0_marksF := a0_marksF) (x1 := a0_from) (x2 := a0_caret) (q_mk0 _ _) hr1) gU_X0_109 rfl hd_X3_remove [0, 1] (by decide) rfl rfl 0 rfl rfl rfl rfl ⟨Nat.zero_le _, Nat.zero_le _⟩ (Nat.le_of_ble_eq_true rfl) dX0_removeSelection_9 rfl [(a0, .inr (0, [.ref a0_marks, .int (iI r1.1), .int (iI a0_caret), .int (iI a0_from)])), (a0_marks, .inl (cs.1, 180, .inl (aI r1.2)))] rfl ?_
  refine j_aload_n (pc := 12) 0 ok dX0_removeSelection_12 rfl rfl ?_
  refine j_aload_n (pc := 13) 0 ok dX0_removeSelection_13 rfl rfl ?_
  refine gf_X0_22_0 (pc := 14) 0 ok rfl dX0_removeSelection_14 ?_
  obtain ⟨r2, hr2, h⟩ := bd_inv h
  refine j_callV (pc := 17) ok (k_X0_putCaret (a0 := a0) (a0_marks := a0_marks) (a0_size := r1.1) (a0_caret := a0_caret) (a0_from := a0_from) (x1 := a0_from) hr2) gV_X0_40 ⟨rfl, hd_X0_putCaret⟩ [0] (by decide) rfl rfl 0 rfl rfl rfl rfl ⟨Nat.zero_le _, Nat.zero_le _⟩ (Nat.le_of_ble_eq_true rfl) dX0_removeSelection_17 rfl [(a0, .inr (0, [.ref a0_marks, .int (iI r1.1), .int (iI r2.1), .int (iI r2.2)])), (a0_marks, .inl (cs.1, 180, .inl (aI r1.2)))] rfl ?_
  obtain rfl := Option.some.inj h
  exact fin _ 20 dX0_removeSelection_20
def f_X3_insert (a0_marksN : Nat) (a0_size : Int) (a0_marksF : (Nat → Int)) (x1 : Int) (x2 : Int) : Option (Int × (Nat → Int)) := jn (fun (z2 : Int × (Nat → Int)) => some (z2.1, z2.2)) (fun k1 => cLt x1 0 (k1 (a0_size, a0_marksF)) (cLt a0_size x1 (k1 (a0_size, a0_marksF)) (cLt a0_size ((a0_marksN : Int)) (gC x1 (x1 + 1) (a0_size - x1) a0_marksN a0_marksN (gIn x1 a0_marksN (k1 (a0_size + 1, va_up (va_cpy a0_marksF a0_marksF x1.toNat (x1 + 1).toNat (a0_size - x1).toNat) x1.toNat x2)))) (k1 (a0_size, a0_marksF)))))
set_option maxRecDepth 100000 in
set_option maxHeartbeats 4000000 in
theorem k_X3_insert {D : va_G} {cs : q_CS} {a0 a0_marks : Nat} {a0_marksN : Nat} {a0_ci : Nat} {a0_fx : List Value} {a0_size : Int} {a0_marksF : (Nat → Int)} {x1 x2 : Int} {r : (Int × (Nat → Int))} (ha0 : q_mk a0_ci a0_fx) (h : f_X3_insert a0_marksN a0_size a0_marksF x1 x2 = some r) : q_M D cs yX3_insert cX3_insert 3 none 1 18 [.ref a0, .int (iI x1), .int (iI x2)] [(a0, .inr (a0_ci, .ref a0_marks :: .int (iI a0_size) :: a0_fx)), (a0_marks, .inl (cs.1, a0_marksN, .inl (aI a0_marksF)))] none [(a0, .inr (a0_ci, .ref a0_marks :: .int (iI r.1) :: a0_fx)), (a0_marks, .inl (cs.1, a0_marksN, .inl (aI r.2)))] := by
  refine q_start_v [(0, .ref a0), (1, .int (iI x1)), (2, .int (iI x2))] RX3 rfl (by decide +kernel) rfl (Nat.le_of_ble_eq_true rfl) (fun κ ok fin => ?_)
  unfold f_X3_insert at h
  refine j_iload_n (pc := 0) 1 ok dX3_insert_0 rfl rfl ?_
  refine jn_use (P := fun z2 => q_J D κ 3 0 0 [(a0, .inr (a0_ci, .ref a0_marks :: .int (iI z2.1) :: a0_fx)), (a0_marks, .inl (cs.1, a0_marksN, .inl (aI z2.2)))] [] 62 []) h (fun z2 h => ?_) (fun k1 hk1 h => ?_)
  · obtain rfl := Option.some.inj h
    exact fin _ 62 dX3_insert_62
  · refine j_if_lt (pc := 1) 62 ok dX3_insert_1 (by decide) h (fun h => ?_) (fun h => ?_)
    · refine j_lv [] rfl ?_
      exact hk1 (a0_size, a0_marksF) h
    · refine j_iload_n (pc := 4) 1 ok dX3_insert_4 rfl rfl ?_
      refine j_aload_n (pc := 5) 0 ok dX3_insert_5 rfl rfl ?_
      refine gm_X3_21 (pc := 6) 0 ok ha0 rfl dX3_insert_6 ?_
      refine j_icmp_gt (pc := 9) 62 ok dX3_insert_9 (by decide) h (fun h => ?_) (fun h => ?_)
      · refine j_lv [] rfl ?_
        exact hk1 (a0_size, a0_marksF) h
      · refine j_aload_n (pc := 12) 0 ok dX3_insert_12 rfl rfl ?_
        refine gm_X3_21 (pc := 13) 0 ok ha0 rfl dX3_insert_13 ?_
        refine j_aload_n (pc := 16) 0 ok dX3_insert_16 rfl rfl ?_
        refine gm_X3_15 (pc := 17) 0 ok ha0 rfl dX3_insert_17 ?_
        refine j_alen (pc := 20) 1 0 ok rfl rfl dX3_insert_20 ?_
        refine j_icmp_ge (pc := 21) 62 ok dX3_insert_21 (by decide) h (fun h => ?_) (fun h => ?_)
        · refine j_lv [] rfl ?_
          exact hk1 (a0_size, a0_marksF) h
        · refine j_aload_n (pc := 24) 0 ok dX3_insert_24 rfl rfl ?_
          refine gm_X3_15 (pc := 25) 0 ok ha0 rfl dX3_insert_25 ?_
          refine j_iload_n (pc := 28) 1 ok dX3_insert_28 rfl rfl ?_
          refine j_aload_n (pc := 29) 0 ok dX3_insert_29 rfl rfl ?_
          refine gm_X3_15 (pc := 30) 0 ok ha0 rfl dX3_insert_30 ?_
          refine j_iload_n (pc := 33) 1 ok dX3_insert_33 rfl rfl ?_
          refine j_iconst (pc := 34) ok dX3_insert_34 ?_
          refine j_iadd (pc := 35) ok dX3_insert_35 ?_
          refine j_aload_n (pc := 36) 0 ok dX3_insert_36 rfl rfl ?_
          refine gm_X3_21 (pc := 37) 0 ok ha0 rfl dX3_insert_37 ?_
          refine j_iload_n (pc := 40) 1 ok dX3_insert_40 rfl rfl ?_
          refine j_isub (pc := 41) ok dX3_insert_41 ?_
          refine j_copyw (pc := 42) 1 1 ok rfl rfl (q_in 339 (by decide +kernel) (by decide +kernel)) (q_in 341 (by decide +kernel) (by decide +kernel)) (q_in 340 (by decide +kernel) (by decide +kernel)) (q_in 55 (by decide +kernel) (by decide +kernel)) (by decide) (by decide) dX3_insert_42 h [(a0, .inr (a0_ci, .ref a0_marks :: .int (iI a0_size) :: a0_fx)), (a0_marks, .inl (cs.1, a0_marksN, .inl (aI (va_cpy a0_marksF a0_marksF x1.toNat (x1 + 1).toNat (a0_size - x1).toNat))))] rfl (fun h => ?_)
          refine j_aload_n (pc := 45) 0 ok dX3_insert_45 rfl rfl ?_
          refine gm_X3_15 (pc := 46) 0 ok ha0 rfl dX3_insert_46 ?_
          refine j_iload_n (pc := 49) 1 ok dX3_insert_49 rfl rfl ?_
          refine j_iload_n (pc := 50) 2 ok dX3_insert_50 rfl rfl ?_
          refine j_iastw (pc := 51) 1 ok rfl dX3_insert_51 h [(a0, .inr (a0_ci, .ref a0_marks :: .int (iI a0_size) :: a0_fx)), (a0_marks, .inl (cs.1, a0_marksN, .inl (aI (va_up (va_cpy a0_marksF a0_marksF x1.toNat (x1 + 1).toNat (a0_size - x1).toNat) x1.toNat x2))))] rfl (fun h => ?_)
          refine j_aload_n (pc := 52) 0 ok dX3_insert_52 rfl rfl ?_
          refine j_dup (pc := 53) ok dX3_insert_53 rfl ?_
          refine gm_X3_21 (pc := 54) 0 ok ha0 rfl dX3_insert_54 ?_
          refine j_iconst (pc := 57) ok dX3_insert_57 ?_
          refine j_iadd (pc := 58) ok dX3_insert_58 ?_
          refine pm_X3_21 (pc := 59) 0 ok ha0 rfl dX3_insert_59 [(a0, .inr (a0_ci, .ref a0_marks :: .int (iI (a0_size + 1)) :: a0_fx)), (a0_marks, .inl (cs.1, a0_marksN, .inl (aI (va_up (va_cpy a0_marksF a0_marksF x1.toNat (x1 + 1).toNat (a0_size - x1).toNat) x1.toNat x2))))] rfl ?_
          refine j_lv [] rfl ?_
          exact hk1 (a0_size + 1, va_up (va_cpy a0_marksF a0_marksF x1.toNat (x1 + 1).toNat (a0_size - x1).toNat) x1.toNat x2) h
def f_X0_putSymbol (a0_size : Int) (a0_caret : Int) (a0_from : Int) (a0_marksF : (Nat → Int)) (x1 : Int) : Option (Int × Int × Int × (Nat → Int)) := bd (f_X0_removeSelection a0_size a0_caret a0_from a0_marksF) (fun r1 => bd (f_X3_insert 180 r1.1 r1.2.2.2 r1.2.1 x1) (fun r2 => bd (f_X0_putCaret r1.2.1 r1.2.2.1 (r1.2.1 + 1)) (fun r3 => some (r2.1, r3.1, r3.2, r2.2))))
set_option maxRecDepth 100000 in
set_option maxHeartbeats 4000000 in
theorem k_X0_putSymbol {D : va_G} {cs : q_CS} {a0 a0_marks : Nat} {a0_size a0_caret a0_from : Int} {a0_marksF : (Nat → Int)} {x1 : Int} {r : (Int × Int × Int × (Nat → Int))} (h : f_X0_putSymbol a0_size a0_caret a0_from a0_marksF x1 = some r) : q_M D cs yX0_putSymbol cX0_putSymbol 2 none 3 60 [.ref a0, .int (iI x1)] [(a0, .inr (0, [.ref a0_marks, .int (iI a0_size), .int (iI a0_caret), .int (iI a0_from)])), (a0_marks, .inl (cs.1, 180, .inl (aI a0_marksF)))] none [(a0, .inr (0, [.ref a0_marks, .int (iI r.1), .int (iI r.2.1), .int (iI r.2.2.1)])), (a0_marks, .inl (cs.1, 180, .inl (aI r.2.2.2)))] := by
  refine q_start_v [(0, .ref a0), (1, .int (iI x1))] RX0 rfl (by decide +kernel) rfl (Nat.le_of_ble_eq_true rfl) (fun κ ok fin => ?_)
  unfold f_X0_putSymbol at h
  refine j_aload_n (pc := 0) 0 ok dX0_putSymbol_0 rfl rfl ?_
  obtain ⟨r1, hr1, h⟩ := bd_inv h
  refine j_callV (pc := 1) ok (k_X0_removeSelection (a0 := a0) (a0_marks := a0_marks) (a0_size := a0_size) (a0_caret := a0_caret) (a0_from := a0_from) (a0_marksF := a0_marksF) hr1) gV_X0_112 ⟨rfl, hd_X0_removeSelection⟩ [0, 1] (by decide) rfl rfl 0 rfl rfl rfl rfl ⟨Nat.zero_le _, Nat.zero_le _⟩ (Nat.le_of_ble_eq_true rfl) dX0_putSymbol_1 rfl [(a0, .inr (0, [.ref a0_marks, .int (iI r1.1), .int (iI r1.2.1), .int (iI r1.2.2.1)])), (a0_marks, .inl (cs.1, 180, .inl (aI r1.2.2.2)))] rfl ?_
  refine j_aload_n (pc := 4) 0 ok dX0_putSymbol_4 rfl rfl ?_
  refine j_aload_n (pc := 5) 0 ok dX0_putSymbol_5 rfl rfl ?_
  refine gf_X0_19_0 (pc := 6) 0 ok rfl dX0_putSymbol_6 ?_
  refine j_iload_n (pc := 9) 1 ok dX0_putSymbol_9 rfl rfl ?_
  obtain ⟨r2, hr2, h⟩ := bd_inv h
  refine j_callU (pc := 10) ok (k_X3_insert (a0 := a0) (a0_marks := a0_marks) (a0_ci := 0) (a0_fx := [.int (iI r1.2.1), .int (iI r1.2.2.1)]) (a0_marksN := 180) (a0_size := r1.1) (a0_marksF := r1.2.2.2) (x1 := r1.2.1) (x2 := x1) (q_mk0 _ _) hr2) gU_X0_116 rfl hd_X3_insert [0, 1] (by decide) rfl rfl 0 rfl rfl rfl rfl ⟨Nat.zero_le _, Nat.zero_le _⟩ (Nat.le_of_ble_eq_true rfl) dX0_putSymbol_10 rfl [(a0, .inr (0, [.ref a0_marks, .int (iI r2.1), .int (iI r1.2.1), .int (iI r1.2.2.1)])), (a0_marks, .inl (cs.1, 180, .inl (aI r2.2)))] rfl ?_
  refine j_aload_n (pc := 13) 0 ok dX0_putSymbol_13 rfl rfl ?_
  refine j_aload_n (pc := 14) 0 ok dX0_putSymbol_14 rfl rfl ?_
  refine gf_X0_19_0 (pc := 15) 0 ok rfl dX0_putSymbol_15 ?_
  refine j_iconst (pc := 18) ok dX0_putSymbol_18 ?_
  refine j_iadd (pc := 19) ok dX0_putSymbol_19 ?_
  obtain ⟨r3, hr3, h⟩ := bd_inv h
  refine j_callV (pc := 20) ok (k_X0_putCaret (a0 := a0) (a0_marks := a0_marks) (a0_size := r2.1) (a0_caret := r1.2.1) (a0_from := r1.2.2.1) (x1 := r1.2.1 + 1) hr3) gV_X0_40 ⟨rfl, hd_X0_putCaret⟩ [0] (by decide) rfl rfl 0 rfl rfl rfl rfl ⟨Nat.zero_le _, Nat.zero_le _⟩ (Nat.le_of_ble_eq_true rfl) dX0_putSymbol_20 rfl [(a0, .inr (0, [.ref a0_marks, .int (iI r2.1), .int (iI r3.1), .int (iI r3.2)])), (a0_marks, .inl (cs.1, 180, .inl (aI r2.2)))] rfl ?_
  obtain rfl := Option.some.inj h
  exact fin _ 23 dX0_putSymbol_23
def f_X3_insertAll (a0_marksN : Nat) (a2_marksN : Nat) (a0_size : Int) (a0_marksF : (Nat → Int)) (a2_size : Int) (a2_marksF : (Nat → Int)) (x1 : Int) : Option (Int × (Nat → Int)) := jn (fun (z4 : Int) => jn (fun (z6 : Int × (Nat → Int)) => some (z6.1, z6.2)) (fun k5 => cEq z4 0 (k5 (a0_size, a0_marksF)) (cLt ((a2_marksN : Int)) a2_size (k5 (a0_size, a0_marksF)) (cLt (((a0_marksN : Int)) - a0_size) a2_size (k5 (a0_size, a0_marksF)) (gC x1 (x1 + a2_size) (a0_size - x1) a0_marksN a0_marksN (gC 0 x1 a2_size a2_marksN a0_marksN (k5 (a0_size + a2_size, va_cpy a2_marksF (va_cpy a0_marksF a0_marksF x1.toNat (x1 + a2_size).toNat (a0_size - x1).toNat) (0 : Int).toNat x1.toNat a2_size.toNat)))))))) (fun k2 => jn (fun (z3 : Unit) => k2 0) (fun k1 => cLt x1 0 (k1 ()) (cLt a0_size x1 (k1 ()) (k2 1))))
set_option maxRecDepth 100000 in
set_option maxHeartbeats 4000000 in
theorem k_X3_insertAll {D : va_G} {cs : q_CS} {a0 a0_marks a2 a2_marks : Nat} {a0_marksN a2_marksN : Nat} {a0_ci : Nat} {a0_fx : List Value} {a2_ci : Nat} {a2_fx : List Value} {a0_size a2_size : Int} {a0_marksF a2_marksF : (Nat → Int)} {x1 : Int} {r : (Int × (Nat → Int))} (ha0 : q_mk a0_ci a0_fx) (ha2 : q_mk a2_ci a2_fx) (h : f_X3_insertAll a0_marksN a2_marksN a0_size a0_marksF a2_size a2_marksF x1 = some r) : q_M D cs yX3_insertAll cX3_insertAll 5 none 1 18 [.ref a0, .int (iI x1), .ref a2] [(a0, .inr (a0_ci, .ref a0_marks :: .int (iI a0_size) :: a0_fx)), (a0_marks, .inl (cs.1, a0_marksN, .inl (aI a0_marksF))), (a2, .inr (a2_ci, .ref a2_marks :: .int (iI a2_size) :: a2_fx)), (a2_marks, .inl (cs.1, a2_marksN, .inl (aI a2_marksF)))] none [(a0, .inr (a0_ci, .ref a0_marks :: .int (iI r.1) :: a0_fx)), (a0_marks, .inl (cs.1, a0_marksN, .inl (aI r.2))), (a2, .inr (a2_ci, .ref a2_marks :: .int (iI a2_size) :: a2_fx)), (a2_marks, .inl (cs.1, a2_marksN, .inl (aI a2_marksF)))] := by
  refine q_start_v [(0, .ref a0), (1, .int (iI x1)), (2, .ref a2)] RX3 rfl (by decide +kernel) rfl (Nat.le_of_ble_eq_true rfl) (fun κ ok fin => ?_)
  unfold f_X3_insertAll at h
  refine j_aload_n (pc := 0) 2 ok dX3_insertAll_0 rfl rfl ?_
  refine gm_X3_21 (pc := 1) 2 ok ha2 rfl dX3_insertAll_1 ?_
  refine j_istore_n (pc := 4) (lv' := [(3, .int (iI a2_size)), (0, .ref a0), (1, .int (iI x1)), (2, .ref a2)]) ok dX3_insertAll_4 rfl (by decide) rfl ?_
  refine j_iload_n (pc := 5) 2 ok dX3_insertAll_5 rfl rfl ?_
  refine jn_use (P := fun z4 => q_J D κ 5 0 0 [(a0, .inr (a0_ci, .ref a0_marks :: .int (iI a0_size) :: a0_fx)), (a0_marks, .inl (cs.1, a0_marksN, .inl (aI a0_marksF))), (a2, .inr (a2_ci, .ref a2_marks :: .int (iI a2_size) :: a2_fx)), (a2_marks, .inl (cs.1, a2_marksN, .inl (aI a2_marksF)))] [(0, .ref a0), (1, .int (iI x1)), (2, .ref a2), (3, .int (iI a2_size))] 22 [.int (iI z4)]) h (fun z4 h => ?_) (fun k2 hk2 h => ?_)
  · refine j_istore (pc := 22) (lv' := [(4, .int (iI z4)), (0, .ref a0), (1, .int (iI x1)), (2, .ref a2), (3, .int (iI a2_size))]) ok dX3_insertAll_22 (by decide) rfl ?_
    refine j_iload (pc := 24) 0 ok dX3_insertAll_24 rfl ?_
    refine jn_use (P := fun z6 => q_J D κ 5 0 0 [(a0, .inr (a0_ci, .ref a0_marks :: .int (iI z6.1) :: a0_fx)), (a0_marks, .inl (cs.1, a0_marksN, .inl (aI z6.2))), (a2, .inr (a2_ci, .ref a2_marks :: .int (iI a2_size) :: a2_fx)), (a2_marks, .inl (cs.1, a2_marksN, .inl (aI a2_marksF)))] [] 97 []) h (fun z6 h => ?_) (fun k5 hk5 h => ?_)
    · obtain rfl := Option.some.inj h
      exact fin _ 97 dX3_insertAll_97
    · refine j_if_eq (pc := 26) 97 ok dX3_insertAll_26 (by decide) h (fun h => ?_) (fun h => ?_)
      · refine j_lv [] rfl ?_
        exact hk5 (a0_size, a0_marksF) h
      · refine j_iload_n (pc := 29) 4 ok dX3_insertAll_29 rfl rfl ?_
        refine j_aload_n (pc := 30) 3 ok dX3_insertAll_30 rfl rfl ?_
        refine gm_X3_15 (pc := 31) 2 ok ha2 rfl dX3_insertAll_31 ?_
        refine j_alen (pc := 34) 3 0 ok rfl rfl dX3_insertAll_34 ?_
        refine j_icmp_gt (pc := 35) 97 ok dX3_insertAll_35 (by decide) h (fun h => ?_) (fun h => ?_)
        · refine j_lv [] rfl ?_
          exact hk5 (a0_size, a0_marksF) h
        · refine j_iload_n (pc := 38) 4 ok dX3_insertAll_38 rfl rfl ?_
          refine j_aload_n (pc := 39) 1 ok dX3_insertAll_39 rfl rfl ?_
          refine gm_X3_15 (pc := 40) 0 ok ha0 rfl dX3_insertAll_40 ?_
          refine j_alen (pc := 43) 1 0 ok rfl rfl dX3_insertAll_43 ?_
          refine j_aload_n (pc := 44) 1 ok dX3_insertAll_44 rfl rfl ?_
          refine gm_X3_21 (pc := 45) 0 ok ha0 rfl dX3_insertAll_45 ?_
          refine j_isub (pc := 48) ok dX3_insertAll_48 ?_
          refine j_icmp_gt (pc := 49) 97 ok dX3_insertAll_49 (by decide) h (fun h => ?_) (fun h => ?_)
          · refine j_lv [] rfl ?_
            exact hk5 (a0_size, a0_marksF) h
          · refine j_aload_n (pc := 52) 1 ok dX3_insertAll_52 rfl rfl ?_
            refine gm_X3_15 (pc := 53) 0 ok ha0 rfl dX3_insertAll_53 ?_
            refine j_iload_n (pc := 56) 2 ok dX3_insertAll_56 rfl rfl ?_
            refine j_aload_n (pc := 57) 1 ok dX3_insertAll_57 rfl rfl ?_
            refine gm_X3_15 (pc := 58) 0 ok ha0 rfl dX3_insertAll_58 ?_
            refine j_iload_n (pc := 61) 2 ok dX3_insertAll_61 rfl rfl ?_
            refine j_iload_n (pc := 62) 4 ok dX3_insertAll_62 rfl rfl ?_
            refine j_iadd (pc := 63) ok dX3_insertAll_63 ?_
            refine j_aload_n (pc := 64) 1 ok dX3_insertAll_64 rfl rfl ?_
            refine gm_X3_21 (pc := 65) 0 ok ha0 rfl dX3_insertAll_65 ?_
            refine j_iload_n (pc := 68) 2 ok dX3_insertAll_68 rfl rfl ?_
            refine j_isub (pc := 69) ok dX3_insertAll_69 ?_
            refine j_copyw (pc := 70) 1 1 ok rfl rfl (q_in 339 (by decide +kernel) (by decide +kernel)) (q_in 341 (by decide +kernel) (by decide +kernel)) (q_in 340 (by decide +kernel) (by decide +kernel)) (q_in 55 (by decide +kernel) (by decide +kernel)) (by decide) (by decide) dX3_insertAll_70 h [(a0, .inr (a0_ci, .ref a0_marks :: .int (iI a0_size) :: a0_fx)), (a0_marks, .inl (cs.1, a0_marksN, .inl (aI (va_cpy a0_marksF a0_marksF x1.toNat (x1 + a2_size).toNat (a0_size - x1).toNat)))), (a2, .inr (a2_ci, .ref a2_marks :: .int (iI a2_size) :: a2_fx)), (a2_marks, .inl (cs.1, a2_marksN, .inl (aI a2_marksF)))] rfl (fun h => ?_)
            refine j_aload_n (pc := 73) 3 ok dX3_insertAll_73 rfl rfl ?_
            refine gm_X3_15 (pc := 74) 2 ok ha2 rfl dX3_insertAll_74 ?_
            refine j_iconst (pc := 77) ok dX3_insertAll_77 ?_
            refine j_aload_n (pc := 78) 1 ok dX3_insertAll_78 rfl rfl ?_
            refine gm_X3_15 (pc := 79) 0 ok ha0 rfl dX3_insertAll_79 ?_
            refine j_iload_n (pc := 82) 2 ok dX3_insertAll_82 rfl rfl ?_
            refine j_iload_n (pc := 83) 4 ok dX3_insertAll_83 rfl rfl ?_
            refine j_copyw (pc := 84) 3 1 ok rfl rfl (q_in 339 (by decide +kernel) (by decide +kernel)) (q_in 341 (by decide +kernel) (by decide +kernel)) (q_in 340 (by decide +kernel) (by decide +kernel)) (q_in 55 (by decide +kernel) (by decide +kernel)) (by decide) (by decide) dX3_insertAll_84 h [(a0, .inr (a0_ci, .ref a0_marks :: .int (iI a0_size) :: a0_fx)), (a0_marks, .inl (cs.1, a0_marksN, .inl (aI (va_cpy a2_marksF (va_cpy a0_marksF a0_marksF x1.toNat (x1 + a2_size).toNat (a0_size - x1).toNat) (0 : Int).toNat x1.toNat a2_size.toNat)))), (a2, .inr (a2_ci, .ref a2_marks :: .int (iI a2_size) :: a2_fx)), (a2_marks, .inl (cs.1, a2_marksN, .inl (aI a2_marksF)))] rfl (fun h => ?_)
            refine j_aload_n (pc := 87) 1 ok dX3_insertAll_87 rfl rfl ?_
            refine j_dup (pc := 88) ok dX3_insertAll_88 rfl ?_
            refine gm_X3_21 (pc := 89) 0 ok ha0 rfl dX3_insertAll_89 ?_
            refine j_iload_n (pc := 92) 4 ok dX3_insertAll_92 rfl rfl ?_
            refine j_iadd (pc := 93) ok dX3_insertAll_93 ?_
            refine pm_X3_21 (pc := 94) 0 ok ha0 rfl dX3_insertAll_94 [(a0, .inr (a0_ci, .ref a0_marks :: .int (iI (a0_size + a2_size)) :: a0_fx)), (a0_marks, .inl (cs.1, a0_marksN, .inl (aI (va_cpy a2_marksF (va_cpy a0_marksF a0_marksF x1.toNat (x1 + a2_size).toNat (a0_size - x1).toNat) (0 : Int).toNat x1.toNat a2_size.toNat)))), (a2, .inr (a2_ci, .ref a2_marks :: .int (iI a2_size) :: a2_fx)), (a2_marks, .inl (cs.1, a2_marksN, .inl (aI a2_marksF)))] rfl ?_
            refine j_lv [] rfl ?_
            exact hk5 (a0_size + a2_size, va_cpy a2_marksF (va_cpy a0_marksF a0_marksF x1.toNat (x1 + a2_size).toNat (a0_size - x1).toNat) (0 : Int).toNat x1.toNat a2_size.toNat) h
  · refine jn_use (P := fun z3 => q_J D κ 5 0 0 [(a0, .inr (a0_ci, .ref a0_marks :: .int (iI a0_size) :: a0_fx)), (a0_marks, .inl (cs.1, a0_marksN, .inl (aI a0_marksF))), (a2, .inr (a2_ci, .ref a2_marks :: .int (iI a2_size) :: a2_fx)), (a2_marks, .inl (cs.1, a2_marksN, .inl (aI a2_marksF)))] [(0, .ref a0), (1, .int (iI x1)), (2, .ref a2), (3, .int (iI a2_size))] 21 []) h (fun z3 h => ?_) (fun k1 hk1 h => ?_)
    · refine j_iconst (pc := 21) ok dX3_insertAll_21 ?_
      exact hk2 0 h
    · refine j_if_lt (pc := 6) 21 ok dX3_insertAll_6 (by decide) h (fun h => ?_) (fun h => ?_)
      · refine j_lv [1, 2, 3, 0] rfl ?_
        exact hk1 () h
      · refine j_iload_n (pc := 9) 2 ok dX3_insertAll_9 rfl rfl ?_
        refine j_aload_n (pc := 10) 1 ok dX3_insertAll_10 rfl rfl ?_
        refine gm_X3_21 (pc := 11) 0 ok ha0 rfl dX3_insertAll_11 ?_
        refine j_icmp_gt (pc := 14) 21 ok dX3_insertAll_14 (by decide) h (fun h => ?_) (fun h => ?_)
        · refine j_lv [1, 2, 3, 0] rfl ?_
          exact hk1 () h
        · refine j_iconst (pc := 17) ok dX3_insertAll_17 ?_
          refine j_goto (pc := 18) 22 ok dX3_insertAll_18 (by decide) ?_
          refine j_lv [1, 2, 3, 0] rfl ?_
          exact hk2 1 h
def f_X0_putAll (a1_marksN : Nat) (a0_size : Int) (a0_caret : Int) (a0_from : Int) (a0_marksF : (Nat → Int)) (a1_size : Int) (a1_marksF : (Nat → Int)) : Option (Int × Int × Int × (Nat → Int)) := bd (f_X0_removeSelection a0_size a0_caret a0_from a0_marksF) (fun r1 => bd (f_X3_insertAll 180 a1_marksN r1.1 r1.2.2.2 a1_size a1_marksF r1.2.1) (fun r2 => bd (f_X0_putCaret r1.2.1 r1.2.2.1 (r1.2.1 + a1_size)) (fun r3 => some (r2.1, r3.1, r3.2, r2.2))))
set_option maxRecDepth 100000 in
set_option maxHeartbeats 4000000 in
theorem k_X0_putAll {D : va_G} {cs : q_CS} {a0 a0_marks a1 a1_marks : Nat} {a1_marksN : Nat} {a1_ci : Nat} {a1_fx : List Value} {a0_size a0_caret a0_from a1_size : Int} {a0_marksF a1_marksF : (Nat → Int)} {r : (Int × Int × Int × (Nat → Int))} (ha1 : q_mk a1_ci a1_fx) (h : f_X0_putAll a1_marksN a0_size a0_caret a0_from a0_marksF a1_size a1_marksF = some r) : q_M D cs yX0_putAll cX0_putAll 2 none 3 60 [.ref a0, .ref a1] [(a0, .inr (0, [.ref a0_marks, .int (iI a0_size), .int (iI a0_caret), .int (iI a0_from)])), (a0_marks, .inl (cs.1, 180, .inl (aI a0_marksF))), (a1, .inr (a1_ci, .ref a1_marks :: .int (iI a1_size) :: a1_fx)), (a1_marks, .inl (cs.1, a1_marksN, .inl (aI a1_marksF)))] none [(a0, .inr (0, [.ref a0_marks, .int (iI r.1), .int (iI r.2.1), .int (iI r.2.2.1)])), (a0_marks, .inl (cs.1, 180, .inl (aI r.2.2.2))), (a1, .inr (a1_ci, .ref a1_marks :: .int (iI a1_size) :: a1_fx)), (a1_marks, .inl (cs.1, a1_marksN, .inl (aI a1_marksF)))] := by
  refine q_start_v [(0, .ref a0), (1, .ref a1)] RX0 rfl (by decide +kernel) rfl (Nat.le_of_ble_eq_true rfl) (fun κ ok fin => ?_)
  unfold f_X0_putAll at h
  refine j_aload_n (pc := 0) 0 ok dX0_putAll_0 rfl rfl ?_
  obtain ⟨r1, hr1, h⟩ := bd_inv h
  refine j_callV (pc := 1) ok (k_X0_removeSelection (a0 := a0) (a0_marks := a0_marks) (a0_size := a0_size) (a0_caret := a0_caret) (a0_from := a0_from) (a0_marksF := a0_marksF) hr1) gV_X0_112 ⟨rfl, hd_X0_removeSelection⟩ [0, 1] (by decide) rfl rfl 0 rfl rfl rfl rfl ⟨Nat.zero_le _, Nat.zero_le _⟩ (Nat.le_of_ble_eq_true rfl) dX0_putAll_1 rfl [(a0, .inr (0, [.ref a0_marks, .int (iI r1.1), .int (iI r1.2.1), .int (iI r1.2.2.1)])), (a0_marks, .inl (cs.1, 180, .inl (aI r1.2.2.2))), (a1, .inr (a1_ci, .ref a1_marks :: .int (iI a1_size) :: a1_fx)), (a1_marks, .inl (cs.1, a1_marksN, .inl (aI a1_marksF)))] rfl ?_
  refine j_aload_n (pc := 4) 0 ok dX0_putAll_4 rfl rfl ?_
  refine j_aload_n (pc := 5) 0 ok dX0_putAll_5 rfl rfl ?_
  refine gf_X0_19_0 (pc := 6) 0 ok rfl dX0_putAll_6 ?_
  refine j_aload_n (pc := 9) 1 ok dX0_putAll_9 rfl rfl ?_
  obtain ⟨r2, hr2, h⟩ := bd_inv h
  refine j_callU (pc := 10) ok (k_X3_insertAll (a0 := a0) (a0_marks := a0_marks) (a0_ci := 0) (a0_fx := [.int (iI r1.2.1), .int (iI r1.2.2.1)]) (a0_marksN := 180) (a2 := a1) (a2_marks := a1_marks) (a2_ci := a1_ci) (a2_fx := a1_fx) (a2_marksN := a1_marksN) (a0_size := r1.1) (a0_marksF := r1.2.2.2) (a2_size := a1_size) (a2_marksF := a1_marksF) (x1 := r1.2.1) (q_mk0 _ _) ha1 hr2) gU_X0_119 rfl hd_X3_insertAll [0, 1, 2, 3] (by decide) rfl rfl 0 rfl rfl rfl rfl ⟨Nat.zero_le _, Nat.zero_le _⟩ (Nat.le_of_ble_eq_true rfl) dX0_putAll_10 rfl [(a0, .inr (0, [.ref a0_marks, .int (iI r2.1), .int (iI r1.2.1), .int (iI r1.2.2.1)])), (a0_marks, .inl (cs.1, 180, .inl (aI r2.2))), (a1, .inr (a1_ci, .ref a1_marks :: .int (iI a1_size) :: a1_fx)), (a1_marks, .inl (cs.1, a1_marksN, .inl (aI a1_marksF)))] rfl ?_
  refine j_aload_n (pc := 13) 0 ok dX0_putAll_13 rfl rfl ?_
  refine j_aload_n (pc := 14) 0 ok dX0_putAll_14 rfl rfl ?_
  refine gf_X0_19_0 (pc := 15) 0 ok rfl dX0_putAll_15 ?_
  refine j_aload_n (pc := 18) 1 ok dX0_putAll_18 rfl rfl ?_
  refine gm_X0_107 (pc := 19) 2 ok ha1 rfl dX0_putAll_19 ?_
  refine j_iadd (pc := 22) ok dX0_putAll_22 ?_
  obtain ⟨r3, hr3, h⟩ := bd_inv h
  refine j_callV (pc := 23) ok (k_X0_putCaret (a0 := a0) (a0_marks := a0_marks) (a0_size := r2.1) (a0_caret := r1.2.1) (a0_from := r1.2.2.1) (x1 := r1.2.1 + a1_size) hr3) gV_X0_40 ⟨rfl, hd_X0_putCaret⟩ [0] (by decide) rfl rfl 0 rfl rfl rfl rfl ⟨Nat.zero_le _, Nat.zero_le _⟩ (Nat.le_of_ble_eq_true rfl) dX0_putAll_23 rfl [(a0, .inr (0, [.ref a0_marks, .int (iI r2.1), .int (iI r3.1), .int (iI r3.2)])), (a0_marks, .inl (cs.1, 180, .inl (aI r2.2))), (a1, .inr (a1_ci, .ref a1_marks :: .int (iI a1_size) :: a1_fx)), (a1_marks, .inl (cs.1, a1_marksN, .inl (aI a1_marksF)))] rfl ?_
  obtain rfl := Option.some.inj h
  exact fin _ 26 dX0_putAll_26
def f_X0_enclose (a0_size : Int) (a0_caret : Int) (a0_from : Int) (a0_marksF : (Nat → Int)) (x1 : Int) : Option (Int × Int × Int × (Nat → Int)) := bd (f_X0_hasSelection a0_caret a0_from) (fun r1 => jn (fun (z3 : Int) => bd (f_X3_insert 180 a0_size a0_marksF a0_from x1) (fun r4 => jn (fun (z9 : Int × (Nat → Int)) => jn (fun (z11 : Int) => bd (f_X0_putCaret a0_caret a0_from z11) (fun r12 => some (z9.1, r12.1, r12.2, z9.2))) (fun k10 => cEq z3 0 (k10 ((a0_caret + 1) + 1)) (k10 (a0_from + 1)))) (fun k5 => cEq x1 1 (bd (f_X3_insert 180 r4.1 r4.2 (a0_caret + 1) 6) (fun r7 => bd (f_X3_insert 180 r7.1 r7.2 ((a0_caret + 1) + 1) (10 + x1)) (fun r8 => k5 (r8.1, r8.2)))) (bd (f_X3_insert 180 r4.1 r4.2 (a0_caret + 1) (10 + x1)) (fun r6 => k5 (r6.1, r6.2)))))) (fun k2 => cEq r1 0 (k2 1) (k2 0)))
set_option maxRecDepth 100000 in
set_option maxHeartbeats 4000000 in
theorem k_X0_enclose {D : va_G} {cs : q_CS} {a0 a0_marks : Nat} {a0_size a0_caret a0_from : Int} {a0_marksF : (Nat → Int)} {x1 : Int} {r : (Int × Int × Int × (Nat → Int))} (h : f_X0_enclose a0_size a0_caret a0_from a0_marksF x1 = some r) : q_M D cs yX0_enclose cX0_enclose 5 none 2 40 [.ref a0, .int (iI x1)] [(a0, .inr (0, [.ref a0_marks, .int (iI a0_size), .int (iI a0_caret), .int (iI a0_from)])), (a0_marks, .inl (cs.1, 180, .inl (aI a0_marksF)))] none [(a0, .inr (0, [.ref a0_marks, .int (iI r.1), .int (iI r.2.1), .int (iI r.2.2.1)])), (a0_marks, .inl (cs.1, 180, .inl (aI r.2.2.2)))] := by
  refine q_start_v [(0, .ref a0), (1, .int (iI x1))] RX0 rfl (by decide +kernel) rfl (Nat.le_of_ble_eq_true rfl) (fun κ ok fin => ?_)
  unfold f_X0_enclose at h
  refine j_aload_n (pc := 0) 0 ok dX0_enclose_0 rfl rfl ?_
  obtain ⟨r1, hr1, h⟩ := bd_inv h
  refine j_callV (pc := 1) ok (k_X0_hasSelection (a0 := a0) (a0_marks := a0_marks) (a0_size := a0_size) (a0_caret := a0_caret) (a0_from := a0_from) hr1) gV_X0_66 ⟨rfl, hd_X0_hasSelection⟩ [0] (by decide) rfl rfl 0 rfl rfl rfl rfl ⟨Nat.zero_le _, Nat.zero_le _⟩ (Nat.le_of_ble_eq_true rfl) dX0_enclose_1 rfl [(a0, .inr (0, [.ref a0_marks, .int (iI a0_size), .int (iI a0_caret), .int (iI a0_from)])), (a0_marks, .inl (cs.1, 180, .inl (aI a0_marksF)))] rfl ?_
  refine jn_use (P := fun z3 => q_J D κ 5 0 0 [(a0, .inr (0, [.ref a0_marks, .int (iI a0_size), .int (iI a0_caret), .int (iI a0_from)])), (a0_marks, .inl (cs.1, 180, .inl (aI a0_marksF)))] [(0, .ref a0), (1, .int (iI x1))] 12 [.int (iI z3)]) h (fun z3 h => ?_) (fun k2 hk2 h => ?_)
  · refine j_istore_n (pc := 12) (lv' := [(2, .int (iI z3)), (0, .ref a0), (1, .int (iI x1))]) ok dX0_enclose_12 rfl (by decide) rfl ?_
    refine j_aload_n (pc := 13) 1 ok dX0_enclose_13 rfl rfl ?_
    refine gf_X0_22_0 (pc := 14) 0 ok rfl dX0_enclose_14 ?_
    refine j_iconst (pc := 17) ok dX0_enclose_17 ?_
    refine j_iadd (pc := 18) ok dX0_enclose_18 ?_
    refine j_istore_n (pc := 19) (lv' := [(3, .int (iI (a0_from + 1))), (2, .int (iI z3)), (0, .ref a0), (1, .int (iI x1))]) ok dX0_enclose_19 rfl (by decide) rfl ?_
    refine j_aload_n (pc := 20) 2 ok dX0_enclose_20 rfl rfl ?_
    refine gf_X0_19_0 (pc := 21) 0 ok rfl dX0_enclose_21 ?_
    refine j_iconst (pc := 24) ok dX0_enclose_24 ?_
    refine j_iadd (pc := 25) ok dX0_enclose_25 ?_
    refine j_istore (pc := 26) (lv' := [(4, .int (iI (a0_caret + 1))), (3, .int (iI (a0_from + 1))), (2, .int (iI z3)), (0, .ref a0), (1, .int (iI x1))]) ok dX0_enclose_26 (by decide) rfl ?_
    refine j_aload_n (pc := 28) 3 ok dX0_enclose_28 rfl rfl ?_
    refine j_aload_n (pc := 29) 3 ok dX0_enclose_29 rfl rfl ?_
    refine gf_X0_22_0 (pc := 30) 0 ok rfl dX0_enclose_30 ?_
    refine j_iload_n (pc := 33) 4 ok dX0_enclose_33 rfl rfl ?_
    obtain ⟨r4, hr4, h⟩ := bd_inv h
    refine j_callU (pc := 34) ok (k_X3_insert (a0 := a0) (a0_marks := a0_marks) (a0_ci := 0) (a0_fx := [.int (iI a0_caret), .int (iI a0_from)]) (a0_marksN := 180) (a0_size := a0_size) (a0_marksF := a0_marksF) (x1 := a0_from) (x2 := x1) (q_mk0 _ _) hr4) gU_X0_116 rfl hd_X3_insert [0, 1] (by decide) rfl rfl 0 rfl rfl rfl rfl ⟨Nat.zero_le _, Nat.zero_le _⟩ (Nat.le_of_ble_eq_true rfl) dX0_enclose_34 rfl [(a0, .inr (0, [.ref a0_marks, .int (iI r4.1), .int (iI a0_caret), .int (iI a0_from)])), (a0_marks, .inl (cs.1, 180, .inl (aI r4.2)))] rfl ?_
    refine j_iload_n (pc := 37) 4 ok dX0_enclose_37 rfl rfl ?_
    refine j_iconst (pc := 38) ok dX0_enclose_38 ?_
    refine jn_use (P := fun z9 => q_J D κ 5 0 0 [(a0, .inr (0, [.ref a0_marks, .int (iI z9.1), .int (iI a0_caret), .int (iI a0_from)])), (a0_marks, .inl (cs.1, 180, .inl (aI z9.2)))] [(0, .ref a0), (2, .int (iI z3)), (3, .int (iI (a0_from + 1))), (4, .int (iI (a0_caret + 1)))] 75 []) h (fun z9 h => ?_) (fun k5 hk5 h => ?_)
    · refine j_aload_n (pc := 75) 0 ok dX0_enclose_75 rfl rfl ?_
      refine j_iload_n (pc := 76) 1 ok dX0_enclose_76 rfl rfl ?_
      refine jn_use (P := fun z11 => q_J D κ 5 0 0 [(a0, .inr (0, [.ref a0_marks, .int (iI z9.1), .int (iI a0_caret), .int (iI a0_from)])), (a0_marks, .inl (cs.1, 180, .inl (aI z9.2)))] [] 88 [.int (iI z11), .ref a0]) h (fun z11 h => ?_) (fun k10 hk10 h => ?_)
      · obtain ⟨r12, hr12, h⟩ := bd_inv h
        refine j_callV (pc := 88) ok (k_X0_putCaret (a0 := a0) (a0_marks := a0_marks) (a0_size := z9.1) (a0_caret := a0_caret) (a0_from := a0_from) (x1 := z11) hr12) gV_X0_40 ⟨rfl, hd_X0_putCaret⟩ [0] (by decide) rfl rfl 0 rfl rfl rfl rfl ⟨Nat.zero_le _, Nat.zero_le _⟩ (Nat.le_of_ble_eq_true rfl) dX0_enclose_88 rfl [(a0, .inr (0, [.ref a0_marks, .int (iI z9.1), .int (iI r12.1), .int (iI r12.2)])), (a0_marks, .inl (cs.1, 180, .inl (aI z9.2)))] rfl ?_
        obtain rfl := Option.some.inj h
        exact fin _ 91 dX0_enclose_91
      · refine j_if_eq (pc := 77) 84 ok dX0_enclose_77 (by decide) h (fun h => ?_) (fun h => ?_)
        · refine j_iload (pc := 84) 3 ok dX0_enclose_84 rfl ?_
          refine j_iconst (pc := 86) ok dX0_enclose_86 ?_
          refine j_iadd (pc := 87) ok dX0_enclose_87 ?_
          refine j_lv [] rfl ?_
          exact hk10 ((a0_caret + 1) + 1) h
        · refine j_iload_n (pc := 80) 2 ok dX0_enclose_80 rfl rfl ?_
          refine j_goto (pc := 81) 88 ok dX0_enclose_81 (by decide) ?_
          refine j_lv [] rfl ?_
          exact hk10 (a0_from + 1) h
    · refine j_icmp_ne (pc := 39) 65 ok dX0_enclose_39 (by decide) h (fun h => ?_) (fun h => ?_)
      · refine j_aload_n (pc := 65) 3 ok dX0_enclose_65 rfl rfl ?_
        refine j_iload (pc := 66) 0 ok dX0_enclose_66 rfl ?_
        refine j_bipush (pc := 68) ok dX0_enclose_68 (by decide) ?_
        refine j_iload_n (pc := 70) 4 ok dX0_enclose_70 rfl rfl ?_
        refine j_iadd (pc := 71) ok dX0_enclose_71 ?_
        obtain ⟨r6, hr6, h⟩ := bd_inv h
        refine j_callU (pc := 72) ok (k_X3_insert (a0 := a0) (a0_marks := a0_marks) (a0_ci := 0) (a0_fx := [.int (iI a0_caret), .int (iI a0_from)]) (a0_marksN := 180) (a0_size := r4.1) (a0_marksF := r4.2) (x1 := a0_caret + 1) (x2 := 10 + x1) (q_mk0 _ _) hr6) gU_X0_116 rfl hd_X3_insert [0, 1] (by decide) rfl rfl 0 rfl rfl rfl rfl ⟨Nat.zero_le _, Nat.zero_le _⟩ (Nat.le_of_ble_eq_true rfl) dX0_enclose_72 rfl [(a0, .inr (0, [.ref a0_marks, .int (iI r6.1), .int (iI a0_caret), .int (iI a0_from)])), (a0_marks, .inl (cs.1, 180, .inl (aI r6.2)))] rfl ?_
        refine j_lv [3, 2, 1, 0] rfl ?_
        exact hk5 (r6.1, r6.2) h
      · refine j_aload_n (pc := 42) 3 ok dX0_enclose_42 rfl rfl ?_
        refine j_iload (pc := 43) 0 ok dX0_enclose_43 rfl ?_
        refine j_bipush (pc := 45) ok dX0_enclose_45 (by decide) ?_
        obtain ⟨r7, hr7, h⟩ := bd_inv h
        refine j_callU (pc := 47) ok (k_X3_insert (a0 := a0) (a0_marks := a0_marks) (a0_ci := 0) (a0_fx := [.int (iI a0_caret), .int (iI a0_from)]) (a0_marksN := 180) (a0_size := r4.1) (a0_marksF := r4.2) (x1 := a0_caret + 1) (x2 := 6) (q_mk0 _ _) hr7) gU_X0_116 rfl hd_X3_insert [0, 1] (by decide) rfl rfl 0 rfl rfl rfl rfl ⟨Nat.zero_le _, Nat.zero_le _⟩ (Nat.le_of_ble_eq_true rfl) dX0_enclose_47 rfl [(a0, .inr (0, [.ref a0_marks, .int (iI r7.1), .int (iI a0_caret), .int (iI a0_from)])), (a0_marks, .inl (cs.1, 180, .inl (aI r7.2)))] rfl ?_
        refine j_aload_n (pc := 50) 3 ok dX0_enclose_50 rfl rfl ?_
        refine j_iload (pc := 51) 0 ok dX0_enclose_51 rfl ?_
        refine j_iconst (pc := 53) ok dX0_enclose_53 ?_
        refine j_iadd (pc := 54) ok dX0_enclose_54 ?_
        refine j_bipush (pc := 55) ok dX0_enclose_55 (by decide) ?_
        refine j_iload_n (pc := 57) 4 ok dX0_enclose_57 rfl rfl ?_
        refine j_iadd (pc := 58) ok dX0_enclose_58 ?_
        obtain ⟨r8, hr8, h⟩ := bd_inv h
        refine j_callU (pc := 59) ok (k_X3_insert (a0 := a0) (a0_marks := a0_marks) (a0_ci := 0) (a0_fx := [.int (iI a0_caret), .int (iI a0_from)]) (a0_marksN := 180) (a0_size := r7.1) (a0_marksF := r7.2) (x1 := (a0_caret + 1) + 1) (x2 := 10 + x1) (q_mk0 _ _) hr8) gU_X0_116 rfl hd_X3_insert [0, 1] (by decide) rfl rfl 0 rfl rfl rfl rfl ⟨Nat.zero_le _, Nat.zero_le _⟩ (Nat.le_of_ble_eq_true rfl) dX0_enclose_59 rfl [(a0, .inr (0, [.ref a0_marks, .int (iI r8.1), .int (iI a0_caret), .int (iI a0_from)])), (a0_marks, .inl (cs.1, 180, .inl (aI r8.2)))] rfl ?_
        refine j_goto (pc := 62) 75 ok dX0_enclose_62 (by decide) ?_
        refine j_lv [3, 2, 1, 0] rfl ?_
        exact hk5 (r8.1, r8.2) h
  · refine j_if_ne (pc := 4) 11 ok dX0_enclose_4 (by decide) h (fun h => ?_) (fun h => ?_)
    · refine j_iconst (pc := 11) ok dX0_enclose_11 ?_
      exact hk2 0 h
    · refine j_iconst (pc := 7) ok dX0_enclose_7 ?_
      refine j_goto (pc := 8) 12 ok dX0_enclose_8 (by decide) ?_
      exact hk2 1 h
def f_X0_canDeleteBack (a0_caret : Int) (a0_from : Int) : Option (Int) := bd (f_X0_hasSelection a0_caret a0_from) (fun r1 => jn (fun (z5 : Int) => gB z5 (some z5)) (fun k3 => jn (fun (z4 : Unit) => k3 1) (fun k2 => cEq r1 0 (cLt 0 a0_caret (k2 ()) (k3 0)) (k2 ()))))
set_option maxRecDepth 100000 in
set_option maxHeartbeats 4000000 in
theorem k_X0_canDeleteBack {D : va_G} {cs : q_CS} {a0 a0_marks : Nat} {a0_size a0_caret a0_from : Int} {r : (Int)} (h : f_X0_canDeleteBack a0_caret a0_from = some r) : q_M D cs yX0_canDeleteBack cX0_canDeleteBack 1 (some .boolean) 1 20 [.ref a0] [(a0, .inr (0, [.ref a0_marks, .int (iI a0_size), .int (iI a0_caret), .int (iI a0_from)]))] (some (.int (iI r))) [(a0, .inr (0, [.ref a0_marks, .int (iI a0_size), .int (iI a0_caret), .int (iI a0_from)]))] := by
  refine q_start_z [(0, .ref a0)] RX0 rfl (by decide +kernel) rfl (Nat.le_of_ble_eq_true rfl) (fun κ ok fin => ?_)
  unfold f_X0_canDeleteBack at h
  refine j_aload_n (pc := 0) 0 ok dX0_canDeleteBack_0 rfl rfl ?_
  obtain ⟨r1, hr1, h⟩ := bd_inv h
  refine j_callV (pc := 1) ok (k_X0_hasSelection (a0 := a0) (a0_marks := a0_marks) (a0_size := a0_size) (a0_caret := a0_caret) (a0_from := a0_from) hr1) gV_X0_66 ⟨rfl, hd_X0_hasSelection⟩ [0] (by decide) rfl rfl 0 rfl rfl rfl rfl ⟨Nat.zero_le _, Nat.zero_le _⟩ (Nat.le_of_ble_eq_true rfl) dX0_canDeleteBack_1 rfl [(a0, .inr (0, [.ref a0_marks, .int (iI a0_size), .int (iI a0_caret), .int (iI a0_from)]))] rfl ?_
  refine jn_use (P := fun z5 => q_J D κ 1 0 0 [(a0, .inr (0, [.ref a0_marks, .int (iI a0_size), .int (iI a0_caret), .int (iI a0_from)]))] [] 19 [.int (iI z5)]) h (fun z5 h => ?_) (fun k3 hk3 h => ?_)
  · obtain ⟨hbo, h⟩ := gB_inv h
    obtain rfl := Option.some.inj h
    exact fin _ 19 hbo dX0_canDeleteBack_19
  · refine jn_use (P := fun z4 => q_J D κ 1 0 0 [(a0, .inr (0, [.ref a0_marks, .int (iI a0_size), .int (iI a0_caret), .int (iI a0_from)]))] [] 14 []) h (fun z4 h => ?_) (fun k2 hk2 h => ?_)
    · refine j_iconst (pc := 14) ok dX0_canDeleteBack_14 ?_
      refine j_goto (pc := 15) 19 ok dX0_canDeleteBack_15 (by decide) ?_
      exact hk3 1 h
    · refine j_if_ne (pc := 4) 14 ok dX0_canDeleteBack_4 (by decide) h (fun h => ?_) (fun h => ?_)
      · refine j_lv [] rfl ?_
        exact hk2 () h
      · refine j_aload_n (pc := 7) 0 ok dX0_canDeleteBack_7 rfl rfl ?_
        refine gf_X0_19_0 (pc := 8) 0 ok rfl dX0_canDeleteBack_8 ?_
        refine j_if_le (pc := 11) 18 ok dX0_canDeleteBack_11 (by decide) h (fun h => ?_) (fun h => ?_)
        · refine j_iconst (pc := 18) ok dX0_canDeleteBack_18 ?_
          refine j_lv [] rfl ?_
          exact hk3 0 h
        · refine j_lv [] rfl ?_
          exact hk2 () h
def f_X0_deleteItemBefore (a0_size : Int) (a0_caret : Int) (a0_from : Int) (a0_marksF : (Nat → Int)) : Option (Int × Int × Int × (Nat → Int)) := bd (f_X3_itemStart 180 a0_size a0_marksF a0_caret) (fun r1 => bd (f_X3_countItems 180 a0_size a0_marksF r1 a0_caret) (fun r2 => jn (fun (z7 : Int × Int × Int × (Nat → Int)) => some (z7.1, z7.2.1, z7.2.2.1, z7.2.2.2)) (fun k3 => cEq r2 1 (bd (f_X3_remove 180 a0_size a0_marksF r1 a0_caret) (fun r5 => bd (f_X0_putCaret a0_caret a0_from r1) (fun r6 => k3 (r5.1, r6.1, r6.2, r5.2)))) (bd (f_X0_putCaret a0_caret a0_from (a0_caret - 1)) (fun r4 => k3 (a0_size, r4.1, r4.2, a0_marksF))))))
set_option maxRecDepth 100000 in
set_option maxHeartbeats 4000000 in
theorem k_X0_deleteItemBefore {D : va_G} {cs : q_CS} {a0 a0_marks : Nat} {a0_size a0_caret a0_from : Int} {a0_marksF : (Nat → Int)} {r : (Int × Int × Int × (Nat → Int))} (h : f_X0_deleteItemBefore a0_size a0_caret a0_from a0_marksF = some r) : q_M D cs yX0_deleteItemBefore cX0_deleteItemBefore 2 none 2 45 [.ref a0] [(a0, .inr (0, [.ref a0_marks, .int (iI a0_size), .int (iI a0_caret), .int (iI a0_from)])), (a0_marks, .inl (cs.1, 180, .inl (aI a0_marksF)))] none [(a0, .inr (0, [.ref a0_marks, .int (iI r.1), .int (iI r.2.1), .int (iI r.2.2.1)])), (a0_marks, .inl (cs.1, 180, .inl (aI r.2.2.2)))] := by
  refine q_start_v [(0, .ref a0)] RX0 rfl (by decide +kernel) rfl (Nat.le_of_ble_eq_true rfl) (fun κ ok fin => ?_)
  unfold f_X0_deleteItemBefore at h
  refine j_aload_n (pc := 0) 0 ok dX0_deleteItemBefore_0 rfl rfl ?_
  refine j_aload_n (pc := 1) 0 ok dX0_deleteItemBefore_1 rfl rfl ?_
  refine gf_X0_19_0 (pc := 2) 0 ok rfl dX0_deleteItemBefore_2 ?_
  obtain ⟨r1, hr1, h⟩ := bd_inv h
  refine j_callU (pc := 5) ok (k_X3_itemStart (a0 := a0) (a0_marks := a0_marks) (a0_ci := 0) (a0_fx := [.int (iI a0_caret), .int (iI a0_from)]) (a0_marksN := 180) (a0_size := a0_size) (a0_marksF := a0_marksF) (x1 := a0_caret) (q_mk0 _ _) hr1) gU_X0_47 rfl hd_X3_itemStart [0, 1] (by decide) rfl rfl 0 rfl rfl rfl rfl ⟨Nat.zero_le _, Nat.zero_le _⟩ (Nat.le_of_ble_eq_true rfl) dX0_deleteItemBefore_5 rfl [(a0, .inr (0, [.ref a0_marks, .int (iI a0_size), .int (iI a0_caret), .int (iI a0_from)])), (a0_marks, .inl (cs.1, 180, .inl (aI a0_marksF)))] rfl ?_
  refine j_istore_n (pc := 8) (lv' := [(1, .int (iI r1)), (0, .ref a0)]) ok dX0_deleteItemBefore_8 rfl (by decide) rfl ?_
  refine j_aload_n (pc := 9) 1 ok dX0_deleteItemBefore_9 rfl rfl ?_
  refine j_iload_n (pc := 10) 0 ok dX0_deleteItemBefore_10 rfl rfl ?_
  refine j_aload_n (pc := 11) 1 ok dX0_deleteItemBefore_11 rfl rfl ?_
  refine gf_X0_19_0 (pc := 12) 0 ok rfl dX0_deleteItemBefore_12 ?_
  obtain ⟨r2, hr2, h⟩ := bd_inv h
  refine j_callU (pc := 15) ok (k_X3_countItems (a0 := a0) (a0_marks := a0_marks) (a0_ci := 0) (a0_fx := [.int (iI a0_caret), .int (iI a0_from)]) (a0_marksN := 180) (a0_size := a0_size) (a0_marksF := a0_marksF) (x1 := r1) (x2 := a0_caret) (q_mk0 _ _) hr2) gU_X0_29 rfl hd_X3_countItems [0, 1] (by decide) rfl rfl 0 rfl rfl rfl rfl ⟨Nat.zero_le _, Nat.zero_le _⟩ (Nat.le_of_ble_eq_true rfl) dX0_deleteItemBefore_15 rfl [(a0, .inr (0, [.ref a0_marks, .int (iI a0_size), .int (iI a0_caret), .int (iI a0_from)])), (a0_marks, .inl (cs.1, 180, .inl (aI a0_marksF)))] rfl ?_
  refine j_iconst (pc := 18) ok dX0_deleteItemBefore_18 ?_
  refine jn_use (P := fun z7 => q_J D κ 2 0 0 [(a0, .inr (0, [.ref a0_marks, .int (iI z7.1), .int (iI z7.2.1), .int (iI z7.2.2.1)])), (a0_marks, .inl (cs.1, 180, .inl (aI z7.2.2.2)))] [] 49 []) h (fun z7 h => ?_) (fun k3 hk3 h => ?_)
  · obtain rfl := Option.some.inj h
    exact fin _ 49 dX0_deleteItemBefore_49
  · refine j_icmp_ne (pc := 19) 39 ok dX0_deleteItemBefore_19 (by decide) h (fun h => ?_) (fun h => ?_)
    · refine j_aload_n (pc := 39) 1 ok dX0_deleteItemBefore_39 rfl rfl ?_
      refine j_aload_n (pc := 40) 1 ok dX0_deleteItemBefore_40 rfl rfl ?_
      refine gf_X0_19_0 (pc := 41) 0 ok rfl dX0_deleteItemBefore_41 ?_
      refine j_iconst (pc := 44) ok dX0_deleteItemBefore_44 ?_
      refine j_isub (pc := 45) ok dX0_deleteItemBefore_45 ?_
      obtain ⟨r4, hr4, h⟩ := bd_inv h
      refine j_callV (pc := 46) ok (k_X0_putCaret (a0 := a0) (a0_marks := a0_marks) (a0_size := a0_size) (a0_caret := a0_caret) (a0_from := a0_from) (x1 := a0_caret - 1) hr4) gV_X0_40 ⟨rfl, hd_X0_putCaret⟩ [0] (by decide) rfl rfl 0 rfl rfl rfl rfl ⟨Nat.zero_le _, Nat.zero_le _⟩ (Nat.le_of_ble_eq_true rfl) dX0_deleteItemBefore_46 rfl [(a0, .inr (0, [.ref a0_marks, .int (iI a0_size), .int (iI r4.1), .int (iI r4.2)])), (a0_marks, .inl (cs.1, 180, .inl (aI a0_marksF)))] rfl ?_
      refine j_lv [] rfl ?_
      exact hk3 (a0_size, r4.1, r4.2, a0_marksF) h
    · refine j_aload_n (pc := 22) 1 ok dX0_deleteItemBefore_22 rfl rfl ?_
      refine j_iload_n (pc := 23) 0 ok dX0_deleteItemBefore_23 rfl rfl ?_
      refine j_aload_n (pc := 24) 1 ok dX0_deleteItemBefore_24 rfl rfl ?_
      refine gf_X0_19_0 (pc := 25) 0 ok rfl dX0_deleteItemBefore_25 ?_
      obtain ⟨r5, hr5, h⟩ := bd_inv h
      refine j_callU (pc := 28) ok (k_X3_remove (a0 := a0) (a0_marks := a0_marks) (a0_ci := 0) (a0_fx := [.int (iI a0_caret), .int (iI a0_from)]) (a0_marksN := 180) (a0_size := a0_size) (a0_marksF := a0_marksF) (x1 := r1) (x2 := a0_caret) (q_mk0 _ _) hr5) gU_X0_109 rfl hd_X3_remove [0, 1] (by decide) rfl rfl 0 rfl rfl rfl rfl ⟨Nat.zero_le _, Nat.zero_le _⟩ (Nat.le_of_ble_eq_true rfl) dX0_deleteItemBefore_28 rfl [(a0, .inr (0, [.ref a0_marks, .int (iI r5.1), .int (iI a0_caret), .int (iI a0_from)])), (a0_marks, .inl (cs.1, 180, .inl (aI r5.2)))] rfl ?_
      refine j_aload_n (pc := 31) 1 ok dX0_deleteItemBefore_31 rfl rfl ?_
      refine j_iload_n (pc := 32) 0 ok dX0_deleteItemBefore_32 rfl rfl ?_
      obtain ⟨r6, hr6, h⟩ := bd_inv h
      refine j_callV (pc := 33) ok (k_X0_putCaret (a0 := a0) (a0_marks := a0_marks) (a0_size := r5.1) (a0_caret := a0_caret) (a0_from := a0_from) (x1 := r1) hr6) gV_X0_40 ⟨rfl, hd_X0_putCaret⟩ [0] (by decide) rfl rfl 0 rfl rfl rfl rfl ⟨Nat.zero_le _, Nat.zero_le _⟩ (Nat.le_of_ble_eq_true rfl) dX0_deleteItemBefore_33 rfl [(a0, .inr (0, [.ref a0_marks, .int (iI r5.1), .int (iI r6.1), .int (iI r6.2)])), (a0_marks, .inl (cs.1, 180, .inl (aI r5.2)))] rfl ?_
      refine j_goto (pc := 36) 49 ok dX0_deleteItemBefore_36 (by decide) ?_
      refine j_lv [] rfl ?_
      exact hk3 (r5.1, r6.1, r6.2, r5.2) h
def f_X0_dissolve (a0_size : Int) (a0_caret : Int) (a0_from : Int) (a0_marksF : (Nat → Int)) (x1 : Int) : Option (Int × Int × Int × (Nat → Int)) := bd (f_X3_itemEnd 180 a0_size a0_marksF x1) (fun r1 => bd (f_X3_remove 180 a0_size a0_marksF (r1 - 1) r1) (fun r2 => bd (f_X3_mark 180 r2.1 r2.2 x1) (fun r3 => jn (fun (z9 : Int × (Nat → Int) × Int) => bd (f_X3_remove 180 z9.1 z9.2.1 x1 (x1 + 1)) (fun r10 => bd (f_X0_putCaret a0_caret a0_from z9.2.2) (fun r11 => some (r10.1, r11.1, r11.2, r10.2)))) (fun k4 => cEq r3 1 (bd (f_X3_secondSlot 180 r2.1 r2.2 x1) (fun r5 => bd (f_X3_remove 180 r2.1 r2.2 (r5 - 1) r5) (fun r6 => jn (fun (z8 : Int) => k4 (r6.1, r6.2, z8)) (fun k7 => cLt a0_caret r5 (k7 (a0_caret - 1)) (k7 ((a0_caret - 1) - 1)))))) (k4 (r2.1, r2.2, a0_caret - 1))))))
set_option maxRecDepth 100000 in
set_option maxHeartbeats 4000000 in
theorem k_X0_dissolve {D : va_G} {cs : q_CS} {a0 a0_marks : Nat} {a0_size a0_caret a0_from : Int} {a0_marksF : (Nat → Int)} {x1 : Int} {r : (Int × Int × Int × (Nat → Int))} (h : f_X0_dissolve a0_size a0_caret a0_from a0_marksF x1 = some r) : q_M D cs yX0_dissolve cX0_dissolve 5 none 2 45 [.ref a0, .int (iI x1)] [(a0, .inr (0, [.ref a0_marks, .int (iI a0_size), .int (iI a0_caret), .int (iI a0_from)])), (a0_marks, .inl (cs.1, 180, .inl (aI a0_marksF)))] none [(a0, .inr (0, [.ref a0_marks, .int (iI r.1), .int (iI r.2.1), .int (iI r.2.2.1)])), (a0_marks, .inl (cs.1, 180, .inl (aI r.2.2.2)))] := by
  refine q_start_v [(0, .ref a0), (1, .int (iI x1))] RX0 rfl (by decide +kernel) rfl (Nat.le_of_ble_eq_true rfl) (fun κ ok fin => ?_)
  unfold f_X0_dissolve at h
  refine j_aload_n (pc := 0) 0 ok dX0_dissolve_0 rfl rfl ?_
  refine j_iload_n (pc := 1) 1 ok dX0_dissolve_1 rfl rfl ?_
  obtain ⟨r1, hr1, h⟩ := bd_inv h
  refine j_callU (pc := 2) ok (k_X3_itemEnd (a0 := a0) (a0_marks := a0_marks) (a0_ci := 0) (a0_fx := [.int (iI a0_caret), .int (iI a0_from)]) (a0_marksN := 180) (a0_size := a0_size) (a0_marksF := a0_marksF) (x1 := x1) (q_mk0 _ _) hr1) gU_X0_57 rfl hd_X3_itemEnd [0, 1] (by decide) rfl rfl 0 rfl rfl rfl rfl ⟨Nat.zero_le _, Nat.zero_le _⟩ (Nat.le_of_ble_eq_true rfl) dX0_dissolve_2 rfl [(a0, .inr (0, [.ref a0_marks, .int (iI a0_size), .int (iI a0_caret), .int (iI a0_from)])), (a0_marks, .inl (cs.1, 180, .inl (aI a0_marksF)))] rfl ?_
  refine j_istore_n (pc := 5) (lv' := [(2, .int (iI r1)), (0, .ref a0), (1, .int (iI x1))]) ok dX0_dissolve_5 rfl (by decide) rfl ?_
  refine j_aload_n (pc := 6) 1 ok dX0_dissolve_6 rfl rfl ?_
  refine j_iload_n (pc := 7) 0 ok dX0_dissolve_7 rfl rfl ?_
  refine j_iconst (pc := 8) ok dX0_dissolve_8 ?_
  refine j_isub (pc := 9) ok dX0_dissolve_9 ?_
  refine j_iload_n (pc := 10) 0 ok dX0_dissolve_10 rfl rfl ?_
  obtain ⟨r2, hr2, h⟩ := bd_inv h
  refine j_callU (pc := 11) ok (k_X3_remove (a0 := a0) (a0_marks := a0_marks) (a0_ci := 0) (a0_fx := [.int (iI a0_caret), .int (iI a0_from)]) (a0_marksN := 180) (a0_size := a0_size) (a0_marksF := a0_marksF) (x1 := r1 - 1) (x2 := r1) (q_mk0 _ _) hr2) gU_X0_109 rfl hd_X3_remove [0, 1] (by decide) rfl rfl 0 rfl rfl rfl rfl ⟨Nat.zero_le _, Nat.zero_le _⟩ (Nat.le_of_ble_eq_true rfl) dX0_dissolve_11 rfl [(a0, .inr (0, [.ref a0_marks, .int (iI r2.1), .int (iI a0_caret), .int (iI a0_from)])), (a0_marks, .inl (cs.1, 180, .inl (aI r2.2)))] rfl ?_
  refine j_aload_n (pc := 14) 1 ok dX0_dissolve_14 rfl rfl ?_
  refine gf_X0_19_0 (pc := 15) 0 ok rfl dX0_dissolve_15 ?_
  refine j_iconst (pc := 18) ok dX0_dissolve_18 ?_
  refine j_isub (pc := 19) ok dX0_dissolve_19 ?_
  refine j_istore_n (pc := 20) (lv' := [(3, .int (iI (a0_caret - 1))), (2, .int (iI r1)), (0, .ref a0), (1, .int (iI x1))]) ok dX0_dissolve_20 rfl (by decide) rfl ?_
  refine j_aload_n (pc := 21) 2 ok dX0_dissolve_21 rfl rfl ?_
  refine j_iload_n (pc := 22) 3 ok dX0_dissolve_22 rfl rfl ?_
  obtain ⟨r3, hr3, h⟩ := bd_inv h
  refine j_callU (pc := 23) ok (k_X3_mark (a0 := a0) (a0_marks := a0_marks) (a0_ci := 0) (a0_fx := [.int (iI a0_caret), .int (iI a0_from)]) (a0_marksN := 180) (a0_size := r2.1) (a0_marksF := r2.2) (x1 := x1) (q_mk0 _ _) hr3) gU_X0_51 rfl hd_X3_mark [0, 1] (by decide) rfl rfl 0 rfl rfl rfl rfl ⟨Nat.zero_le _, Nat.zero_le _⟩ (Nat.le_of_ble_eq_true rfl) dX0_dissolve_23 rfl [(a0, .inr (0, [.ref a0_marks, .int (iI r2.1), .int (iI a0_caret), .int (iI a0_from)])), (a0_marks, .inl (cs.1, 180, .inl (aI r2.2)))] rfl ?_
  refine j_iconst (pc := 26) ok dX0_dissolve_26 ?_
  refine jn_use (P := fun z9 => q_J D κ 5 0 0 [(a0, .inr (0, [.ref a0_marks, .int (iI z9.1), .int (iI a0_caret), .int (iI a0_from)])), (a0_marks, .inl (cs.1, 180, .inl (aI z9.2.1)))] [(0, .ref a0), (1, .int (iI x1)), (3, .int (iI z9.2.2))] 64 []) h (fun z9 h => ?_) (fun k4 hk4 h => ?_)
  · refine j_aload_n (pc := 64) 0 ok dX0_dissolve_64 rfl rfl ?_
    refine j_iload_n (pc := 65) 1 ok dX0_dissolve_65 rfl rfl ?_
    refine j_iload_n (pc := 66) 1 ok dX0_dissolve_66 rfl rfl ?_
    refine j_iconst (pc := 67) ok dX0_dissolve_67 ?_
    refine j_iadd (pc := 68) ok dX0_dissolve_68 ?_
    obtain ⟨r10, hr10, h⟩ := bd_inv h
    refine j_callU (pc := 69) ok (k_X3_remove (a0 := a0) (a0_marks := a0_marks) (a0_ci := 0) (a0_fx := [.int (iI a0_caret), .int (iI a0_from)]) (a0_marksN := 180) (a0_size := z9.1) (a0_marksF := z9.2.1) (x1 := x1) (x2 := x1 + 1) (q_mk0 _ _) hr10) gU_X0_109 rfl hd_X3_remove [0, 1] (by decide) rfl rfl 0 rfl rfl rfl rfl ⟨Nat.zero_le _, Nat.zero_le _⟩ (Nat.le_of_ble_eq_true rfl) dX0_dissolve_69 rfl [(a0, .inr (0, [.ref a0_marks, .int (iI r10.1), .int (iI a0_caret), .int (iI a0_from)])), (a0_marks, .inl (cs.1, 180, .inl (aI r10.2)))] rfl ?_
    refine j_aload_n (pc := 72) 0 ok dX0_dissolve_72 rfl rfl ?_
    refine j_iload_n (pc := 73) 2 ok dX0_dissolve_73 rfl rfl ?_
    obtain ⟨r11, hr11, h⟩ := bd_inv h
    refine j_callV (pc := 74) ok (k_X0_putCaret (a0 := a0) (a0_marks := a0_marks) (a0_size := r10.1) (a0_caret := a0_caret) (a0_from := a0_from) (x1 := z9.2.2) hr11) gV_X0_40 ⟨rfl, hd_X0_putCaret⟩ [0] (by decide) rfl rfl 0 rfl rfl rfl rfl ⟨Nat.zero_le _, Nat.zero_le _⟩ (Nat.le_of_ble_eq_true rfl) dX0_dissolve_74 rfl [(a0, .inr (0, [.ref a0_marks, .int (iI r10.1), .int (iI r11.1), .int (iI r11.2)])), (a0_marks, .inl (cs.1, 180, .inl (aI r10.2)))] rfl ?_
    obtain rfl := Option.some.inj h
    exact fin _ 77 dX0_dissolve_77
  · refine j_icmp_ne (pc := 27) 64 ok dX0_dissolve_27 (by decide) h (fun h => ?_) (fun h => ?_)
    · refine j_lv [2, 3, 0] rfl ?_
      exact hk4 (r2.1, r2.2, a0_caret - 1) h
    · refine j_aload_n (pc := 30) 2 ok dX0_dissolve_30 rfl rfl ?_
      refine j_iload_n (pc := 31) 3 ok dX0_dissolve_31 rfl rfl ?_
      obtain ⟨r5, hr5, h⟩ := bd_inv h
      refine j_callU (pc := 32) ok (k_X3_secondSlot (a0 := a0) (a0_marks := a0_marks) (a0_ci := 0) (a0_fx := [.int (iI a0_caret), .int (iI a0_from)]) (a0_marksN := 180) (a0_size := r2.1) (a0_marksF := r2.2) (x1 := x1) (q_mk0 _ _) hr5) gU_X0_87 rfl hd_X3_secondSlot [0, 1] (by decide) rfl rfl 0 rfl rfl rfl rfl ⟨Nat.zero_le _, Nat.zero_le _⟩ (Nat.le_of_ble_eq_true rfl) dX0_dissolve_32 rfl [(a0, .inr (0, [.ref a0_marks, .int (iI r2.1), .int (iI a0_caret), .int (iI a0_from)])), (a0_marks, .inl (cs.1, 180, .inl (aI r2.2)))] rfl ?_
      refine j_istore (pc := 35) (lv' := [(4, .int (iI r5)), (3, .int (iI (a0_caret - 1))), (2, .int (iI r1)), (0, .ref a0), (1, .int (iI x1))]) ok dX0_dissolve_35 (by decide) rfl ?_
      refine j_aload_n (pc := 37) 3 ok dX0_dissolve_37 rfl rfl ?_
      refine j_iload (pc := 38) 0 ok dX0_dissolve_38 rfl ?_
      refine j_iconst (pc := 40) ok dX0_dissolve_40 ?_
      refine j_isub (pc := 41) ok dX0_dissolve_41 ?_
      refine j_iload (pc := 42) 0 ok dX0_dissolve_42 rfl ?_
      obtain ⟨r6, hr6, h⟩ := bd_inv h
      refine j_callU (pc := 44) ok (k_X3_remove (a0 := a0) (a0_marks := a0_marks) (a0_ci := 0) (a0_fx := [.int (iI a0_caret), .int (iI a0_from)]) (a0_marksN := 180) (a0_size := r2.1) (a0_marksF := r2.2) (x1 := r5 - 1) (x2 := r5) (q_mk0 _ _) hr6) gU_X0_109 rfl hd_X3_remove [0, 1] (by decide) rfl rfl 0 rfl rfl rfl rfl ⟨Nat.zero_le _, Nat.zero_le _⟩ (Nat.le_of_ble_eq_true rfl) dX0_dissolve_44 rfl [(a0, .inr (0, [.ref a0_marks, .int (iI r6.1), .int (iI a0_caret), .int (iI a0_from)])), (a0_marks, .inl (cs.1, 180, .inl (aI r6.2)))] rfl ?_
      refine j_iload (pc := 47) 0 ok dX0_dissolve_47 rfl ?_
      refine j_aload_n (pc := 49) 3 ok dX0_dissolve_49 rfl rfl ?_
      refine gf_X0_19_0 (pc := 50) 0 ok rfl dX0_dissolve_50 ?_
      refine jn_use (P := fun z8 => q_J D κ 5 0 0 [(a0, .inr (0, [.ref a0_marks, .int (iI r6.1), .int (iI a0_caret), .int (iI a0_from)])), (a0_marks, .inl (cs.1, 180, .inl (aI r6.2)))] [(0, .ref a0), (1, .int (iI x1))] 63 [.int (iI z8)]) h (fun z8 h => ?_) (fun k7 hk7 h => ?_)
      · refine j_istore_n (pc := 63) (lv' := [(3, .int (iI z8)), (0, .ref a0), (1, .int (iI x1))]) ok dX0_dissolve_63 rfl (by decide) rfl ?_
        refine j_lv [1, 2, 0] rfl ?_
        exact hk4 (r6.1, r6.2, z8) h
      · refine j_icmp_gt (pc := 53) 62 ok dX0_dissolve_53 (by decide) h (fun h => ?_) (fun h => ?_)
        · refine j_iload_n (pc := 62) 1 ok dX0_dissolve_62 rfl rfl ?_
          refine j_lv [3, 4] rfl ?_
          exact hk7 (a0_caret - 1) h
        · refine j_iload_n (pc := 56) 1 ok dX0_dissolve_56 rfl rfl ?_
          refine j_iconst (pc := 57) ok dX0_dissolve_57 ?_
          refine j_isub (pc := 58) ok dX0_dissolve_58 ?_
          refine j_goto (pc := 59) 63 ok dX0_dissolve_59 (by decide) ?_
          refine j_lv [3, 4] rfl ?_
          exact hk7 ((a0_caret - 1) - 1) h
def f_X0_deleteBack (a0_size : Int) (a0_caret : Int) (a0_from : Int) (a0_marksF : (Nat → Int)) : Option (Int × Int × Int × (Nat → Int)) := bd (f_X0_hasSelection a0_caret a0_from) (fun r1 => jn (fun (z8 : Int × Int × Int × (Nat → Int)) => some (z8.1, z8.2.1, z8.2.2.1, z8.2.2.2)) (fun k2 => cEq r1 0 (bd (f_X3_isBehindItem 180 a0_size a0_marksF a0_caret) (fun r3 => cEq r3 0 (cLt 0 a0_caret (bd (f_X3_holder 180 a0_size a0_marksF a0_caret) (fun r4 => bd (f_X0_dissolve a0_size a0_caret a0_from a0_marksF r4) (fun r5 => k2 (r5.1, r5.2.1, r5.2.2.1, r5.2.2.2)))) (k2 (a0_size, a0_caret, a0_from, a0_marksF))) (bd (f_X0_deleteItemBefore a0_size a0_caret a0_from a0_marksF) (fun r6 => k2 (r6.1, r6.2.1, r6.2.2.1, r6.2.2.2))))) (bd (f_X0_removeSelection a0_size a0_caret a0_from a0_marksF) (fun r7 => k2 (r7.1, r7.2.1, r7.2.2.1, r7.2.2.2)))))
set_option maxRecDepth 100000 in
set_option maxHeartbeats 4000000 in
theorem k_X0_deleteBack {D : va_G} {cs : q_CS} {a0 a0_marks : Nat} {a0_size a0_caret a0_from : Int} {a0_marksF : (Nat → Int)} {r : (Int × Int × Int × (Nat → Int))} (h : f_X0_deleteBack a0_size a0_caret a0_from a0_marksF = some r) : q_M D cs yX0_deleteBack cX0_deleteBack 1 none 3 69 [.ref a0] [(a0, .inr (0, [.ref a0_marks, .int (iI a0_size), .int (iI a0_caret), .int (iI a0_from)])), (a0_marks, .inl (cs.1, 180, .inl (aI a0_marksF)))] none [(a0, .inr (0, [.ref a0_marks, .int (iI r.1), .int (iI r.2.1), .int (iI r.2.2.1)])), (a0_marks, .inl (cs.1, 180, .inl (aI r.2.2.2)))] := by
  refine q_start_v [(0, .ref a0)] RX0 rfl (by decide +kernel) rfl (Nat.le_of_ble_eq_true rfl) (fun κ ok fin => ?_)
  unfold f_X0_deleteBack at h
  refine j_aload_n (pc := 0) 0 ok dX0_deleteBack_0 rfl rfl ?_
  obtain ⟨r1, hr1, h⟩ := bd_inv h
  refine j_callV (pc := 1) ok (k_X0_hasSelection (a0 := a0) (a0_marks := a0_marks) (a0_size := a0_size) (a0_caret := a0_caret) (a0_from := a0_from) hr1) gV_X0_66 ⟨rfl, hd_X0_hasSelection⟩ [0] (by decide) rfl rfl 0 rfl rfl rfl rfl ⟨Nat.zero_le _, Nat.zero_le _⟩ (Nat.le_of_ble_eq_true rfl) dX0_deleteBack_1 rfl [(a0, .inr (0, [.ref a0_marks, .int (iI a0_size), .int (iI a0_caret), .int (iI a0_from)])), (a0_marks, .inl (cs.1, 180, .inl (aI a0_marksF)))] rfl ?_
  refine jn_use (P := fun z8 => q_J D κ 1 0 0 [(a0, .inr (0, [.ref a0_marks, .int (iI z8.1), .int (iI z8.2.1), .int (iI z8.2.2.1)])), (a0_marks, .inl (cs.1, 180, .inl (aI z8.2.2.2)))] [] 51 []) h (fun z8 h => ?_) (fun k2 hk2 h => ?_)
  · obtain rfl := Option.some.inj h
    exact fin _ 51 dX0_deleteBack_51
  · refine j_if_eq (pc := 4) 14 ok dX0_deleteBack_4 (by decide) h (fun h => ?_) (fun h => ?_)
    · refine j_aload_n (pc := 14) 0 ok dX0_deleteBack_14 rfl rfl ?_
      refine j_aload_n (pc := 15) 0 ok dX0_deleteBack_15 rfl rfl ?_
      refine gf_X0_19_0 (pc := 16) 0 ok rfl dX0_deleteBack_16 ?_
      obtain ⟨r3, hr3, h⟩ := bd_inv h
      refine j_callU (pc := 19) ok (k_X3_isBehindItem (a0 := a0) (a0_marks := a0_marks) (a0_ci := 0) (a0_fx := [.int (iI a0_caret), .int (iI a0_from)]) (a0_marksN := 180) (a0_size := a0_size) (a0_marksF := a0_marksF) (x1 := a0_caret) (q_mk0 _ _) hr3) gU_X0_43 rfl hd_X3_isBehindItem [0, 1] (by decide) rfl rfl 0 rfl rfl rfl rfl ⟨Nat.zero_le _, Nat.zero_le _⟩ (Nat.le_of_ble_eq_true rfl) dX0_deleteBack_19 rfl [(a0, .inr (0, [.ref a0_marks, .int (iI a0_size), .int (iI a0_caret), .int (iI a0_from)])), (a0_marks, .inl (cs.1, 180, .inl (aI a0_marksF)))] rfl ?_
      refine j_if_eq (pc := 22) 32 ok dX0_deleteBack_22 (by decide) h (fun h => ?_) (fun h => ?_)
      · refine j_aload_n (pc := 32) 0 ok dX0_deleteBack_32 rfl rfl ?_
        refine gf_X0_19_0 (pc := 33) 0 ok rfl dX0_deleteBack_33 ?_
        refine j_if_le (pc := 36) 51 ok dX0_deleteBack_36 (by decide) h (fun h => ?_) (fun h => ?_)
        · refine j_lv [] rfl ?_
          exact hk2 (a0_size, a0_caret, a0_from, a0_marksF) h
        · refine j_aload_n (pc := 39) 0 ok dX0_deleteBack_39 rfl rfl ?_
          refine j_aload_n (pc := 40) 0 ok dX0_deleteBack_40 rfl rfl ?_
          refine j_aload_n (pc := 41) 0 ok dX0_deleteBack_41 rfl rfl ?_
          refine gf_X0_19_0 (pc := 42) 0 ok rfl dX0_deleteBack_42 ?_
          obtain ⟨r4, hr4, h⟩ := bd_inv h
          refine j_callU (pc := 45) ok (k_X3_holder (a0 := a0) (a0_marks := a0_marks) (a0_ci := 0) (a0_fx := [.int (iI a0_caret), .int (iI a0_from)]) (a0_marksN := 180) (a0_size := a0_size) (a0_marksF := a0_marksF) (x1 := a0_caret) (q_mk0 _ _) hr4) gU_X0_77 rfl hd_X3_holder [0, 1] (by decide) rfl rfl 0 rfl rfl rfl rfl ⟨Nat.zero_le _, Nat.zero_le _⟩ (Nat.le_of_ble_eq_true rfl) dX0_deleteBack_45 rfl [(a0, .inr (0, [.ref a0_marks, .int (iI a0_size), .int (iI a0_caret), .int (iI a0_from)])), (a0_marks, .inl (cs.1, 180, .inl (aI a0_marksF)))] rfl ?_
          obtain ⟨r5, hr5, h⟩ := bd_inv h
          refine j_callV (pc := 48) ok (k_X0_dissolve (a0 := a0) (a0_marks := a0_marks) (a0_size := a0_size) (a0_caret := a0_caret) (a0_from := a0_from) (a0_marksF := a0_marksF) (x1 := r4) hr5) gV_X0_126 ⟨rfl, hd_X0_dissolve⟩ [0, 1] (by decide) rfl rfl 0 rfl rfl rfl rfl ⟨Nat.zero_le _, Nat.zero_le _⟩ (Nat.le_of_ble_eq_true rfl) dX0_deleteBack_48 rfl [(a0, .inr (0, [.ref a0_marks, .int (iI r5.1), .int (iI r5.2.1), .int (iI r5.2.2.1)])), (a0_marks, .inl (cs.1, 180, .inl (aI r5.2.2.2)))] rfl ?_
          refine j_lv [] rfl ?_
          exact hk2 (r5.1, r5.2.1, r5.2.2.1, r5.2.2.2) h
      · refine j_aload_n (pc := 25) 0 ok dX0_deleteBack_25 rfl rfl ?_
        obtain ⟨r6, hr6, h⟩ := bd_inv h
        refine j_callV (pc := 26) ok (k_X0_deleteItemBefore (a0 := a0) (a0_marks := a0_marks) (a0_size := a0_size) (a0_caret := a0_caret) (a0_from := a0_from) (a0_marksF := a0_marksF) hr6) gV_X0_123 ⟨rfl, hd_X0_deleteItemBefore⟩ [0, 1] (by decide) rfl rfl 0 rfl rfl rfl rfl ⟨Nat.zero_le _, Nat.zero_le _⟩ (Nat.le_of_ble_eq_true rfl) dX0_deleteBack_26 rfl [(a0, .inr (0, [.ref a0_marks, .int (iI r6.1), .int (iI r6.2.1), .int (iI r6.2.2.1)])), (a0_marks, .inl (cs.1, 180, .inl (aI r6.2.2.2)))] rfl ?_
        refine j_goto (pc := 29) 51 ok dX0_deleteBack_29 (by decide) ?_
        refine j_lv [] rfl ?_
        exact hk2 (r6.1, r6.2.1, r6.2.2.1, r6.2.2.2) h
    · refine j_aload_n (pc := 7) 0 ok dX0_deleteBack_7 rfl rfl ?_
      obtain ⟨r7, hr7, h⟩ := bd_inv h
      refine j_callV (pc := 8) ok (k_X0_removeSelection (a0 := a0) (a0_marks := a0_marks) (a0_size := a0_size) (a0_caret := a0_caret) (a0_from := a0_from) (a0_marksF := a0_marksF) hr7) gV_X0_112 ⟨rfl, hd_X0_removeSelection⟩ [0, 1] (by decide) rfl rfl 0 rfl rfl rfl rfl ⟨Nat.zero_le _, Nat.zero_le _⟩ (Nat.le_of_ble_eq_true rfl) dX0_deleteBack_8 rfl [(a0, .inr (0, [.ref a0_marks, .int (iI r7.1), .int (iI r7.2.1), .int (iI r7.2.2.1)])), (a0_marks, .inl (cs.1, 180, .inl (aI r7.2.2.2)))] rfl ?_
      refine j_goto (pc := 11) 51 ok dX0_deleteBack_11 (by decide) ?_
      refine j_lv [] rfl ?_
      exact hk2 (r7.1, r7.2.1, r7.2.2.1, r7.2.2.2) h
def f_X1_forget (a0_count : Int) : Option (Int) := some 0
set_option maxRecDepth 100000 in
set_option maxHeartbeats 4000000 in
theorem k_X1_forget {D : va_G} {cs : q_CS} {a0 a0_ring : Nat} {a0_oldest a0_count : Int} {r : (Int)} (h : f_X1_forget a0_count = some r) : q_M D cs yX1_forget cX1_forget 1 none 0 0 [.ref a0] [(a0, .inr (1, [.ref a0_ring, .int (iI a0_oldest), .int (iI a0_count)]))] none [(a0, .inr (1, [.ref a0_ring, .int (iI a0_oldest), .int (iI r)]))] := by
  refine q_start_v [(0, .ref a0)] RX1 rfl (by decide +kernel) rfl (Nat.le_of_ble_eq_true rfl) (fun κ ok fin => ?_)
  unfold f_X1_forget at h
  refine j_aload_n (pc := 0) 0 ok dX1_forget_0 rfl rfl ?_
  refine j_iconst (pc := 1) ok dX1_forget_1 ?_
  refine pf_X1_18_1 (pc := 2) 0 ok rfl dX1_forget_2 [(a0, .inr (1, [.ref a0_ring, .int (iI a0_oldest), .int (iI 0)]))] rfl ?_
  obtain rfl := Option.some.inj h
  exact fin _ 5 dX1_forget_5
def f_X1_entry (a0_oldest : Int) (x1 : Int) : Option (Int) := gR (a0_oldest + x1) (jn (fun (z4 : Unit) => some ((a0_oldest + x1).tmod 14)) (fun k2 => jn (fun (z3 : Unit) => none) (fun k1 => cLt ((a0_oldest + x1).tmod 14) 0 (k1 ()) (cLt ((a0_oldest + x1).tmod 14) 14 (gIn ((a0_oldest + x1).tmod 14) 14 (k2 ())) (k1 ())))))
set_option maxRecDepth 100000 in
set_option maxHeartbeats 4000000 in
theorem k_X1_entry {D : va_G} {cs : q_CS} {a0 a0_ring : Nat} {a0_oldest a0_count : Int} {a0_ringQ : Nat → Nat} {x1 : Int} {r : (Int)} (h : f_X1_entry a0_oldest x1 = some r) : q_M D cs yX1_entry cX1_entry 3 (some (.object "FormulaEditor$Formula")) 0 0 [.ref a0, .int (iI x1)] [(a0, .inr (1, [.ref a0_ring, .int (iI a0_oldest), .int (iI a0_count)])), (a0_ring, .inl (cs.2.2.1, 14, .inr (.inr (.inr (.inr (fun j => some (a0_ringQ j)))))))] (some (.ref (a0_ringQ r.toNat))) [(a0, .inr (1, [.ref a0_ring, .int (iI a0_oldest), .int (iI a0_count)])), (a0_ring, .inl (cs.2.2.1, 14, .inr (.inr (.inr (.inr (fun j => some (a0_ringQ j)))))))] := by
  refine q_start_r [(0, .ref a0), (1, .int (iI x1))] RX1 rfl (by decide +kernel) rfl (Nat.le_of_ble_eq_true rfl) (Or.inl ⟨_, rfl⟩) (fun κ ok fin => ?_)
  unfold f_X1_entry at h
  refine j_aload_n (pc := 0) 0 ok dX1_entry_0 rfl rfl ?_
  refine gf_X1_22_1 (pc := 1) 0 ok rfl dX1_entry_1 ?_
  refine j_iload_n (pc := 4) 1 ok dX1_entry_4 rfl rfl ?_
  refine j_iadd (pc := 5) ok dX1_entry_5 ?_
  refine j_bipush (pc := 6) ok dX1_entry_6 (by decide) ?_
  refine j_irem (pc := 8) ok dX1_entry_8 (by decide) (by decide) h (fun h => ?_)
  refine j_istore_n (pc := 9) (lv' := [(2, .int (iI ((a0_oldest + x1).tmod 14))), (0, .ref a0), (1, .int (iI x1))]) ok dX1_entry_9 rfl (by decide) rfl ?_
  refine j_iload_n (pc := 10) 0 ok dX1_entry_10 rfl rfl ?_
  refine jn_use (P := fun z4 => q_J D κ 3 0 0 [(a0, .inr (1, [.ref a0_ring, .int (iI a0_oldest), .int (iI a0_count)])), (a0_ring, .inl (cs.2.2.1, 14, .inr (.inr (.inr (.inr (fun j => some (a0_ringQ j)))))))] [] 33 [.ref (a0_ringQ ((a0_oldest + x1).tmod 14).toNat)]) h (fun z4 h => ?_) (fun k2 hk2 h => ?_)
  · obtain rfl := Option.some.inj h
    exact fin _ 33 dX1_entry_33
  · refine jn_use (P := fun z3 => q_J D κ 3 0 0 [(a0, .inr (1, [.ref a0_ring, .int (iI a0_oldest), .int (iI a0_count)])), (a0_ring, .inl (cs.2.2.1, 14, .inr (.inr (.inr (.inr (fun j => some (a0_ringQ j)))))))] [] 32 []) h (fun z3 h => ?_) (fun k1 hk1 h => ?_)
    · cases h
    · refine j_if_lt (pc := 11) 32 ok dX1_entry_11 (by decide) h (fun h => ?_) (fun h => ?_)
      · refine j_lv [] rfl ?_
        exact hk1 () h
      · refine j_iload_n (pc := 14) 0 ok dX1_entry_14 rfl rfl ?_
        refine j_aload_n (pc := 15) 1 ok dX1_entry_15 rfl rfl ?_
        refine gf_X1_11_1 (pc := 16) 0 ok rfl dX1_entry_16 ?_
        refine j_alen (pc := 19) 1 2 ok rfl rfl dX1_entry_19 ?_
        refine j_icmp_ge (pc := 20) 32 ok dX1_entry_20 (by decide) h (fun h => ?_) (fun h => ?_)
        · refine j_lv [] rfl ?_
          exact hk1 () h
        · refine j_aload_n (pc := 23) 1 ok dX1_entry_23 rfl rfl ?_
          refine gf_X1_11_1 (pc := 24) 0 ok rfl dX1_entry_24 ?_
          refine j_iload_n (pc := 27) 0 ok dX1_entry_27 rfl rfl ?_
          refine j_aald (pc := 28) 1 ok rfl dX1_entry_28 h (fun h => ?_)
          refine j_goto (pc := 29) 33 ok dX1_entry_29 (by decide) ?_
          refine j_lv [] rfl ?_
          exact hk2 () h
def f_X1_remember (a0_oldest : Int) (a0_count : Int) (a0_ringS : (Nat → Int)) (a0_ringC : (Nat → Int)) (a0_ringM : (Nat → Int)) (a0_ringF : (Nat → Nat → Int)) (a1_size : Int) (a1_caret : Int) (a1_from : Int) (a1_marksF : (Nat → Int)) : Option (Int × Int × (Nat → Int) × (Nat → Int) × (Nat → Int) × (Nat → Nat → Int)) := jn (fun (z2 : Int × Int) => bd (f_X1_entry z2.1 z2.2) (fun r3 => gIn r3 14 (bd (f_X0_become (a0_ringS r3.toNat) (a0_ringC r3.toNat) (a0_ringM r3.toNat) (a0_ringF r3.toNat) a1_size a1_caret a1_from a1_marksF) (fun r4 => some (z2.1, z2.2 + 1, va_up a0_ringS r3.toNat r4.1, va_up a0_ringC r3.toNat r4.2.1, va_up a0_ringM r3.toNat r4.2.2.1, va_up a0_ringF r3.toNat r4.2.2.2))))) (fun k1 => cLt a0_count 14 (k1 (a0_oldest, a0_count)) (gR (a0_oldest + 1) (k1 ((a0_oldest + 1).tmod 14, 13))))
set_option maxRecDepth 100000 in
set_option maxHeartbeats 4000000 in
theorem k_X1_remember {D : va_G} {cs : q_CS} {a0 a0_ring a1 a1_marks : Nat} {a0_oldest a0_count a1_size a1_caret a1_from : Int} {a0_ringS a0_ringC a0_ringM a1_marksF : (Nat → Int)} {a0_ringF : (Nat → Nat → Int)} {a0_ringQ a0_ringM0 : Nat → Nat} {r : (Int × Int × (Nat → Int) × (Nat → Int) × (Nat → Int) × (Nat → Nat → Int))} (h : f_X1_remember a0_oldest a0_count a0_ringS a0_ringC a0_ringM a0_ringF a1_size a1_caret a1_from a1_marksF = some r) : q_M D cs yX1_remember cX1_remember 3 none 3 63 [.ref a0, .ref a1] ([(a0, .inr (1, [.ref a0_ring, .int (iI a0_oldest), .int (iI a0_count)])), (a0_ring, .inl (cs.2.2.1, 14, .inr (.inr (.inr (.inr (fun j => some (a0_ringQ j))))))), (a1, .inr (0, [.ref a1_marks, .int (iI a1_size), .int (iI a1_caret), .int (iI a1_from)])), (a1_marks, .inl (cs.1, 180, .inl (aI a1_marksF)))] ++ q_ring cs a0_ringQ a0_ringM0 a0_ringS a0_ringC a0_ringM a0_ringF) none ([(a0, .inr (1, [.ref a0_ring, .int (iI r.1), .int (iI r.2.1)])), (a0_ring, .inl (cs.2.2.1, 14, .inr (.inr (.inr (.inr (fun j => some (a0_ringQ j))))))), (a1, .inr (0, [.ref a1_marks, .int (iI a1_size), .int (iI a1_caret), .int (iI a1_from)])), (a1_marks, .inl (cs.1, 180, .inl (aI a1_marksF)))] ++ q_ring cs a0_ringQ a0_ringM0 r.2.2.1 r.2.2.2.1 r.2.2.2.2.1 r.2.2.2.2.2) := by
  refine q_start_v [(0, .ref a0), (1, .ref a1)] RX1 rfl (by decide +kernel) rfl (Nat.le_of_ble_eq_true rfl) (fun κ ok fin => ?_)
  unfold f_X1_remember at h
  refine j_aload_n (pc := 0) 0 ok dX1_remember_0 rfl rfl ?_
  refine gf_X1_18_1 (pc := 1) 0 ok rfl dX1_remember_1 ?_
  refine j_bipush (pc := 4) ok dX1_remember_4 (by decide) ?_
  refine jn_use (P := fun z2 => q_J D κ 3 0 0 ([(a0, .inr (1, [.ref a0_ring, .int (iI z2.1), .int (iI z2.2)])), (a0_ring, .inl (cs.2.2.1, 14, .inr (.inr (.inr (.inr (fun j => some (a0_ringQ j))))))), (a1, .inr (0, [.ref a1_marks, .int (iI a1_size), .int (iI a1_caret), .int (iI a1_from)])), (a1_marks, .inl (cs.1, 180, .inl (aI a1_marksF)))] ++ q_ring cs a0_ringQ a0_ringM0 a0_ringS a0_ringC a0_ringM a0_ringF) [(0, .ref a0), (1, .ref a1)] 28 []) h (fun z2 h => ?_) (fun k1 hk1 h => ?_)
  · refine j_aload_n (pc := 28) 0 ok dX1_remember_28 rfl rfl ?_
    refine j_aload_n (pc := 29) 0 ok dX1_remember_29 rfl rfl ?_
    refine gf_X1_18_1 (pc := 30) 0 ok rfl dX1_remember_30 ?_
    obtain ⟨r3, hr3, h⟩ := bd_inv h
    refine j_callV (pc := 33) ok (k_X1_entry (a0 := a0) (a0_ring := a0_ring) (a0_ringQ := a0_ringQ) (a0_oldest := z2.1) (a0_count := z2.2) (x1 := z2.2) hr3) gV_X1_25 ⟨rfl, hd_X1_entry⟩ [0, 1] (by decide) rfl rfl 0 rfl rfl rfl rfl ⟨Nat.zero_le _, Nat.zero_le _⟩ (Nat.le_of_ble_eq_true rfl) dX1_remember_33 rfl ([(a0, .inr (1, [.ref a0_ring, .int (iI z2.1), .int (iI z2.2)])), (a0_ring, .inl (cs.2.2.1, 14, .inr (.inr (.inr (.inr (fun j => some (a0_ringQ j))))))), (a1, .inr (0, [.ref a1_marks, .int (iI a1_size), .int (iI a1_caret), .int (iI a1_from)])), (a1_marks, .inl (cs.1, 180, .inl (aI a1_marksF)))] ++ q_ring cs a0_ringQ a0_ringM0 a0_ringS a0_ringC a0_ringM a0_ringF) rfl ?_
    refine j_astore_n (pc := 36) (lv' := [(2, .ref (a0_ringQ r3.toNat)), (0, .ref a0), (1, .ref a1)]) ok dX1_remember_36 rfl (by decide) rfl ?_
    refine j_aload_n (pc := 37) 0 ok dX1_remember_37 rfl rfl ?_
    refine j_ifnull (pc := 38) ok dX1_remember_38 ?_
    refine j_aload_n (pc := 41) 0 ok dX1_remember_41 rfl rfl ?_
    refine j_aload_n (pc := 42) 2 ok dX1_remember_42 rfl rfl ?_
    obtain ⟨hi, h⟩ := gIn_inv h
    obtain ⟨r4, hr4, h9⟩ := bd_inv h
    rcases q_14 hi with rfl | rfl | rfl | rfl | rfl | rfl | rfl | rfl | rfl | rfl | rfl | rfl | rfl | rfl
    · have h := h9
      refine j_callV (pc := 43) ok (k_X0_become (a0 := a0_ringQ 0) (a0_marks := a0_ringM0 0) (a1 := a1) (a1_marks := a1_marks) (a0_size := a0_ringS 0) (a0_caret := a0_ringC 0) (a0_from := a0_ringM 0) (a0_marksF := a0_ringF 0) (a1_size := a1_size) (a1_caret := a1_caret) (a1_from := a1_from) (a1_marksF := a1_marksF) hr4) gV_X1_29 ⟨rfl, hd_X0_become⟩ [4, 5, 2, 3] (by decide) rfl rfl 4 rfl rfl rfl rfl ⟨Nat.zero_le _, Nat.zero_le _⟩ (Nat.le_of_ble_eq_true rfl) dX1_remember_43 rfl ([(a0, .inr (1, [.ref a0_ring, .int (iI z2.1), .int (iI z2.2)])), (a0_ring, .inl (cs.2.2.1, 14, .inr (.inr (.inr (.inr (fun j => some (a0_ringQ j))))))), (a1, .inr (0, [.ref a1_marks, .int (iI a1_size), .int (iI a1_caret), .int (iI a1_from)])), (a1_marks, .inl (cs.1, 180, .inl (aI a1_marksF)))] ++ q_ring cs a0_ringQ a0_ringM0 (va_up a0_ringS 0 r4.1) (va_up a0_ringC 0 r4.2.1) (va_up a0_ringM 0 r4.2.2.1) (va_up a0_ringF 0 r4.2.2.2)) rfl ?_
      refine j_aload_n (pc := 46) 1 ok dX1_remember_46 rfl rfl ?_
      refine j_dup (pc := 47) ok dX1_remember_47 rfl ?_
      refine gf_X1_18_1 (pc := 48) 0 ok rfl dX1_remember_48 ?_
      refine j_iconst (pc := 51) ok dX1_remember_51 ?_
      refine j_iadd (pc := 52) ok dX1_remember_52 ?_
      refine pf_X1_18_1 (pc := 53) 0 ok rfl dX1_remember_53 ([(a0, .inr (1, [.ref a0_ring, .int (iI z2.1), .int (iI (z2.2 + 1))])), (a0_ring, .inl (cs.2.2.1, 14, .inr (.inr (.inr (.inr (fun j => some (a0_ringQ j))))))), (a1, .inr (0, [.ref a1_marks, .int (iI a1_size), .int (iI a1_caret), .int (iI a1_from)])), (a1_marks, .inl (cs.1, 180, .inl (aI a1_marksF)))] ++ q_ring cs a0_ringQ a0_ringM0 (va_up a0_ringS 0 r4.1) (va_up a0_ringC 0 r4.2.1) (va_up a0_ringM 0 r4.2.2.1) (va_up a0_ringF 0 r4.2.2.2)) rfl ?_
      obtain rfl := Option.some.inj h
      exact fin _ 56 dX1_remember_56
    · have h := h9
      refine j_callV (pc := 43) ok (k_X0_become (a0 := a0_ringQ 1) (a0_marks := a0_ringM0 1) (a1 := a1) (a1_marks := a1_marks) (a0_size := a0_ringS 1) (a0_caret := a0_ringC 1) (a0_from := a0_ringM 1) (a0_marksF := a0_ringF 1) (a1_size := a1_size) (a1_caret := a1_caret) (a1_from := a1_from) (a1_marksF := a1_marksF) hr4) gV_X1_29 ⟨rfl, hd_X0_become⟩ [6, 7, 2, 3] (by decide) rfl rfl 6 rfl rfl rfl rfl ⟨Nat.zero_le _, Nat.zero_le _⟩ (Nat.le_of_ble_eq_true rfl) dX1_remember_43 rfl ([(a0, .inr (1, [.ref a0_ring, .int (iI z2.1), .int (iI z2.2)])), (a0_ring, .inl (cs.2.2.1, 14, .inr (.inr (.inr (.inr (fun j => some (a0_ringQ j))))))), (a1, .inr (0, [.ref a1_marks, .int (iI a1_size), .int (iI a1_caret), .int (iI a1_from)])), (a1_marks, .inl (cs.1, 180, .inl (aI a1_marksF)))] ++ q_ring cs a0_ringQ a0_ringM0 (va_up a0_ringS 1 r4.1) (va_up a0_ringC 1 r4.2.1) (va_up a0_ringM 1 r4.2.2.1) (va_up a0_ringF 1 r4.2.2.2)) rfl ?_
      refine j_aload_n (pc := 46) 1 ok dX1_remember_46 rfl rfl ?_
      refine j_dup (pc := 47) ok dX1_remember_47 rfl ?_
      refine gf_X1_18_1 (pc := 48) 0 ok rfl dX1_remember_48 ?_
      refine j_iconst (pc := 51) ok dX1_remember_51 ?_
      refine j_iadd (pc := 52) ok dX1_remember_52 ?_
      refine pf_X1_18_1 (pc := 53) 0 ok rfl dX1_remember_53 ([(a0, .inr (1, [.ref a0_ring, .int (iI z2.1), .int (iI (z2.2 + 1))])), (a0_ring, .inl (cs.2.2.1, 14, .inr (.inr (.inr (.inr (fun j => some (a0_ringQ j))))))), (a1, .inr (0, [.ref a1_marks, .int (iI a1_size), .int (iI a1_caret), .int (iI a1_from)])), (a1_marks, .inl (cs.1, 180, .inl (aI a1_marksF)))] ++ q_ring cs a0_ringQ a0_ringM0 (va_up a0_ringS 1 r4.1) (va_up a0_ringC 1 r4.2.1) (va_up a0_ringM 1 r4.2.2.1) (va_up a0_ringF 1 r4.2.2.2)) rfl ?_
      obtain rfl := Option.some.inj h
      exact fin _ 56 dX1_remember_56
    · have h := h9
      refine j_callV (pc := 43) ok (k_X0_become (a0 := a0_ringQ 2) (a0_marks := a0_ringM0 2) (a1 := a1) (a1_marks := a1_marks) (a0_size := a0_ringS 2) (a0_caret := a0_ringC 2) (a0_from := a0_ringM 2) (a0_marksF := a0_ringF 2) (a1_size := a1_size) (a1_caret := a1_caret) (a1_from := a1_from) (a1_marksF := a1_marksF) hr4) gV_X1_29 ⟨rfl, hd_X0_become⟩ [8, 9, 2, 3] (by decide) rfl rfl 8 rfl rfl rfl rfl ⟨Nat.zero_le _, Nat.zero_le _⟩ (Nat.le_of_ble_eq_true rfl) dX1_remember_43 rfl ([(a0, .inr (1, [.ref a0_ring, .int (iI z2.1), .int (iI z2.2)])), (a0_ring, .inl (cs.2.2.1, 14, .inr (.inr (.inr (.inr (fun j => some (a0_ringQ j))))))), (a1, .inr (0, [.ref a1_marks, .int (iI a1_size), .int (iI a1_caret), .int (iI a1_from)])), (a1_marks, .inl (cs.1, 180, .inl (aI a1_marksF)))] ++ q_ring cs a0_ringQ a0_ringM0 (va_up a0_ringS 2 r4.1) (va_up a0_ringC 2 r4.2.1) (va_up a0_ringM 2 r4.2.2.1) (va_up a0_ringF 2 r4.2.2.2)) rfl ?_
      refine j_aload_n (pc := 46) 1 ok dX1_remember_46 rfl rfl ?_
      refine j_dup (pc := 47) ok dX1_remember_47 rfl ?_
      refine gf_X1_18_1 (pc := 48) 0 ok rfl dX1_remember_48 ?_
      refine j_iconst (pc := 51) ok dX1_remember_51 ?_
      refine j_iadd (pc := 52) ok dX1_remember_52 ?_
      refine pf_X1_18_1 (pc := 53) 0 ok rfl dX1_remember_53 ([(a0, .inr (1, [.ref a0_ring, .int (iI z2.1), .int (iI (z2.2 + 1))])), (a0_ring, .inl (cs.2.2.1, 14, .inr (.inr (.inr (.inr (fun j => some (a0_ringQ j))))))), (a1, .inr (0, [.ref a1_marks, .int (iI a1_size), .int (iI a1_caret), .int (iI a1_from)])), (a1_marks, .inl (cs.1, 180, .inl (aI a1_marksF)))] ++ q_ring cs a0_ringQ a0_ringM0 (va_up a0_ringS 2 r4.1) (va_up a0_ringC 2 r4.2.1) (va_up a0_ringM 2 r4.2.2.1) (va_up a0_ringF 2 r4.2.2.2)) rfl ?_
      obtain rfl := Option.some.inj h
      exact fin _ 56 dX1_remember_56
    · have h := h9
      refine j_callV (pc := 43) ok (k_X0_become (a0 := a0_ringQ 3) (a0_marks := a0_ringM0 3) (a1 := a1) (a1_marks := a1_marks) (a0_size := a0_ringS 3) (a0_caret := a0_ringC 3) (a0_from := a0_ringM 3) (a0_marksF := a0_ringF 3) (a1_size := a1_size) (a1_caret := a1_caret) (a1_from := a1_from) (a1_marksF := a1_marksF) hr4) gV_X1_29 ⟨rfl, hd_X0_become⟩ [10, 11, 2, 3] (by decide) rfl rfl 10 rfl rfl rfl rfl ⟨Nat.zero_le _, Nat.zero_le _⟩ (Nat.le_of_ble_eq_true rfl) dX1_remember_43 rfl ([(a0, .inr (1, [.ref a0_ring, .int (iI z2.1), .int (iI z2.2)])), (a0_ring, .inl (cs.2.2.1, 14, .inr (.inr (.inr (.inr (fun j => some (a0_ringQ j))))))), (a1, .inr (0, [.ref a1_marks, .int (iI a1_size), .int (iI a1_caret), .int (iI a1_from)])), (a1_marks, .inl (cs.1, 180, .inl (aI a1_marksF)))] ++ q_ring cs a0_ringQ a0_ringM0 (va_up a0_ringS 3 r4.1) (va_up a0_ringC 3 r4.2.1) (va_up a0_ringM 3 r4.2.2.1) (va_up a0_ringF 3 r4.2.2.2)) rfl ?_
      refine j_aload_n (pc := 46) 1 ok dX1_remember_46 rfl rfl ?_
      refine j_dup (pc := 47) ok dX1_remember_47 rfl ?_
      refine gf_X1_18_1 (pc := 48) 0 ok rfl dX1_remember_48 ?_
      refine j_iconst (pc := 51) ok dX1_remember_51 ?_
      refine j_iadd (pc := 52) ok dX1_remember_52 ?_
      refine pf_X1_18_1 (pc := 53) 0 ok rfl dX1_remember_53 ([(a0, .inr (1, [.ref a0_ring, .int (iI z2.1), .int (iI (z2.2 + 1))])), (a0_ring, .inl (cs.2.2.1, 14, .inr (.inr (.inr (.inr (fun j => some (a0_ringQ j))))))), (a1, .inr (0, [.ref a1_marks, .int (iI a1_size), .int (iI a1_caret), .int (iI a1_from)])), (a1_marks, .inl (cs.1, 180, .inl (aI a1_marksF)))] ++ q_ring cs a0_ringQ a0_ringM0 (va_up a0_ringS 3 r4.1) (va_up a0_ringC 3 r4.2.1) (va_up a0_ringM 3 r4.2.2.1) (va_up a0_ringF 3 r4.2.2.2)) rfl ?_
      obtain rfl := Option.some.inj h
      exact fin _ 56 dX1_remember_56
    · have h := h9
      refine j_callV (pc := 43) ok (k_X0_become (a0 := a0_ringQ 4) (a0_marks := a0_ringM0 4) (a1 := a1) (a1_marks := a1_marks) (a0_size := a0_ringS 4) (a0_caret := a0_ringC 4) (a0_from := a0_ringM 4) (a0_marksF := a0_ringF 4) (a1_size := a1_size) (a1_caret := a1_caret) (a1_from := a1_from) (a1_marksF := a1_marksF) hr4) gV_X1_29 ⟨rfl, hd_X0_become⟩ [12, 13, 2, 3] (by decide) rfl rfl 12 rfl rfl rfl rfl ⟨Nat.zero_le _, Nat.zero_le _⟩ (Nat.le_of_ble_eq_true rfl) dX1_remember_43 rfl ([(a0, .inr (1, [.ref a0_ring, .int (iI z2.1), .int (iI z2.2)])), (a0_ring, .inl (cs.2.2.1, 14, .inr (.inr (.inr (.inr (fun j => some (a0_ringQ j))))))), (a1, .inr (0, [.ref a1_marks, .int (iI a1_size), .int (iI a1_caret), .int (iI a1_from)])), (a1_marks, .inl (cs.1, 180, .inl (aI a1_marksF)))] ++ q_ring cs a0_ringQ a0_ringM0 (va_up a0_ringS 4 r4.1) (va_up a0_ringC 4 r4.2.1) (va_up a0_ringM 4 r4.2.2.1) (va_up a0_ringF 4 r4.2.2.2)) rfl ?_
      refine j_aload_n (pc := 46) 1 ok dX1_remember_46 rfl rfl ?_
      refine j_dup (pc := 47) ok dX1_remember_47 rfl ?_
      refine gf_X1_18_1 (pc := 48) 0 ok rfl dX1_remember_48 ?_
      refine j_iconst (pc := 51) ok dX1_remember_51 ?_
      refine j_iadd (pc := 52) ok dX1_remember_52 ?_
      refine pf_X1_18_1 (pc := 53) 0 ok rfl dX1_remember_53 ([(a0, .inr (1, [.ref a0_ring, .int (iI z2.1), .int (iI (z2.2 + 1))])), (a0_ring, .inl (cs.2.2.1, 14, .inr (.inr (.inr (.inr (fun j => some (a0_ringQ j))))))), (a1, .inr (0, [.ref a1_marks, .int (iI a1_size), .int (iI a1_caret), .int (iI a1_from)])), (a1_marks, .inl (cs.1, 180, .inl (aI a1_marksF)))] ++ q_ring cs a0_ringQ a0_ringM0 (va_up a0_ringS 4 r4.1) (va_up a0_ringC 4 r4.2.1) (va_up a0_ringM 4 r4.2.2.1) (va_up a0_ringF 4 r4.2.2.2)) rfl ?_
      obtain rfl := Option.some.inj h
      exact fin _ 56 dX1_remember_56
    · have h := h9
      refine j_callV (pc := 43) ok (k_X0_become (a0 := a0_ringQ 5) (a0_marks := a0_ringM0 5) (a1 := a1) (a1_marks := a1_marks) (a0_size := a0_ringS 5) (a0_caret := a0_ringC 5) (a0_from := a0_ringM 5) (a0_marksF := a0_ringF 5) (a1_size := a1_size) (a1_caret := a1_caret) (a1_from := a1_from) (a1_marksF := a1_marksF) hr4) gV_X1_29 ⟨rfl, hd_X0_become⟩ [14, 15, 2, 3] (by decide) rfl rfl 14 rfl rfl rfl rfl ⟨Nat.zero_le _, Nat.zero_le _⟩ (Nat.le_of_ble_eq_true rfl) dX1_remember_43 rfl ([(a0, .inr (1, [.ref a0_ring, .int (iI z2.1), .int (iI z2.2)])), (a0_ring, .inl (cs.2.2.1, 14, .inr (.inr (.inr (.inr (fun j => some (a0_ringQ j))))))), (a1, .inr (0, [.ref a1_marks, .int (iI a1_size), .int (iI a1_caret), .int (iI a1_from)])), (a1_marks, .inl (cs.1, 180, .inl (aI a1_marksF)))] ++ q_ring cs a0_ringQ a0_ringM0 (va_up a0_ringS 5 r4.1) (va_up a0_ringC 5 r4.2.1) (va_up a0_ringM 5 r4.2.2.1) (va_up a0_ringF 5 r4.2.2.2)) rfl ?_
      refine j_aload_n (pc := 46) 1 ok dX1_remember_46 rfl rfl ?_
      refine j_dup (pc := 47) ok dX1_remember_47 rfl ?_
      refine gf_X1_18_1 (pc := 48) 0 ok rfl dX1_remember_48 ?_
      refine j_iconst (pc := 51) ok dX1_remember_51 ?_
      refine j_iadd (pc := 52) ok dX1_remember_52 ?_
      refine pf_X1_18_1 (pc := 53) 0 ok rfl dX1_remember_53 ([(a0, .inr (1, [.ref a0_ring, .int (iI z2.1), .int (iI (z2.2 + 1))])), (a0_ring, .inl (cs.2.2.1, 14, .inr (.inr (.inr (.inr (fun j => some (a0_ringQ j))))))), (a1, .inr (0, [.ref a1_marks, .int (iI a1_size), .int (iI a1_caret), .int (iI a1_from)])), (a1_marks, .inl (cs.1, 180, .inl (aI a1_marksF)))] ++ q_ring cs a0_ringQ a0_ringM0 (va_up a0_ringS 5 r4.1) (va_up a0_ringC 5 r4.2.1) (va_up a0_ringM 5 r4.2.2.1) (va_up a0_ringF 5 r4.2.2.2)) rfl ?_
      obtain rfl := Option.some.inj h
      exact fin _ 56 dX1_remember_56
    · have h := h9
      refine j_callV (pc := 43) ok (k_X0_become (a0 := a0_ringQ 6) (a0_marks := a0_ringM0 6) (a1 := a1) (a1_marks := a1_marks) (a0_size := a0_ringS 6) (a0_caret := a0_ringC 6) (a0_from := a0_ringM 6) (a0_marksF := a0_ringF 6) (a1_size := a1_size) (a1_caret := a1_caret) (a1_from := a1_from) (a1_marksF := a1_marksF) hr4) gV_X1_29 ⟨rfl, hd_X0_become⟩ [16, 17, 2, 3] (by decide) rfl rfl 16 rfl rfl rfl rfl ⟨Nat.zero_le _, Nat.zero_le _⟩ (Nat.le_of_ble_eq_true rfl) dX1_remember_43 rfl ([(a0, .inr (1, [.ref a0_ring, .int (iI z2.1), .int (iI z2.2)])), (a0_ring, .inl (cs.2.2.1, 14, .inr (.inr (.inr (.inr (fun j => some (a0_ringQ j))))))), (a1, .inr (0, [.ref a1_marks, .int (iI a1_size), .int (iI a1_caret), .int (iI a1_from)])), (a1_marks, .inl (cs.1, 180, .inl (aI a1_marksF)))] ++ q_ring cs a0_ringQ a0_ringM0 (va_up a0_ringS 6 r4.1) (va_up a0_ringC 6 r4.2.1) (va_up a0_ringM 6 r4.2.2.1) (va_up a0_ringF 6 r4.2.2.2)) rfl ?_
      refine j_aload_n (pc := 46) 1 ok dX1_remember_46 rfl rfl ?_
      refine j_dup (pc := 47) ok dX1_remember_47 rfl ?_
      refine gf_X1_18_1 (pc := 48) 0 ok rfl dX1_remember_48 ?_
      refine j_iconst (pc := 51) ok dX1_remember_51 ?_
      refine j_iadd (pc := 52) ok dX1_remember_52 ?_
      refine pf_X1_18_1 (pc := 53) 0 ok rfl dX1_remember_53 ([(a0, .inr (1, [.ref a0_ring, .int (iI z2.1), .int (iI (z2.2 + 1))])), (a0_ring, .inl (cs.2.2.1, 14, .inr (.inr (.inr (.inr (fun j => some (a0_ringQ j))))))), (a1, .inr (0, [.ref a1_marks, .int (iI a1_size), .int (iI a1_caret), .int (iI a1_from)])), (a1_marks, .inl (cs.1, 180, .inl (aI a1_marksF)))] ++ q_ring cs a0_ringQ a0_ringM0 (va_up a0_ringS 6 r4.1) (va_up a0_ringC 6 r4.2.1) (va_up a0_ringM 6 r4.2.2.1) (va_up a0_ringF 6 r4.2.2.2)) rfl ?_
      obtain rfl := Option.some.inj h
      exact fin _ 56 dX1_remember_56
    · have h := h9
      refine j_callV (pc := 43) ok (k_X0_become (a0 := a0_ringQ 7) (a0_marks := a0_ringM0 7) (a1 := a1) (a1_marks := a1_marks) (a0_size := a0_ringS 7) (a0_caret := a0_ringC 7) (a0_from := a0_ringM 7) (a0_marksF := a0_ringF 7) (a1_size := a1_size) (a1_caret := a1_caret) (a1_from := a1_from) (a1_marksF := a1_marksF) hr4) gV_X1_29 ⟨rfl, hd_X0_become⟩ [18, 19, 2, 3] (by decide) rfl rfl 18 rfl rfl rfl rfl ⟨Nat.zero_le _, Nat.zero_le _⟩ (Nat.le_of_ble_eq_true rfl) dX1_remember_43 rfl ([(a0, .inr (1, [.ref a0_ring, .int (iI z2.1), .int (iI z2.2)])), (a0_ring, .inl (cs.2.2.1, 14, .inr (.inr (.inr (.inr (fun j => some (a0_ringQ j))))))), (a1, .inr (0, [.ref a1_marks, .int (iI a1_size), .int (iI a1_caret), .int (iI a1_from)])), (a1_marks, .inl (cs.1, 180, .inl (aI a1_marksF)))] ++ q_ring cs a0_ringQ a0_ringM0 (va_up a0_ringS 7 r4.1) (va_up a0_ringC 7 r4.2.1) (va_up a0_ringM 7 r4.2.2.1) (va_up a0_ringF 7 r4.2.2.2)) rfl ?_
      refine j_aload_n (pc := 46) 1 ok dX1_remember_46 rfl rfl ?_
      refine j_dup (pc := 47) ok dX1_remember_47 rfl ?_
      refine gf_X1_18_1 (pc := 48) 0 ok rfl dX1_remember_48 ?_
      refine j_iconst (pc := 51) ok dX1_remember_51 ?_
      refine j_iadd (pc := 52) ok dX1_remember_52 ?_
      refine pf_X1_18_1 (pc := 53) 0 ok rfl dX1_remember_53 ([(a0, .inr (1, [.ref a0_ring, .int (iI z2.1), .int (iI (z2.2 + 1))])), (a0_ring, .inl (cs.2.2.1, 14, .inr (.inr (.inr (.inr (fun j => some (a0_ringQ j))))))), (a1, .inr (0, [.ref a1_marks, .int (iI a1_size), .int (iI a1_caret), .int (iI a1_from)])), (a1_marks, .inl (cs.1, 180, .inl (aI a1_marksF)))] ++ q_ring cs a0_ringQ a0_ringM0 (va_up a0_ringS 7 r4.1) (va_up a0_ringC 7 r4.2.1) (va_up a0_ringM 7 r4.2.2.1) (va_up a0_ringF 7 r4.2.2.2)) rfl ?_
      obtain rfl := Option.some.inj h
      exact fin _ 56 dX1_remember_56
    · have h := h9
      refine j_callV (pc := 43) ok (k_X0_become (a0 := a0_ringQ 8) (a0_marks := a0_ringM0 8) (a1 := a1) (a1_marks := a1_marks) (a0_size := a0_ringS 8) (a0_caret := a0_ringC 8) (a0_from := a0_ringM 8) (a0_marksF := a0_ringF 8) (a1_size := a1_size) (a1_caret := a1_caret) (a1_from := a1_from) (a1_marksF := a1_marksF) hr4) gV_X1_29 ⟨rfl, hd_X0_become⟩ [20, 21, 2, 3] (by decide) rfl rfl 20 rfl rfl rfl rfl ⟨Nat.zero_le _, Nat.zero_le _⟩ (Nat.le_of_ble_eq_true rfl) dX1_remember_43 rfl ([(a0, .inr (1, [.ref a0_ring, .int (iI z2.1), .int (iI z2.2)])), (a0_ring, .inl (cs.2.2.1, 14, .inr (.inr (.inr (.inr (fun j => some (a0_ringQ j))))))), (a1, .inr (0, [.ref a1_marks, .int (iI a1_size), .int (iI a1_caret), .int (iI a1_from)])), (a1_marks, .inl (cs.1, 180, .inl (aI a1_marksF)))] ++ q_ring cs a0_ringQ a0_ringM0 (va_up a0_ringS 8 r4.1) (va_up a0_ringC 8 r4.2.1) (va_up a0_ringM 8 r4.2.2.1) (va_up a0_ringF 8 r4.2.2.2)) rfl ?_
      refine j_aload_n (pc := 46) 1 ok dX1_remember_46 rfl rfl ?_
      refine j_dup (pc := 47) ok dX1_remember_47 rfl ?_
      refine gf_X1_18_1 (pc := 48) 0 ok rfl dX1_remember_48 ?_
      refine j_iconst (pc := 51) ok dX1_remember_51 ?_
      refine j_iadd (pc := 52) ok dX1_remember_52 ?_
      refine pf_X1_18_1 (pc := 53) 0 ok rfl dX1_remember_53 ([(a0, .inr (1, [.ref a0_ring, .int (iI z2.1), .int (iI (z2.2 + 1))])), (a0_ring, .inl (cs.2.2.1, 14, .inr (.inr (.inr (.inr (fun j => some (a0_ringQ j))))))), (a1, .inr (0, [.ref a1_marks, .int (iI a1_size), .int (iI a1_caret), .int (iI a1_from)])), (a1_marks, .inl (cs.1, 180, .inl (aI a1_marksF)))] ++ q_ring cs a0_ringQ a0_ringM0 (va_up a0_ringS 8 r4.1) (va_up a0_ringC 8 r4.2.1) (va_up a0_ringM 8 r4.2.2.1) (va_up a0_ringF 8 r4.2.2.2)) rfl ?_
      obtain rfl := Option.some.inj h
      exact fin _ 56 dX1_remember_56
    · have h := h9
      refine j_callV (pc := 43) ok (k_X0_become (a0 := a0_ringQ 9) (a0_marks := a0_ringM0 9) (a1 := a1) (a1_marks := a1_marks) (a0_size := a0_ringS 9) (a0_caret := a0_ringC 9) (a0_from := a0_ringM 9) (a0_marksF := a0_ringF 9) (a1_size := a1_size) (a1_caret := a1_caret) (a1_from := a1_from) (a1_marksF := a1_marksF) hr4) gV_X1_29 ⟨rfl, hd_X0_become⟩ [22, 23, 2, 3] (by decide) rfl rfl 22 rfl rfl rfl rfl ⟨Nat.zero_le _, Nat.zero_le _⟩ (Nat.le_of_ble_eq_true rfl) dX1_remember_43 rfl ([(a0, .inr (1, [.ref a0_ring, .int (iI z2.1), .int (iI z2.2)])), (a0_ring, .inl (cs.2.2.1, 14, .inr (.inr (.inr (.inr (fun j => some (a0_ringQ j))))))), (a1, .inr (0, [.ref a1_marks, .int (iI a1_size), .int (iI a1_caret), .int (iI a1_from)])), (a1_marks, .inl (cs.1, 180, .inl (aI a1_marksF)))] ++ q_ring cs a0_ringQ a0_ringM0 (va_up a0_ringS 9 r4.1) (va_up a0_ringC 9 r4.2.1) (va_up a0_ringM 9 r4.2.2.1) (va_up a0_ringF 9 r4.2.2.2)) rfl ?_
      refine j_aload_n (pc := 46) 1 ok dX1_remember_46 rfl rfl ?_
      refine j_dup (pc := 47) ok dX1_remember_47 rfl ?_
      refine gf_X1_18_1 (pc := 48) 0 ok rfl dX1_remember_48 ?_
      refine j_iconst (pc := 51) ok dX1_remember_51 ?_
      refine j_iadd (pc := 52) ok dX1_remember_52 ?_
      refine pf_X1_18_1 (pc := 53) 0 ok rfl dX1_remember_53 ([(a0, .inr (1, [.ref a0_ring, .int (iI z2.1), .int (iI (z2.2 + 1))])), (a0_ring, .inl (cs.2.2.1, 14, .inr (.inr (.inr (.inr (fun j => some (a0_ringQ j))))))), (a1, .inr (0, [.ref a1_marks, .int (iI a1_size), .int (iI a1_caret), .int (iI a1_from)])), (a1_marks, .inl (cs.1, 180, .inl (aI a1_marksF)))] ++ q_ring cs a0_ringQ a0_ringM0 (va_up a0_ringS 9 r4.1) (va_up a0_ringC 9 r4.2.1) (va_up a0_ringM 9 r4.2.2.1) (va_up a0_ringF 9 r4.2.2.2)) rfl ?_
      obtain rfl := Option.some.inj h
      exact fin _ 56 dX1_remember_56
    · have h := h9
      refine j_callV (pc := 43) ok (k_X0_become (a0 := a0_ringQ 10) (a0_marks := a0_ringM0 10) (a1 := a1) (a1_marks := a1_marks) (a0_size := a0_ringS 10) (a0_caret := a0_ringC 10) (a0_from := a0_ringM 10) (a0_marksF := a0_ringF 10) (a1_size := a1_size) (a1_caret := a1_caret) (a1_from := a1_from) (a1_marksF := a1_marksF) hr4) gV_X1_29 ⟨rfl, hd_X0_become⟩ [24, 25, 2, 3] (by decide) rfl rfl 24 rfl rfl rfl rfl ⟨Nat.zero_le _, Nat.zero_le _⟩ (Nat.le_of_ble_eq_true rfl) dX1_remember_43 rfl ([(a0, .inr (1, [.ref a0_ring, .int (iI z2.1), .int (iI z2.2)])), (a0_ring, .inl (cs.2.2.1, 14, .inr (.inr (.inr (.inr (fun j => some (a0_ringQ j))))))), (a1, .inr (0, [.ref a1_marks, .int (iI a1_size), .int (iI a1_caret), .int (iI a1_from)])), (a1_marks, .inl (cs.1, 180, .inl (aI a1_marksF)))] ++ q_ring cs a0_ringQ a0_ringM0 (va_up a0_ringS 10 r4.1) (va_up a0_ringC 10 r4.2.1) (va_up a0_ringM 10 r4.2.2.1) (va_up a0_ringF 10 r4.2.2.2)) rfl ?_
      refine j_aload_n (pc := 46) 1 ok dX1_remember_46 rfl rfl ?_
      refine j_dup (pc := 47) ok dX1_remember_47 rfl ?_
      refine gf_X1_18_1 (pc := 48) 0 ok rfl dX1_remember_48 ?_
      refine j_iconst (pc := 51) ok dX1_remember_51 ?_
      refine j_iadd (pc := 52) ok dX1_remember_52 ?_
      refine pf_X1_18_1 (pc := 53) 0 ok rfl dX1_remember_53 ([(a0, .inr (1, [.ref a0_ring, .int (iI z2.1), .int (iI (z2.2 + 1))])), (a0_ring, .inl (cs.2.2.1, 14, .inr (.inr (.inr (.inr (fun j => some (a0_ringQ j))))))), (a1, .inr (0, [.ref a1_marks, .int (iI a1_size), .int (iI a1_caret), .int (iI a1_from)])), (a1_marks, .inl (cs.1, 180, .inl (aI a1_marksF)))] ++ q_ring cs a0_ringQ a0_ringM0 (va_up a0_ringS 10 r4.1) (va_up a0_ringC 10 r4.2.1) (va_up a0_ringM 10 r4.2.2.1) (va_up a0_ringF 10 r4.2.2.2)) rfl ?_
      obtain rfl := Option.some.inj h
      exact fin _ 56 dX1_remember_56
    · have h := h9
      refine j_callV (pc := 43) ok (k_X0_become (a0 := a0_ringQ 11) (a0_marks := a0_ringM0 11) (a1 := a1) (a1_marks := a1_marks) (a0_size := a0_ringS 11) (a0_caret := a0_ringC 11) (a0_from := a0_ringM 11) (a0_marksF := a0_ringF 11) (a1_size := a1_size) (a1_caret := a1_caret) (a1_from := a1_from) (a1_marksF := a1_marksF) hr4) gV_X1_29 ⟨rfl, hd_X0_become⟩ [26, 27, 2, 3] (by decide) rfl rfl 26 rfl rfl rfl rfl ⟨Nat.zero_le _, Nat.zero_le _⟩ (Nat.le_of_ble_eq_true rfl) dX1_remember_43 rfl ([(a0, .inr (1, [.ref a0_ring, .int (iI z2.1), .int (iI z2.2)])), (a0_ring, .inl (cs.2.2.1, 14, .inr (.inr (.inr (.inr (fun j => some (a0_ringQ j))))))), (a1, .inr (0, [.ref a1_marks, .int (iI a1_size), .int (iI a1_caret), .int (iI a1_from)])), (a1_marks, .inl (cs.1, 180, .inl (aI a1_marksF)))] ++ q_ring cs a0_ringQ a0_ringM0 (va_up a0_ringS 11 r4.1) (va_up a0_ringC 11 r4.2.1) (va_up a0_ringM 11 r4.2.2.1) (va_up a0_ringF 11 r4.2.2.2)) rfl ?_
      refine j_aload_n (pc := 46) 1 ok dX1_remember_46 rfl rfl ?_
      refine j_dup (pc := 47) ok dX1_remember_47 rfl ?_
      refine gf_X1_18_1 (pc := 48) 0 ok rfl dX1_remember_48 ?_
      refine j_iconst (pc := 51) ok dX1_remember_51 ?_
      refine j_iadd (pc := 52) ok dX1_remember_52 ?_
      refine pf_X1_18_1 (pc := 53) 0 ok rfl dX1_remember_53 ([(a0, .inr (1, [.ref a0_ring, .int (iI z2.1), .int (iI (z2.2 + 1))])), (a0_ring, .inl (cs.2.2.1, 14, .inr (.inr (.inr (.inr (fun j => some (a0_ringQ j))))))), (a1, .inr (0, [.ref a1_marks, .int (iI a1_size), .int (iI a1_caret), .int (iI a1_from)])), (a1_marks, .inl (cs.1, 180, .inl (aI a1_marksF)))] ++ q_ring cs a0_ringQ a0_ringM0 (va_up a0_ringS 11 r4.1) (va_up a0_ringC 11 r4.2.1) (va_up a0_ringM 11 r4.2.2.1) (va_up a0_ringF 11 r4.2.2.2)) rfl ?_
      obtain rfl := Option.some.inj h
      exact fin _ 56 dX1_remember_56
    · have h := h9
      refine j_callV (pc := 43) ok (k_X0_become (a0 := a0_ringQ 12) (a0_marks := a0_ringM0 12) (a1 := a1) (a1_marks := a1_marks) (a0_size := a0_ringS 12) (a0_caret := a0_ringC 12) (a0_from := a0_ringM 12) (a0_marksF := a0_ringF 12) (a1_size := a1_size) (a1_caret := a1_caret) (a1_from := a1_from) (a1_marksF := a1_marksF) hr4) gV_X1_29 ⟨rfl, hd_X0_become⟩ [28, 29, 2, 3] (by decide) rfl rfl 28 rfl rfl rfl rfl ⟨Nat.zero_le _, Nat.zero_le _⟩ (Nat.le_of_ble_eq_true rfl) dX1_remember_43 rfl ([(a0, .inr (1, [.ref a0_ring, .int (iI z2.1), .int (iI z2.2)])), (a0_ring, .inl (cs.2.2.1, 14, .inr (.inr (.inr (.inr (fun j => some (a0_ringQ j))))))), (a1, .inr (0, [.ref a1_marks, .int (iI a1_size), .int (iI a1_caret), .int (iI a1_from)])), (a1_marks, .inl (cs.1, 180, .inl (aI a1_marksF)))] ++ q_ring cs a0_ringQ a0_ringM0 (va_up a0_ringS 12 r4.1) (va_up a0_ringC 12 r4.2.1) (va_up a0_ringM 12 r4.2.2.1) (va_up a0_ringF 12 r4.2.2.2)) rfl ?_
      refine j_aload_n (pc := 46) 1 ok dX1_remember_46 rfl rfl ?_
      refine j_dup (pc := 47) ok dX1_remember_47 rfl ?_
      refine gf_X1_18_1 (pc := 48) 0 ok rfl dX1_remember_48 ?_
      refine j_iconst (pc := 51) ok dX1_remember_51 ?_
      refine j_iadd (pc := 52) ok dX1_remember_52 ?_
      refine pf_X1_18_1 (pc := 53) 0 ok rfl dX1_remember_53 ([(a0, .inr (1, [.ref a0_ring, .int (iI z2.1), .int (iI (z2.2 + 1))])), (a0_ring, .inl (cs.2.2.1, 14, .inr (.inr (.inr (.inr (fun j => some (a0_ringQ j))))))), (a1, .inr (0, [.ref a1_marks, .int (iI a1_size), .int (iI a1_caret), .int (iI a1_from)])), (a1_marks, .inl (cs.1, 180, .inl (aI a1_marksF)))] ++ q_ring cs a0_ringQ a0_ringM0 (va_up a0_ringS 12 r4.1) (va_up a0_ringC 12 r4.2.1) (va_up a0_ringM 12 r4.2.2.1) (va_up a0_ringF 12 r4.2.2.2)) rfl ?_
      obtain rfl := Option.some.inj h
      exact fin _ 56 dX1_remember_56
    · have h := h9
      refine j_callV (pc := 43) ok (k_X0_become (a0 := a0_ringQ 13) (a0_marks := a0_ringM0 13) (a1 := a1) (a1_marks := a1_marks) (a0_size := a0_ringS 13) (a0_caret := a0_ringC 13) (a0_from := a0_ringM 13) (a0_marksF := a0_ringF 13) (a1_size := a1_size) (a1_caret := a1_caret) (a1_from := a1_from) (a1_marksF := a1_marksF) hr4) gV_X1_29 ⟨rfl, hd_X0_become⟩ [30, 31, 2, 3] (by decide) rfl rfl 30 rfl rfl rfl rfl ⟨Nat.zero_le _, Nat.zero_le _⟩ (Nat.le_of_ble_eq_true rfl) dX1_remember_43 rfl ([(a0, .inr (1, [.ref a0_ring, .int (iI z2.1), .int (iI z2.2)])), (a0_ring, .inl (cs.2.2.1, 14, .inr (.inr (.inr (.inr (fun j => some (a0_ringQ j))))))), (a1, .inr (0, [.ref a1_marks, .int (iI a1_size), .int (iI a1_caret), .int (iI a1_from)])), (a1_marks, .inl (cs.1, 180, .inl (aI a1_marksF)))] ++ q_ring cs a0_ringQ a0_ringM0 (va_up a0_ringS 13 r4.1) (va_up a0_ringC 13 r4.2.1) (va_up a0_ringM 13 r4.2.2.1) (va_up a0_ringF 13 r4.2.2.2)) rfl ?_
      refine j_aload_n (pc := 46) 1 ok dX1_remember_46 rfl rfl ?_
      refine j_dup (pc := 47) ok dX1_remember_47 rfl ?_
      refine gf_X1_18_1 (pc := 48) 0 ok rfl dX1_remember_48 ?_
      refine j_iconst (pc := 51) ok dX1_remember_51 ?_
      refine j_iadd (pc := 52) ok dX1_remember_52 ?_
      refine pf_X1_18_1 (pc := 53) 0 ok rfl dX1_remember_53 ([(a0, .inr (1, [.ref a0_ring, .int (iI z2.1), .int (iI (z2.2 + 1))])), (a0_ring, .inl (cs.2.2.1, 14, .inr (.inr (.inr (.inr (fun j => some (a0_ringQ j))))))), (a1, .inr (0, [.ref a1_marks, .int (iI a1_size), .int (iI a1_caret), .int (iI a1_from)])), (a1_marks, .inl (cs.1, 180, .inl (aI a1_marksF)))] ++ q_ring cs a0_ringQ a0_ringM0 (va_up a0_ringS 13 r4.1) (va_up a0_ringC 13 r4.2.1) (va_up a0_ringM 13 r4.2.2.1) (va_up a0_ringF 13 r4.2.2.2)) rfl ?_
      obtain rfl := Option.some.inj h
      exact fin _ 56 dX1_remember_56
  · refine j_icmp_lt (pc := 6) 28 ok dX1_remember_6 (by decide) h (fun h => ?_) (fun h => ?_)
    · exact hk1 (a0_oldest, a0_count) h
    · refine j_aload_n (pc := 9) 0 ok dX1_remember_9 rfl rfl ?_
      refine j_aload_n (pc := 10) 0 ok dX1_remember_10 rfl rfl ?_
      refine gf_X1_22_1 (pc := 11) 0 ok rfl dX1_remember_11 ?_
      refine j_iconst (pc := 14) ok dX1_remember_14 ?_
      refine j_iadd (pc := 15) ok dX1_remember_15 ?_
      refine j_bipush (pc := 16) ok dX1_remember_16 (by decide) ?_
      refine j_irem (pc := 18) ok dX1_remember_18 (by decide) (by decide) h (fun h => ?_)
      refine pf_X1_22_1 (pc := 19) 0 ok rfl dX1_remember_19 ([(a0, .inr (1, [.ref a0_ring, .int (iI ((a0_oldest + 1).tmod 14)), .int (iI a0_count)])), (a0_ring, .inl (cs.2.2.1, 14, .inr (.inr (.inr (.inr (fun j => some (a0_ringQ j))))))), (a1, .inr (0, [.ref a1_marks, .int (iI a1_size), .int (iI a1_caret), .int (iI a1_from)])), (a1_marks, .inl (cs.1, 180, .inl (aI a1_marksF)))] ++ q_ring cs a0_ringQ a0_ringM0 a0_ringS a0_ringC a0_ringM a0_ringF) rfl ?_
      refine j_aload_n (pc := 22) 0 ok dX1_remember_22 rfl rfl ?_
      refine j_bipush (pc := 23) ok dX1_remember_23 (by decide) ?_
      refine pf_X1_18_1 (pc := 25) 0 ok rfl dX1_remember_25 ([(a0, .inr (1, [.ref a0_ring, .int (iI ((a0_oldest + 1).tmod 14)), .int (iI 13)])), (a0_ring, .inl (cs.2.2.1, 14, .inr (.inr (.inr (.inr (fun j => some (a0_ringQ j))))))), (a1, .inr (0, [.ref a1_marks, .int (iI a1_size), .int (iI a1_caret), .int (iI a1_from)])), (a1_marks, .inl (cs.1, 180, .inl (aI a1_marksF)))] ++ q_ring cs a0_ringQ a0_ringM0 a0_ringS a0_ringC a0_ringM a0_ringF) rfl ?_
      exact hk1 ((a0_oldest + 1).tmod 14, 13) h
