def f_X8_refused (a0_refusal : Int) (x1 : Int) : Option (Int × Int) := jn (fun (z2 : Int) => gB z2 (some (z2, x1))) (fun k1 => cLt 0 x1 (k1 1) (k1 0))
set_option maxRecDepth 100000 in
set_option maxHeartbeats 4000000 in
theorem k_X8_refused {D : va_G} {cs : q_CS} {a0 a0_text a0_now a0_trial a0_diary a0_kept a0_isKept a0_clip a0_line a0_read a0_opens a0_chains a0_factors a0_plains a0_belows a0_owned a0_wides a0_highs a0_lows a0_itemWides a0_pile : Nat} {a0_refusal a0_textSize a0_acts a0_lineSize a0_readSize a0_deep : Int} {x1 : Int} {r : (Int × Int)} (h : f_X8_refused a0_refusal x1 = some r) : q_M D cs yX8_refused cX8_refused 2 (some .boolean) 0 0 [.ref a0, .int (iI x1)] [(a0, .inr (8, [.int (iI a0_refusal), .ref a0_text, .int (iI a0_textSize), .ref a0_now, .ref a0_trial, .ref a0_diary, .int (iI a0_acts), .ref a0_kept, .ref a0_isKept, .ref a0_clip, .ref a0_line, .int (iI a0_lineSize), .ref a0_read, .int (iI a0_readSize), .ref a0_opens, .ref a0_chains, .ref a0_factors, .ref a0_plains, .ref a0_belows, .ref a0_owned, .int (iI a0_deep), .ref a0_wides, .ref a0_highs, .ref a0_lows, .ref a0_itemWides, .ref a0_pile]))] (some (.int (iI r.1))) [(a0, .inr (8, [.int (iI r.2), .ref a0_text, .int (iI a0_textSize), .ref a0_now, .ref a0_trial, .ref a0_diary, .int (iI a0_acts), .ref a0_kept, .ref a0_isKept, .ref a0_clip, .ref a0_line, .int (iI a0_lineSize), .ref a0_read, .int (iI a0_readSize), .ref a0_opens, .ref a0_chains, .ref a0_factors, .ref a0_plains, .ref a0_belows, .ref a0_owned, .int (iI a0_deep), .ref a0_wides, .ref a0_highs, .ref a0_lows, .ref a0_itemWides, .ref a0_pile]))] := by
  refine q_start_z [(0, .ref a0), (1, .int (iI x1))] RX8 rfl (by decide +kernel) rfl (Nat.le_of_ble_eq_true rfl) (fun κ ok fin => ?_)
  unfold f_X8_refused at h
  refine j_aload_n (pc := 0) 0 ok dX8_refused_0 rfl rfl ?_
  refine j_iload_n (pc := 1) 1 ok dX8_refused_1 rfl rfl ?_
  refine pf_X8_71_8 (pc := 2) 0 ok rfl dX8_refused_2 [(a0, .inr (8, [.int (iI x1), .ref a0_text, .int (iI a0_textSize), .ref a0_now, .ref a0_trial, .ref a0_diary, .int (iI a0_acts), .ref a0_kept, .ref a0_isKept, .ref a0_clip, .ref a0_line, .int (iI a0_lineSize), .ref a0_read, .int (iI a0_readSize), .ref a0_opens, .ref a0_chains, .ref a0_factors, .ref a0_plains, .ref a0_belows, .ref a0_owned, .int (iI a0_deep), .ref a0_wides, .ref a0_highs, .ref a0_lows, .ref a0_itemWides, .ref a0_pile]))] rfl ?_
  refine j_iload_n (pc := 5) 1 ok dX8_refused_5 rfl rfl ?_
  refine jn_use (P := fun z2 => q_J D κ 2 0 0 [(a0, .inr (8, [.int (iI x1), .ref a0_text, .int (iI a0_textSize), .ref a0_now, .ref a0_trial, .ref a0_diary, .int (iI a0_acts), .ref a0_kept, .ref a0_isKept, .ref a0_clip, .ref a0_line, .int (iI a0_lineSize), .ref a0_read, .int (iI a0_readSize), .ref a0_opens, .ref a0_chains, .ref a0_factors, .ref a0_plains, .ref a0_belows, .ref a0_owned, .int (iI a0_deep), .ref a0_wides, .ref a0_highs, .ref a0_lows, .ref a0_itemWides, .ref a0_pile]))] [] 14 [.int (iI z2)]) h (fun z2 h => ?_) (fun k1 hk1 h => ?_)
  · obtain ⟨hbo, h⟩ := gB_inv h
    obtain rfl := Option.some.inj h
    exact fin _ 14 hbo dX8_refused_14
  · refine j_if_le (pc := 6) 13 ok dX8_refused_6 (by decide) h (fun h => ?_) (fun h => ?_)
    · refine j_iconst (pc := 13) ok dX8_refused_13 ?_
      refine j_lv [] rfl ?_
      exact hk1 0 h
    · refine j_iconst (pc := 9) ok dX8_refused_9 ?_
      refine j_goto (pc := 10) 14 ok dX8_refused_10 (by decide) ?_
      refine j_lv [] rfl ?_
      exact hk1 1 h
def f_X8_in (x0 : Int) (x1 : Int) (x2 : Int) : Option (Int) := jn (fun (z4 : Int) => gB z4 (some z4)) (fun k2 => jn (fun (z3 : Unit) => k2 0) (fun k1 => dLt x0 x1 (k1 ()) (dLt x2 x0 (k1 ()) (k2 1))))
set_option maxRecDepth 100000 in
set_option maxHeartbeats 4000000 in
theorem k_X8_in {D : va_G} {cs : q_CS} {x0 x1 x2 : Int} {r : (Int)} (h : f_X8_in x0 x1 x2 = some r) : q_M D cs yX8_in cX8_in 6 (some .boolean) 0 0 [.long (iL x0), .long (iL x1), .long (iL x2)] [] (some (.int (iI r))) [] := by
  refine q_start_z [(0, .long (iL x0)), (2, .long (iL x1)), (4, .long (iL x2))] RX8 rfl (by decide +kernel) rfl (Nat.le_of_ble_eq_true rfl) (fun κ ok fin => ?_)
  unfold f_X8_in at h
  refine j_lload_n (pc := 0) 0 ok dX8_in_0 rfl rfl ?_
  refine j_lload_n (pc := 1) 1 ok dX8_in_1 rfl rfl ?_
  refine jn_use (P := fun z4 => q_J D κ 6 0 0 [] [] 18 [.int (iI z4)]) h (fun z4 h => ?_) (fun k2 hk2 h => ?_)
  · obtain ⟨hbo, h⟩ := gB_inv h
    obtain rfl := Option.some.inj h
    exact fin _ 18 hbo dX8_in_18
  · refine jn_use (P := fun z3 => q_J D κ 6 0 0 [] [] 17 []) h (fun z3 h => ?_) (fun k1 hk1 h => ?_)
    · refine j_iconst (pc := 17) ok dX8_in_17 ?_
      exact hk2 0 h
    · refine j_lcmp_lt (pc := 2) 17 ok dX8_in_2 dX8_in_3 (by decide) h (fun h => ?_) (fun h => ?_)
      · refine j_lv [] rfl ?_
        exact hk1 () h
      · refine j_lload_n (pc := 6) 0 ok dX8_in_6 rfl rfl ?_
        refine j_lload (pc := 7) 2 ok dX8_in_7 rfl ?_
        refine j_lcmp_gt (pc := 9) 17 ok dX8_in_9 dX8_in_10 (by decide) h (fun h => ?_) (fun h => ?_)
        · refine j_lv [] rfl ?_
          exact hk1 () h
        · refine j_iconst (pc := 13) ok dX8_in_13 ?_
          refine j_goto (pc := 14) 18 ok dX8_in_14 (by decide) ?_
          refine j_lv [] rfl ?_
          exact hk2 1 h
def f_X8_copyPage_3 (a0N : Nat) (a2N : Nat) (a0F : (Nat → Int)) (y1 : Int) (y3 : Int) (e3_29 : (Nat → Int) × Int → Option ((Nat → Int))) : Nat → (Nat → Int) → Int → Option ((Nat → Int))
  | 0, _, _ => none
  | n + 1, a2F, y4 => cLt y4 184 (gIn (y1 + y4) a0N (gIn (y3 + y4) a2N (f_X8_copyPage_3 a0N a2N a0F y1 y3 e3_29 n (va_up a2F (y3 + y4).toNat (a0F (y1 + y4).toNat)) (y4 + 1)))) (e3_29 (a2F, y4))
set_option maxRecDepth 100000 in
theorem l_X8_copyPage_3 {D : va_G} {cs : q_CS} {κ : q_X} {a0 a2 : Nat} {a0N a2N : Nat} {a0F : (Nat → Int)} {y1 y3 : Int} {r : ((Nat → Int))} {e3_29 : (Nat → Int) × Int → Option ((Nat → Int))} (ok : q_ok D cs κ cX8_copyPage 5 RX8 (q_rm 0 0)) (fin : ∀ (lv : List (Nat × Value)) (pc : Nat), decode cX8_copyPage pc = .ok (.return_, 1) → q_J D κ 5 0 0 [(a0, .inl (cs.1, a0N, .inl (aI a0F))), (a2, .inl (cs.1, a2N, .inl (aI r)))] lv pc []) (he3_29 : ∀ x : (Nat → Int) × Int, e3_29 x = some r → q_J D κ 5 0 0 [(a0, .inl (cs.1, a0N, .inl (aI a0F))), (a2, .inl (cs.1, a2N, .inl (aI x.1)))] [] 29 []) : ∀ (n : Nat) (a2F : (Nat → Int)) (y4 : Int), f_X8_copyPage_3 a0N a2N a0F y1 y3 e3_29 n a2F y4 = some r → q_J D κ 5 0 0 [(a0, .inl (cs.1, a0N, .inl (aI a0F))), (a2, .inl (cs.1, a2N, .inl (aI a2F)))] [(0, .ref a0), (1, .int (iI y1)), (2, .ref a2), (3, .int (iI y3)), (4, .int (iI y4))] 3 [] := by
  intro n
  induction n with
  | zero =>
    intro a2F y4 h
    exact absurd h (by unfold f_X8_copyPage_3; exact fun z => by cases z)
  | succ n ih =>
    intro a2F y4 h
    unfold f_X8_copyPage_3 at h
    refine j_iload (pc := 3) 4 ok dX8_copyPage_3 rfl ?_
    refine j_sipush (pc := 5) ok dX8_copyPage_5 (by decide) ?_
    refine j_icmp_ge (pc := 8) 29 ok dX8_copyPage_8 (by decide) h (fun h => ?_) (fun h => ?_)
    · refine j_lv [] rfl ?_
      exact he3_29 (a2F, y4) h
    · refine j_aload_n (pc := 11) 2 ok dX8_copyPage_11 rfl rfl ?_
      refine j_iload_n (pc := 12) 3 ok dX8_copyPage_12 rfl rfl ?_
      refine j_iload (pc := 13) 4 ok dX8_copyPage_13 rfl ?_
      refine j_iadd (pc := 15) ok dX8_copyPage_15 ?_
      refine j_aload_n (pc := 16) 0 ok dX8_copyPage_16 rfl rfl ?_
      refine j_iload_n (pc := 17) 1 ok dX8_copyPage_17 rfl rfl ?_
      refine j_iload (pc := 18) 4 ok dX8_copyPage_18 rfl ?_
      refine j_iadd (pc := 20) ok dX8_copyPage_20 ?_
      refine j_iald (pc := 21) 0 ok rfl dX8_copyPage_21 h (fun h => ?_)
      refine j_iastw (pc := 22) 1 ok rfl dX8_copyPage_22 h [(a0, .inl (cs.1, a0N, .inl (aI a0F))), (a2, .inl (cs.1, a2N, .inl (aI (va_up a2F (y3 + y4).toNat (a0F (y1 + y4).toNat)))))] rfl (fun h => ?_)
      refine j_iinc (pc := 23) (lv' := [(4, .int (iI (y4 + 1))), (0, .ref a0), (1, .int (iI y1)), (2, .ref a2), (3, .int (iI y3))]) 4 ok dX8_copyPage_23 rfl (by decide) rfl ?_
      refine j_goto (pc := 26) 3 ok dX8_copyPage_26 (by decide) ?_
      refine j_lv [1, 2, 3, 4, 0] rfl ?_
      exact ih _ _ h
def f_X8_copyPage (a0N : Nat) (a2N : Nat) (a0F : (Nat → Int)) (a2F : (Nat → Int)) (x1 : Int) (x3 : Int) : Option ((Nat → Int)) := f_X8_copyPage_3 a0N a2N a0F x1 x3 (fun (z1 : (Nat → Int) × Int) => some z1.1) fuel a2F 0
set_option maxRecDepth 100000 in
set_option maxHeartbeats 4000000 in
theorem k_X8_copyPage {D : va_G} {cs : q_CS} {a0 a2 : Nat} {a0N a2N : Nat} {a0F a2F : (Nat → Int)} {x1 x3 : Int} {r : ((Nat → Int))} (h : f_X8_copyPage a0N a2N a0F a2F x1 x3 = some r) : q_M D cs yX8_copyPage cX8_copyPage 5 none 0 0 [.ref a0, .int (iI x1), .ref a2, .int (iI x3)] [(a0, .inl (cs.1, a0N, .inl (aI a0F))), (a2, .inl (cs.1, a2N, .inl (aI a2F)))] none [(a0, .inl (cs.1, a0N, .inl (aI a0F))), (a2, .inl (cs.1, a2N, .inl (aI r)))] := by
  refine q_start_v [(0, .ref a0), (1, .int (iI x1)), (2, .ref a2), (3, .int (iI x3))] RX8 rfl (by decide +kernel) rfl (Nat.le_of_ble_eq_true rfl) (fun κ ok fin => ?_)
  unfold f_X8_copyPage at h
  refine j_iconst (pc := 0) ok dX8_copyPage_0 ?_
  refine j_istore (pc := 1) (lv' := [(4, .int (iI 0)), (0, .ref a0), (1, .int (iI x1)), (2, .ref a2), (3, .int (iI x3))]) ok dX8_copyPage_1 (by decide) rfl ?_
  refine j_lv [1, 2, 3, 4, 0] rfl ?_
  refine l_X8_copyPage_3 ok fin (fun z1 h => ?_) fuel _ _ h
  · obtain rfl := Option.some.inj h
    exact fin _ 29 dX8_copyPage_29
def f_X8_isLetter (x0 : Int) : Option (Int) := gR x0 (bd (f_X8_in x0 97 122) (fun r1 => jn (fun (z5 : Int) => gB z5 (some z5)) (fun k3 => jn (fun (z4 : Unit) => k3 0) (fun k2 => cEq r1 0 (k2 ()) (cEq x0 114 (k2 ()) (k3 1))))))
set_option maxRecDepth 100000 in
set_option maxHeartbeats 4000000 in
theorem k_X8_isLetter {D : va_G} {cs : q_CS} {x0 : Int} {r : (Int)} (h : f_X8_isLetter x0 = some r) : q_M D cs yX8_isLetter cX8_isLetter 1 (some .boolean) 1 25 [.int (iI x0)] [] (some (.int (iI r))) [] := by
  refine q_start_z [(0, .int (iI x0))] RX8 rfl (by decide +kernel) rfl (Nat.le_of_ble_eq_true rfl) (fun κ ok fin => ?_)
  unfold f_X8_isLetter at h
  refine j_iload_n (pc := 0) 0 ok dX8_isLetter_0 rfl rfl ?_
  refine j_i2l (pc := 1) ok dX8_isLetter_1 h (fun h => ?_)
  refine j_ldc2 (pc := 2) 97 ok dX8_isLetter_2 (q_in 1261 (by decide +kernel) (by decide +kernel)) ?_
  refine j_ldc2 (pc := 5) 122 ok dX8_isLetter_5 (q_in 1262 (by decide +kernel) (by decide +kernel)) ?_
  obtain ⟨r1, hr1, h⟩ := bd_inv h
  refine j_callS (pc := 8) ok (k_X8_in (x0 := x0) (x1 := 97) (x2 := 122) hr1) gS_X8_79 hd_X8_in [] (by decide) rfl rfl rfl rfl ⟨Nat.zero_le _, Nat.zero_le _⟩ (Nat.le_of_ble_eq_true rfl) dX8_isLetter_8 rfl [] rfl ?_
  refine jn_use (P := fun z5 => q_J D κ 1 0 0 [] [] 25 [.int (iI z5)]) h (fun z5 h => ?_) (fun k3 hk3 h => ?_)
  · obtain ⟨hbo, h⟩ := gB_inv h
    obtain rfl := Option.some.inj h
    exact fin _ 25 hbo dX8_isLetter_25
  · refine jn_use (P := fun z4 => q_J D κ 1 0 0 [] [] 24 []) h (fun z4 h => ?_) (fun k2 hk2 h => ?_)
    · refine j_iconst (pc := 24) ok dX8_isLetter_24 ?_
      exact hk3 0 h
    · refine j_if_eq (pc := 11) 24 ok dX8_isLetter_11 (by decide) h (fun h => ?_) (fun h => ?_)
      · refine j_lv [] rfl ?_
        exact hk2 () h
      · refine j_iload_n (pc := 14) 0 ok dX8_isLetter_14 rfl rfl ?_
        refine j_bipush (pc := 15) ok dX8_isLetter_15 (by decide) ?_
        refine j_icmp_eq (pc := 17) 24 ok dX8_isLetter_17 (by decide) h (fun h => ?_) (fun h => ?_)
        · refine j_lv [] rfl ?_
          exact hk2 () h
        · refine j_iconst (pc := 20) ok dX8_isLetter_20 ?_
          refine j_goto (pc := 21) 25 ok dX8_isLetter_21 (by decide) ?_
          refine j_lv [] rfl ?_
          exact hk3 1 h
def f_X8_isDigit (x0 : Int) : Option (Int) := gR x0 (bd (f_X8_in x0 48 57) (fun r1 => gB r1 (some r1)))
set_option maxRecDepth 100000 in
set_option maxHeartbeats 4000000 in
theorem k_X8_isDigit {D : va_G} {cs : q_CS} {x0 : Int} {r : (Int)} (h : f_X8_isDigit x0 = some r) : q_M D cs yX8_isDigit cX8_isDigit 1 (some .boolean) 1 25 [.int (iI x0)] [] (some (.int (iI r))) [] := by
  refine q_start_z [(0, .int (iI x0))] RX8 rfl (by decide +kernel) rfl (Nat.le_of_ble_eq_true rfl) (fun κ ok fin => ?_)
  unfold f_X8_isDigit at h
  refine j_iload_n (pc := 0) 0 ok dX8_isDigit_0 rfl rfl ?_
  refine j_i2l (pc := 1) ok dX8_isDigit_1 h (fun h => ?_)
  refine j_ldc2 (pc := 2) 48 ok dX8_isDigit_2 (q_in 1266 (by decide +kernel) (by decide +kernel)) ?_
  refine j_ldc2 (pc := 5) 57 ok dX8_isDigit_5 (q_in 1267 (by decide +kernel) (by decide +kernel)) ?_
  obtain ⟨r1, hr1, h⟩ := bd_inv h
  refine j_callS (pc := 8) ok (k_X8_in (x0 := x0) (x1 := 48) (x2 := 57) hr1) gS_X8_79 hd_X8_in [] (by decide) rfl rfl rfl rfl ⟨Nat.zero_le _, Nat.zero_le _⟩ (Nat.le_of_ble_eq_true rfl) dX8_isDigit_8 rfl [] rfl ?_
  obtain ⟨hbo, h⟩ := gB_inv h
  obtain rfl := Option.some.inj h
  exact fin _ 11 hbo dX8_isDigit_11
def f_X8_isMark (x0 : Int) : Option (Int) := jn (fun (z4 : Int) => gB z4 (some z4)) (fun k2 => jn (fun (z3 : Unit) => k2 1) (fun k1 => cEq x0 43 (k1 ()) (cEq x0 45 (k1 ()) (cEq x0 42 (k1 ()) (cEq x0 61 (k1 ()) (cEq x0 44 (k1 ()) (cEq x0 46 (k1 ()) (k2 0))))))))
set_option maxRecDepth 100000 in
set_option maxHeartbeats 4000000 in
theorem k_X8_isMark {D : va_G} {cs : q_CS} {x0 : Int} {r : (Int)} (h : f_X8_isMark x0 = some r) : q_M D cs yX8_isMark cX8_isMark 1 (some .boolean) 0 0 [.int (iI x0)] [] (some (.int (iI r))) [] := by
  refine q_start_z [(0, .int (iI x0))] RX8 rfl (by decide +kernel) rfl (Nat.le_of_ble_eq_true rfl) (fun κ ok fin => ?_)
  unfold f_X8_isMark at h
  refine j_iload_n (pc := 0) 0 ok dX8_isMark_0 rfl rfl ?_
  refine j_bipush (pc := 1) ok dX8_isMark_1 (by decide) ?_
  refine jn_use (P := fun z4 => q_J D κ 1 0 0 [] [] 41 [.int (iI z4)]) h (fun z4 h => ?_) (fun k2 hk2 h => ?_)
  · obtain ⟨hbo, h⟩ := gB_inv h
    obtain rfl := Option.some.inj h
    exact fin _ 41 hbo dX8_isMark_41
  · refine jn_use (P := fun z3 => q_J D κ 1 0 0 [] [] 36 []) h (fun z3 h => ?_) (fun k1 hk1 h => ?_)
    · refine j_iconst (pc := 36) ok dX8_isMark_36 ?_
      refine j_goto (pc := 37) 41 ok dX8_isMark_37 (by decide) ?_
      exact hk2 1 h
    · refine j_icmp_eq (pc := 3) 36 ok dX8_isMark_3 (by decide) h (fun h => ?_) (fun h => ?_)
      · refine j_lv [] rfl ?_
        exact hk1 () h
      · refine j_iload_n (pc := 6) 0 ok dX8_isMark_6 rfl rfl ?_
        refine j_bipush (pc := 7) ok dX8_isMark_7 (by decide) ?_
        refine j_icmp_eq (pc := 9) 36 ok dX8_isMark_9 (by decide) h (fun h => ?_) (fun h => ?_)
        · refine j_lv [] rfl ?_
          exact hk1 () h
        · refine j_iload_n (pc := 12) 0 ok dX8_isMark_12 rfl rfl ?_
          refine j_bipush (pc := 13) ok dX8_isMark_13 (by decide) ?_
          refine j_icmp_eq (pc := 15) 36 ok dX8_isMark_15 (by decide) h (fun h => ?_) (fun h => ?_)
          · refine j_lv [] rfl ?_
            exact hk1 () h
          · refine j_iload_n (pc := 18) 0 ok dX8_isMark_18 rfl rfl ?_
            refine j_bipush (pc := 19) ok dX8_isMark_19 (by decide) ?_
            refine j_icmp_eq (pc := 21) 36 ok dX8_isMark_21 (by decide) h (fun h => ?_) (fun h => ?_)
            · refine j_lv [] rfl ?_
              exact hk1 () h
            · refine j_iload_n (pc := 24) 0 ok dX8_isMark_24 rfl rfl ?_
              refine j_bipush (pc := 25) ok dX8_isMark_25 (by decide) ?_
              refine j_icmp_eq (pc := 27) 36 ok dX8_isMark_27 (by decide) h (fun h => ?_) (fun h => ?_)
              · refine j_lv [] rfl ?_
                exact hk1 () h
              · refine j_iload_n (pc := 30) 0 ok dX8_isMark_30 rfl rfl ?_
                refine j_bipush (pc := 31) ok dX8_isMark_31 (by decide) ?_
                refine j_icmp_ne (pc := 33) 40 ok dX8_isMark_33 (by decide) h (fun h => ?_) (fun h => ?_)
                · refine j_iconst (pc := 40) ok dX8_isMark_40 ?_
                  refine j_lv [] rfl ?_
                  exact hk2 0 h
                · refine j_lv [] rfl ?_
                  exact hk1 () h
def f_X8_isSymbol (x0 : Int) : Option (Int) := bd (f_X8_isLetter x0) (fun r1 => jn (fun (z7 : Int) => gB z7 (some z7)) (fun k3 => jn (fun (z6 : Unit) => k3 1) (fun k2 => cEq r1 0 (bd (f_X8_isDigit x0) (fun r4 => cEq r4 0 (bd (f_X8_isMark x0) (fun r5 => cEq r5 0 (k3 0) (k2 ()))) (k2 ()))) (k2 ()))))
set_option maxRecDepth 100000 in
set_option maxHeartbeats 4000000 in
theorem k_X8_isSymbol {D : va_G} {cs : q_CS} {x0 : Int} {r : (Int)} (h : f_X8_isSymbol x0 = some r) : q_M D cs yX8_isSymbol cX8_isSymbol 1 (some .boolean) 2 45 [.int (iI x0)] [] (some (.int (iI r))) [] := by
  refine q_start_z [(0, .int (iI x0))] RX8 rfl (by decide +kernel) rfl (Nat.le_of_ble_eq_true rfl) (fun κ ok fin => ?_)
  unfold f_X8_isSymbol at h
  refine j_iload_n (pc := 0) 0 ok dX8_isSymbol_0 rfl rfl ?_
  obtain ⟨r1, hr1, h⟩ := bd_inv h
  refine j_callS (pc := 1) ok (k_X8_isLetter (x0 := x0) hr1) gS_X8_87 hd_X8_isLetter [] (by decide) rfl rfl rfl rfl ⟨Nat.zero_le _, Nat.zero_le _⟩ (Nat.le_of_ble_eq_true rfl) dX8_isSymbol_1 rfl [] rfl ?_
  refine jn_use (P := fun z7 => q_J D κ 1 0 0 [] [] 26 [.int (iI z7)]) h (fun z7 h => ?_) (fun k3 hk3 h => ?_)
  · obtain ⟨hbo, h⟩ := gB_inv h
    obtain rfl := Option.some.inj h
    exact fin _ 26 hbo dX8_isSymbol_26
  · refine jn_use (P := fun z6 => q_J D κ 1 0 0 [] [] 21 []) h (fun z6 h => ?_) (fun k2 hk2 h => ?_)
    · refine j_iconst (pc := 21) ok dX8_isSymbol_21 ?_
      refine j_goto (pc := 22) 26 ok dX8_isSymbol_22 (by decide) ?_
      exact hk3 1 h
    · refine j_if_ne (pc := 4) 21 ok dX8_isSymbol_4 (by decide) h (fun h => ?_) (fun h => ?_)
      · refine j_lv [] rfl ?_
        exact hk2 () h
      · refine j_iload_n (pc := 7) 0 ok dX8_isSymbol_7 rfl rfl ?_
        obtain ⟨r4, hr4, h⟩ := bd_inv h
        refine j_callS (pc := 8) ok (k_X8_isDigit (x0 := x0) hr4) gS_X8_91 hd_X8_isDigit [] (by decide) rfl rfl rfl rfl ⟨Nat.zero_le _, Nat.zero_le _⟩ (Nat.le_of_ble_eq_true rfl) dX8_isSymbol_8 rfl [] rfl ?_
        refine j_if_ne (pc := 11) 21 ok dX8_isSymbol_11 (by decide) h (fun h => ?_) (fun h => ?_)
        · refine j_lv [] rfl ?_
          exact hk2 () h
        · refine j_iload_n (pc := 14) 0 ok dX8_isSymbol_14 rfl rfl ?_
          obtain ⟨r5, hr5, h⟩ := bd_inv h
          refine j_callS (pc := 15) ok (k_X8_isMark (x0 := x0) hr5) gS_X8_94 hd_X8_isMark [] (by decide) rfl rfl rfl rfl ⟨Nat.zero_le _, Nat.zero_le _⟩ (Nat.le_of_ble_eq_true rfl) dX8_isSymbol_15 rfl [] rfl ?_
          refine j_if_eq (pc := 18) 25 ok dX8_isSymbol_18 (by decide) h (fun h => ?_) (fun h => ?_)
          · refine j_iconst (pc := 25) ok dX8_isSymbol_25 ?_
            refine j_lv [] rfl ?_
            exact hk3 0 h
          · refine j_lv [] rfl ?_
            exact hk2 () h
def f_X8_isBegin (x0 : Int) : Option (Int) := jn (fun (z4 : Int) => gB z4 (some z4)) (fun k2 => jn (fun (z3 : Unit) => k2 0) (fun k1 => cLt x0 0 (cLt ((-10)) x0 (k2 1) (k1 ())) (k1 ())))
set_option maxRecDepth 100000 in
set_option maxHeartbeats 4000000 in
theorem k_X8_isBegin {D : va_G} {cs : q_CS} {x0 : Int} {r : (Int)} (h : f_X8_isBegin x0 = some r) : q_M D cs yX8_isBegin cX8_isBegin 1 (some .boolean) 0 0 [.int (iI x0)] [] (some (.int (iI r))) [] := by
  refine q_start_z [(0, .int (iI x0))] RX8 rfl (by decide +kernel) rfl (Nat.le_of_ble_eq_true rfl) (fun κ ok fin => ?_)
  unfold f_X8_isBegin at h
  refine j_iload_n (pc := 0) 0 ok dX8_isBegin_0 rfl rfl ?_
  refine jn_use (P := fun z4 => q_J D κ 1 0 0 [] [] 15 [.int (iI z4)]) h (fun z4 h => ?_) (fun k2 hk2 h => ?_)
  · obtain ⟨hbo, h⟩ := gB_inv h
    obtain rfl := Option.some.inj h
    exact fin _ 15 hbo dX8_isBegin_15
  · refine jn_use (P := fun z3 => q_J D κ 1 0 0 [] [] 14 []) h (fun z3 h => ?_) (fun k1 hk1 h => ?_)
    · refine j_iconst (pc := 14) ok dX8_isBegin_14 ?_
      exact hk2 0 h
    · refine j_if_ge (pc := 1) 14 ok dX8_isBegin_1 (by decide) h (fun h => ?_) (fun h => ?_)
      · refine j_lv [] rfl ?_
        exact hk1 () h
      · refine j_iload_n (pc := 4) 0 ok dX8_isBegin_4 rfl rfl ?_
        refine j_bipush (pc := 5) ok dX8_isBegin_5 (by decide) ?_
        refine j_icmp_le (pc := 7) 14 ok dX8_isBegin_7 (by decide) h (fun h => ?_) (fun h => ?_)
        · refine j_lv [] rfl ?_
          exact hk1 () h
        · refine j_iconst (pc := 10) ok dX8_isBegin_10 ?_
          refine j_goto (pc := 11) 15 ok dX8_isBegin_11 (by decide) ?_
          refine j_lv [] rfl ?_
          exact hk2 1 h
def f_X8_beginOf_6 (a0N : Nat) (a0F : (Nat → Int)) (e6_54 : Int × Int → Option (Int)) : Nat → Int → Int → Option (Int)
  | 0, _, _ => none
  | n + 1, y2, y3 => jn (fun (z3 : Unit) => gIn y3 a0N (jn (fun (z6 : Int) => f_X8_beginOf_6 a0N a0F e6_54 n (y2 + z6) (y3 + (-1))) (fun k4 => cEq (a0F y3.toNat) ((-11)) (k4 1) (gIn y3 a0N (bd (f_X8_isBegin (a0F y3.toNat)) (fun r5 => cEq r5 0 (k4 0) (k4 (-1)))))))) (fun k1 => cLt 0 y2 (k1 ()) (gIn y3 a0N (bd (f_X8_isBegin (a0F y3.toNat)) (fun r2 => cEq r2 0 (k1 ()) (e6_54 (y2, y3))))))
set_option maxRecDepth 100000 in
theorem l_X8_beginOf_6 {D : va_G} {cs : q_CS} {κ : q_X} {a0 : Nat} {a0N : Nat} {a0F : (Nat → Int)} {r : (Int)} {e6_54 : Int × Int → Option (Int)} (ok : q_ok D cs κ cX8_beginOf 4 RX8 (q_rm 1 20)) (fin : ∀ (lv : List (Nat × Value)) (pc : Nat), decode cX8_beginOf pc = .ok (.ireturn, 1) → q_J D κ 4 0 0 [(a0, .inl (cs.1, a0N, .inl (aI a0F)))] lv pc [.int (iI r)]) (he6_54 : ∀ x : Int × Int, e6_54 x = some r → q_J D κ 4 0 0 [(a0, .inl (cs.1, a0N, .inl (aI a0F)))] [(3, .int (iI x.2))] 54 []) : ∀ (n : Nat) (y2 : Int) (y3 : Int), f_X8_beginOf_6 a0N a0F e6_54 n y2 y3 = some r → q_J D κ 4 0 0 [(a0, .inl (cs.1, a0N, .inl (aI a0F)))] [(0, .ref a0), (2, .int (iI y2)), (3, .int (iI y3))] 6 [] := by
  intro n
  induction n with
  | zero =>
    intro y2 y3 h
    exact absurd h (by unfold f_X8_beginOf_6; exact fun z => by cases z)
  | succ n ih =>
    intro y2 y3 h
    unfold f_X8_beginOf_6 at h
    refine j_iload_n (pc := 6) 1 ok dX8_beginOf_6 rfl rfl ?_
    refine jn_use (P := fun z3 => q_J D κ 4 0 0 [(a0, .inl (cs.1, a0N, .inl (aI a0F)))] [(0, .ref a0), (2, .int (iI y2)), (3, .int (iI y3))] 19 []) h (fun z3 h => ?_) (fun k1 hk1 h => ?_)
    · refine j_iload_n (pc := 19) 1 ok dX8_beginOf_19 rfl rfl ?_
      refine j_aload_n (pc := 20) 0 ok dX8_beginOf_20 rfl rfl ?_
      refine j_iload_n (pc := 21) 2 ok dX8_beginOf_21 rfl rfl ?_
      refine j_iald (pc := 22) 0 ok rfl dX8_beginOf_22 h (fun h => ?_)
      refine j_bipush (pc := 23) ok dX8_beginOf_23 (by decide) ?_
      refine jn_use (P := fun z6 => q_J D κ 4 0 0 [(a0, .inl (cs.1, a0N, .inl (aI a0F)))] [(0, .ref a0), (3, .int (iI y3))] 46 [.int (iI z6), .int (iI y2)]) h (fun z6 h => ?_) (fun k4 hk4 h => ?_)
      · refine j_iadd (pc := 46) ok dX8_beginOf_46 ?_
        refine j_istore_n (pc := 47) (lv' := [(2, .int (iI (y2 + z6))), (0, .ref a0), (3, .int (iI y3))]) ok dX8_beginOf_47 rfl (by decide) rfl ?_
        refine j_iinc (pc := 48) (lv' := [(3, .int (iI (y3 + (-1)))), (2, .int (iI (y2 + z6))), (0, .ref a0)]) 2 ok dX8_beginOf_48 rfl (by decide) rfl ?_
        refine j_goto (pc := 51) 6 ok dX8_beginOf_51 (by decide) ?_
        refine j_lv [2, 1, 0] rfl ?_
        exact ih _ _ h
      · refine j_icmp_ne (pc := 25) 32 ok dX8_beginOf_25 (by decide) h (fun h => ?_) (fun h => ?_)
        · refine j_aload_n (pc := 32) 0 ok dX8_beginOf_32 rfl rfl ?_
          refine j_iload_n (pc := 33) 2 ok dX8_beginOf_33 rfl rfl ?_
          refine j_iald (pc := 34) 0 ok rfl dX8_beginOf_34 h (fun h => ?_)
          obtain ⟨r5, hr5, h⟩ := bd_inv h
          refine j_callS (pc := 35) ok (k_X8_isBegin (x0 := a0F y3.toNat) hr5) gS_X8_97 hd_X8_isBegin [] (by decide) rfl rfl rfl rfl ⟨Nat.zero_le _, Nat.zero_le _⟩ (Nat.le_of_ble_eq_true rfl) dX8_beginOf_35 rfl [(a0, .inl (cs.1, a0N, .inl (aI a0F)))] rfl ?_
          refine j_if_eq (pc := 38) 45 ok dX8_beginOf_38 (by decide) h (fun h => ?_) (fun h => ?_)
          · refine j_iconst (pc := 45) ok dX8_beginOf_45 ?_
            refine j_lv [0, 2] rfl ?_
            exact hk4 0 h
          · refine j_iconst (pc := 41) ok dX8_beginOf_41 ?_
            refine j_goto (pc := 42) 46 ok dX8_beginOf_42 (by decide) ?_
            refine j_lv [0, 2] rfl ?_
            exact hk4 (-1) h
        · refine j_iconst (pc := 28) ok dX8_beginOf_28 ?_
          refine j_goto (pc := 29) 46 ok dX8_beginOf_29 (by decide) ?_
          refine j_lv [0, 2] rfl ?_
          exact hk4 1 h
    · refine j_if_gt (pc := 7) 19 ok dX8_beginOf_7 (by decide) h (fun h => ?_) (fun h => ?_)
      · exact hk1 () h
      · refine j_aload_n (pc := 10) 0 ok dX8_beginOf_10 rfl rfl ?_
        refine j_iload_n (pc := 11) 2 ok dX8_beginOf_11 rfl rfl ?_
        refine j_iald (pc := 12) 0 ok rfl dX8_beginOf_12 h (fun h => ?_)
        obtain ⟨r2, hr2, h⟩ := bd_inv h
        refine j_callS (pc := 13) ok (k_X8_isBegin (x0 := a0F y3.toNat) hr2) gS_X8_97 hd_X8_isBegin [] (by decide) rfl rfl rfl rfl ⟨Nat.zero_le _, Nat.zero_le _⟩ (Nat.le_of_ble_eq_true rfl) dX8_beginOf_13 rfl [(a0, .inl (cs.1, a0N, .inl (aI a0F)))] rfl ?_
        refine j_if_ne (pc := 16) 54 ok dX8_beginOf_16 (by decide) h (fun h => ?_) (fun h => ?_)
        · refine j_lv [2] rfl ?_
          exact he6_54 (y2, y3) h
        · exact hk1 () h
def f_X8_beginOf (a0N : Nat) (a0F : (Nat → Int)) (x1 : Int) : Option (Int) := f_X8_beginOf_6 a0N a0F (fun (z7 : Int × Int) => some z7.2) fuel 0 (x1 - 1)
set_option maxRecDepth 100000 in
set_option maxHeartbeats 4000000 in
theorem k_X8_beginOf {D : va_G} {cs : q_CS} {a0 : Nat} {a0N : Nat} {a0F : (Nat → Int)} {x1 : Int} {r : (Int)} (h : f_X8_beginOf a0N a0F x1 = some r) : q_M D cs yX8_beginOf cX8_beginOf 4 (some .int) 1 20 [.ref a0, .int (iI x1)] [(a0, .inl (cs.1, a0N, .inl (aI a0F)))] (some (.int (iI r))) [(a0, .inl (cs.1, a0N, .inl (aI a0F)))] := by
  refine q_start_i [(0, .ref a0), (1, .int (iI x1))] RX8 rfl (by decide +kernel) rfl (Nat.le_of_ble_eq_true rfl) rfl (fun κ ok fin => ?_)
  unfold f_X8_beginOf at h
  refine j_iconst (pc := 0) ok dX8_beginOf_0 ?_
  refine j_istore_n (pc := 1) (lv' := [(2, .int (iI 0)), (0, .ref a0), (1, .int (iI x1))]) ok dX8_beginOf_1 rfl (by decide) rfl ?_
  refine j_iload_n (pc := 2) 2 ok dX8_beginOf_2 rfl rfl ?_
  refine j_iconst (pc := 3) ok dX8_beginOf_3 ?_
  refine j_isub (pc := 4) ok dX8_beginOf_4 ?_
  refine j_istore_n (pc := 5) (lv' := [(3, .int (iI (x1 - 1))), (2, .int (iI 0)), (0, .ref a0), (1, .int (iI x1))]) ok dX8_beginOf_5 rfl (by decide) rfl ?_
  refine j_lv [2, 1, 0] rfl ?_
  refine l_X8_beginOf_6 ok fin (fun z7 h => ?_) fuel _ _ h
  · refine j_iload_n (pc := 54) 0 ok dX8_beginOf_54 rfl rfl ?_
    obtain rfl := Option.some.inj h
    exact fin _ 55 dX8_beginOf_55
def f_X8_endOf_4 (a0N : Nat) (a0F : (Nat → Int)) (e4_51 : Int × Int → Option (Int)) : Nat → Int → Int → Option (Int)
  | 0, _, _ => none
  | n + 1, y2, y3 => jn (fun (z2 : Unit) => gIn y3 a0N (bd (f_X8_isBegin (a0F y3.toNat)) (fun r3 => jn (fun (z5 : Int) => f_X8_endOf_4 a0N a0F e4_51 n (y2 + z5) (y3 + 1)) (fun k4 => cEq r3 0 (gIn y3 a0N (cEq (a0F y3.toNat) ((-11)) (k4 (-1)) (k4 0))) (k4 1))))) (fun k1 => cLt 0 y2 (k1 ()) (gIn y3 a0N (cEq (a0F y3.toNat) ((-11)) (e4_51 (y2, y3)) (k1 ()))))
set_option maxRecDepth 100000 in
theorem l_X8_endOf_4 {D : va_G} {cs : q_CS} {κ : q_X} {a0 : Nat} {a0N : Nat} {a0F : (Nat → Int)} {r : (Int)} {e4_51 : Int × Int → Option (Int)} (ok : q_ok D cs κ cX8_endOf 4 RX8 (q_rm 1 20)) (fin : ∀ (lv : List (Nat × Value)) (pc : Nat), decode cX8_endOf pc = .ok (.ireturn, 1) → q_J D κ 4 0 0 [(a0, .inl (cs.1, a0N, .inl (aI a0F)))] lv pc [.int (iI r)]) (he4_51 : ∀ x : Int × Int, e4_51 x = some r → q_J D κ 4 0 0 [(a0, .inl (cs.1, a0N, .inl (aI a0F)))] [(3, .int (iI x.2))] 51 []) : ∀ (n : Nat) (y2 : Int) (y3 : Int), f_X8_endOf_4 a0N a0F e4_51 n y2 y3 = some r → q_J D κ 4 0 0 [(a0, .inl (cs.1, a0N, .inl (aI a0F)))] [(0, .ref a0), (2, .int (iI y2)), (3, .int (iI y3))] 4 [] := by
  intro n
  induction n with
  | zero =>
    intro y2 y3 h
    exact absurd h (by unfold f_X8_endOf_4; exact fun z => by cases z)
  | succ n ih =>
    intro y2 y3 h
    unfold f_X8_endOf_4 at h
    refine j_iload_n (pc := 4) 1 ok dX8_endOf_4 rfl rfl ?_
    refine jn_use (P := fun z2 => q_J D κ 4 0 0 [(a0, .inl (cs.1, a0N, .inl (aI a0F)))] [(0, .ref a0), (2, .int (iI y2)), (3, .int (iI y3))] 16 []) h (fun z2 h => ?_) (fun k1 hk1 h => ?_)
    · refine j_iload_n (pc := 16) 1 ok dX8_endOf_16 rfl rfl ?_
      refine j_aload_n (pc := 17) 0 ok dX8_endOf_17 rfl rfl ?_
      refine j_iload_n (pc := 18) 2 ok dX8_endOf_18 rfl rfl ?_
      refine j_iald (pc := 19) 0 ok rfl dX8_endOf_19 h (fun h => ?_)
      obtain ⟨r3, hr3, h⟩ := bd_inv h
      refine j_callS (pc := 20) ok (k_X8_isBegin (x0 := a0F y3.toNat) hr3) gS_X8_97 hd_X8_isBegin [] (by decide) rfl rfl rfl rfl ⟨Nat.zero_le _, Nat.zero_le _⟩ (Nat.le_of_ble_eq_true rfl) dX8_endOf_20 rfl [(a0, .inl (cs.1, a0N, .inl (aI a0F)))] rfl ?_
      refine jn_use (P := fun z5 => q_J D κ 4 0 0 [(a0, .inl (cs.1, a0N, .inl (aI a0F)))] [(0, .ref a0), (3, .int (iI y3))] 43 [.int (iI z5), .int (iI y2)]) h (fun z5 h => ?_) (fun k4 hk4 h => ?_)
      · refine j_iadd (pc := 43) ok dX8_endOf_43 ?_
        refine j_istore_n (pc := 44) (lv' := [(2, .int (iI (y2 + z5))), (0, .ref a0), (3, .int (iI y3))]) ok dX8_endOf_44 rfl (by decide) rfl ?_
        refine j_iinc (pc := 45) (lv' := [(3, .int (iI (y3 + 1))), (2, .int (iI (y2 + z5))), (0, .ref a0)]) 2 ok dX8_endOf_45 rfl (by decide) rfl ?_
        refine j_goto (pc := 48) 4 ok dX8_endOf_48 (by decide) ?_
        refine j_lv [2, 1, 0] rfl ?_
        exact ih _ _ h
      · refine j_if_eq (pc := 23) 30 ok dX8_endOf_23 (by decide) h (fun h => ?_) (fun h => ?_)
        · refine j_aload_n (pc := 30) 0 ok dX8_endOf_30 rfl rfl ?_
          refine j_iload_n (pc := 31) 2 ok dX8_endOf_31 rfl rfl ?_
          refine j_iald (pc := 32) 0 ok rfl dX8_endOf_32 h (fun h => ?_)
          refine j_bipush (pc := 33) ok dX8_endOf_33 (by decide) ?_
          refine j_icmp_ne (pc := 35) 42 ok dX8_endOf_35 (by decide) h (fun h => ?_) (fun h => ?_)
          · refine j_iconst (pc := 42) ok dX8_endOf_42 ?_
            refine j_lv [0, 2] rfl ?_
            exact hk4 0 h
          · refine j_iconst (pc := 38) ok dX8_endOf_38 ?_
            refine j_goto (pc := 39) 43 ok dX8_endOf_39 (by decide) ?_
            refine j_lv [0, 2] rfl ?_
            exact hk4 (-1) h
        · refine j_iconst (pc := 26) ok dX8_endOf_26 ?_
          refine j_goto (pc := 27) 43 ok dX8_endOf_27 (by decide) ?_
          refine j_lv [0, 2] rfl ?_
          exact hk4 1 h
    · refine j_if_gt (pc := 5) 16 ok dX8_endOf_5 (by decide) h (fun h => ?_) (fun h => ?_)
      · exact hk1 () h
      · refine j_aload_n (pc := 8) 0 ok dX8_endOf_8 rfl rfl ?_
        refine j_iload_n (pc := 9) 2 ok dX8_endOf_9 rfl rfl ?_
        refine j_iald (pc := 10) 0 ok rfl dX8_endOf_10 h (fun h => ?_)
        refine j_bipush (pc := 11) ok dX8_endOf_11 (by decide) ?_
        refine j_icmp_eq (pc := 13) 51 ok dX8_endOf_13 (by decide) h (fun h => ?_) (fun h => ?_)
        · refine j_lv [2] rfl ?_
          exact he4_51 (y2, y3) h
        · exact hk1 () h
def f_X8_endOf (a0N : Nat) (a0F : (Nat → Int)) (x1 : Int) : Option (Int) := f_X8_endOf_4 a0N a0F (fun (z6 : Int × Int) => some z6.2) fuel 0 x1
set_option maxRecDepth 100000 in
set_option maxHeartbeats 4000000 in
theorem k_X8_endOf {D : va_G} {cs : q_CS} {a0 : Nat} {a0N : Nat} {a0F : (Nat → Int)} {x1 : Int} {r : (Int)} (h : f_X8_endOf a0N a0F x1 = some r) : q_M D cs yX8_endOf cX8_endOf 4 (some .int) 1 20 [.ref a0, .int (iI x1)] [(a0, .inl (cs.1, a0N, .inl (aI a0F)))] (some (.int (iI r))) [(a0, .inl (cs.1, a0N, .inl (aI a0F)))] := by
  refine q_start_i [(0, .ref a0), (1, .int (iI x1))] RX8 rfl (by decide +kernel) rfl (Nat.le_of_ble_eq_true rfl) rfl (fun κ ok fin => ?_)
  unfold f_X8_endOf at h
  refine j_iconst (pc := 0) ok dX8_endOf_0 ?_
  refine j_istore_n (pc := 1) (lv' := [(2, .int (iI 0)), (0, .ref a0), (1, .int (iI x1))]) ok dX8_endOf_1 rfl (by decide) rfl ?_
  refine j_iload_n (pc := 2) 2 ok dX8_endOf_2 rfl rfl ?_
  refine j_istore_n (pc := 3) (lv' := [(3, .int (iI x1)), (2, .int (iI 0)), (0, .ref a0), (1, .int (iI x1))]) ok dX8_endOf_3 rfl (by decide) rfl ?_
  refine j_lv [2, 1, 0] rfl ?_
  refine l_X8_endOf_4 ok fin (fun z6 h => ?_) fuel _ _ h
  · refine j_iload_n (pc := 51) 0 ok dX8_endOf_51 rfl rfl ?_
    obtain rfl := Option.some.inj h
    exact fin _ 52 dX8_endOf_52
def f_X8_rowStart_6 (a0N : Nat) (a0F : (Nat → Int)) (e6_66 : Int × Int → Option (Int)) : Nat → Int → Int → Option (Int)
  | 0, _, _ => none
  | n + 1, y2, y3 => cLt y3 0 (e6_66 (y2, y3)) (jn (fun (z3 : Unit) => gIn y3 a0N (jn (fun (z6 : Int) => f_X8_rowStart_6 a0N a0F e6_66 n (y2 + z6) (y3 + (-1))) (fun k4 => cEq (a0F y3.toNat) ((-11)) (k4 1) (gIn y3 a0N (bd (f_X8_isBegin (a0F y3.toNat)) (fun r5 => cEq r5 0 (k4 0) (k4 (-1)))))))) (fun k1 => cLt 0 y2 (k1 ()) (gIn y3 a0N (bd (f_X8_isBegin (a0F y3.toNat)) (fun r2 => cEq r2 0 (gIn y3 a0N (cEq (a0F y3.toNat) ((-10)) (e6_66 (y2, y3)) (k1 ()))) (e6_66 (y2, y3)))))))
set_option maxRecDepth 100000 in
theorem l_X8_rowStart_6 {D : va_G} {cs : q_CS} {κ : q_X} {a0 : Nat} {a0N : Nat} {a0F : (Nat → Int)} {r : (Int)} {e6_66 : Int × Int → Option (Int)} (ok : q_ok D cs κ cX8_rowStart 4 RX8 (q_rm 1 20)) (fin : ∀ (lv : List (Nat × Value)) (pc : Nat), decode cX8_rowStart pc = .ok (.ireturn, 1) → q_J D κ 4 0 0 [(a0, .inl (cs.1, a0N, .inl (aI a0F)))] lv pc [.int (iI r)]) (he6_66 : ∀ x : Int × Int, e6_66 x = some r → q_J D κ 4 0 0 [(a0, .inl (cs.1, a0N, .inl (aI a0F)))] [(3, .int (iI x.2))] 66 []) : ∀ (n : Nat) (y2 : Int) (y3 : Int), f_X8_rowStart_6 a0N a0F e6_66 n y2 y3 = some r → q_J D κ 4 0 0 [(a0, .inl (cs.1, a0N, .inl (aI a0F)))] [(0, .ref a0), (2, .int (iI y2)), (3, .int (iI y3))] 6 [] := by
  intro n
  induction n with
  | zero =>
    intro y2 y3 h
    exact absurd h (by unfold f_X8_rowStart_6; exact fun z => by cases z)
  | succ n ih =>
    intro y2 y3 h
    unfold f_X8_rowStart_6 at h
    refine j_iload_n (pc := 6) 2 ok dX8_rowStart_6 rfl rfl ?_
    refine j_if_lt (pc := 7) 66 ok dX8_rowStart_7 (by decide) h (fun h => ?_) (fun h => ?_)
    · refine j_lv [2] rfl ?_
      exact he6_66 (y2, y3) h
    · refine j_iload_n (pc := 10) 1 ok dX8_rowStart_10 rfl rfl ?_
      refine jn_use (P := fun z3 => q_J D κ 4 0 0 [(a0, .inl (cs.1, a0N, .inl (aI a0F)))] [(0, .ref a0), (2, .int (iI y2)), (3, .int (iI y3))] 31 []) h (fun z3 h => ?_) (fun k1 hk1 h => ?_)
      · refine j_iload_n (pc := 31) 1 ok dX8_rowStart_31 rfl rfl ?_
        refine j_aload_n (pc := 32) 0 ok dX8_rowStart_32 rfl rfl ?_
        refine j_iload_n (pc := 33) 2 ok dX8_rowStart_33 rfl rfl ?_
        refine j_iald (pc := 34) 0 ok rfl dX8_rowStart_34 h (fun h => ?_)
        refine j_bipush (pc := 35) ok dX8_rowStart_35 (by decide) ?_
        refine jn_use (P := fun z6 => q_J D κ 4 0 0 [(a0, .inl (cs.1, a0N, .inl (aI a0F)))] [(0, .ref a0), (3, .int (iI y3))] 58 [.int (iI z6), .int (iI y2)]) h (fun z6 h => ?_) (fun k4 hk4 h => ?_)
        · refine j_iadd (pc := 58) ok dX8_rowStart_58 ?_
          refine j_istore_n (pc := 59) (lv' := [(2, .int (iI (y2 + z6))), (0, .ref a0), (3, .int (iI y3))]) ok dX8_rowStart_59 rfl (by decide) rfl ?_
          refine j_iinc (pc := 60) (lv' := [(3, .int (iI (y3 + (-1)))), (2, .int (iI (y2 + z6))), (0, .ref a0)]) 2 ok dX8_rowStart_60 rfl (by decide) rfl ?_
          refine j_goto (pc := 63) 6 ok dX8_rowStart_63 (by decide) ?_
          refine j_lv [2, 1, 0] rfl ?_
          exact ih _ _ h
        · refine j_icmp_ne (pc := 37) 44 ok dX8_rowStart_37 (by decide) h (fun h => ?_) (fun h => ?_)
          · refine j_aload_n (pc := 44) 0 ok dX8_rowStart_44 rfl rfl ?_
            refine j_iload_n (pc := 45) 2 ok dX8_rowStart_45 rfl rfl ?_
            refine j_iald (pc := 46) 0 ok rfl dX8_rowStart_46 h (fun h => ?_)
            obtain ⟨r5, hr5, h⟩ := bd_inv h
            refine j_callS (pc := 47) ok (k_X8_isBegin (x0 := a0F y3.toNat) hr5) gS_X8_97 hd_X8_isBegin [] (by decide) rfl rfl rfl rfl ⟨Nat.zero_le _, Nat.zero_le _⟩ (Nat.le_of_ble_eq_true rfl) dX8_rowStart_47 rfl [(a0, .inl (cs.1, a0N, .inl (aI a0F)))] rfl ?_
            refine j_if_eq (pc := 50) 57 ok dX8_rowStart_50 (by decide) h (fun h => ?_) (fun h => ?_)
            · refine j_iconst (pc := 57) ok dX8_rowStart_57 ?_
              refine j_lv [0, 2] rfl ?_
              exact hk4 0 h
            · refine j_iconst (pc := 53) ok dX8_rowStart_53 ?_
              refine j_goto (pc := 54) 58 ok dX8_rowStart_54 (by decide) ?_
              refine j_lv [0, 2] rfl ?_
              exact hk4 (-1) h
          · refine j_iconst (pc := 40) ok dX8_rowStart_40 ?_
            refine j_goto (pc := 41) 58 ok dX8_rowStart_41 (by decide) ?_
            refine j_lv [0, 2] rfl ?_
            exact hk4 1 h
      · refine j_if_gt (pc := 11) 31 ok dX8_rowStart_11 (by decide) h (fun h => ?_) (fun h => ?_)
        · exact hk1 () h
        · refine j_aload_n (pc := 14) 0 ok dX8_rowStart_14 rfl rfl ?_
          refine j_iload_n (pc := 15) 2 ok dX8_rowStart_15 rfl rfl ?_
          refine j_iald (pc := 16) 0 ok rfl dX8_rowStart_16 h (fun h => ?_)
          obtain ⟨r2, hr2, h⟩ := bd_inv h
          refine j_callS (pc := 17) ok (k_X8_isBegin (x0 := a0F y3.toNat) hr2) gS_X8_97 hd_X8_isBegin [] (by decide) rfl rfl rfl rfl ⟨Nat.zero_le _, Nat.zero_le _⟩ (Nat.le_of_ble_eq_true rfl) dX8_rowStart_17 rfl [(a0, .inl (cs.1, a0N, .inl (aI a0F)))] rfl ?_
          refine j_if_ne (pc := 20) 66 ok dX8_rowStart_20 (by decide) h (fun h => ?_) (fun h => ?_)
          · refine j_lv [2] rfl ?_
            exact he6_66 (y2, y3) h
          · refine j_aload_n (pc := 23) 0 ok dX8_rowStart_23 rfl rfl ?_
            refine j_iload_n (pc := 24) 2 ok dX8_rowStart_24 rfl rfl ?_
            refine j_iald (pc := 25) 0 ok rfl dX8_rowStart_25 h (fun h => ?_)
            refine j_bipush (pc := 26) ok dX8_rowStart_26 (by decide) ?_
            refine j_icmp_eq (pc := 28) 66 ok dX8_rowStart_28 (by decide) h (fun h => ?_) (fun h => ?_)
            · refine j_lv [2] rfl ?_
              exact he6_66 (y2, y3) h
            · exact hk1 () h
def f_X8_rowStart (a0N : Nat) (a0F : (Nat → Int)) (x1 : Int) : Option (Int) := f_X8_rowStart_6 a0N a0F (fun (z7 : Int × Int) => some (z7.2 + 1)) fuel 0 (x1 - 1)
set_option maxRecDepth 100000 in
set_option maxHeartbeats 4000000 in
theorem k_X8_rowStart {D : va_G} {cs : q_CS} {a0 : Nat} {a0N : Nat} {a0F : (Nat → Int)} {x1 : Int} {r : (Int)} (h : f_X8_rowStart a0N a0F x1 = some r) : q_M D cs yX8_rowStart cX8_rowStart 4 (some .int) 1 20 [.ref a0, .int (iI x1)] [(a0, .inl (cs.1, a0N, .inl (aI a0F)))] (some (.int (iI r))) [(a0, .inl (cs.1, a0N, .inl (aI a0F)))] := by
  refine q_start_i [(0, .ref a0), (1, .int (iI x1))] RX8 rfl (by decide +kernel) rfl (Nat.le_of_ble_eq_true rfl) rfl (fun κ ok fin => ?_)
  unfold f_X8_rowStart at h
  refine j_iconst (pc := 0) ok dX8_rowStart_0 ?_
  refine j_istore_n (pc := 1) (lv' := [(2, .int (iI 0)), (0, .ref a0), (1, .int (iI x1))]) ok dX8_rowStart_1 rfl (by decide) rfl ?_
  refine j_iload_n (pc := 2) 2 ok dX8_rowStart_2 rfl rfl ?_
  refine j_iconst (pc := 3) ok dX8_rowStart_3 ?_
  refine j_isub (pc := 4) ok dX8_rowStart_4 ?_
  refine j_istore_n (pc := 5) (lv' := [(3, .int (iI (x1 - 1))), (2, .int (iI 0)), (0, .ref a0), (1, .int (iI x1))]) ok dX8_rowStart_5 rfl (by decide) rfl ?_
  refine j_lv [2, 1, 0] rfl ?_
  refine l_X8_rowStart_6 ok fin (fun z7 h => ?_) fuel _ _ h
  · refine j_iload_n (pc := 66) 0 ok dX8_rowStart_66 rfl rfl ?_
    refine j_iconst (pc := 67) ok dX8_rowStart_67 ?_
    refine j_iadd (pc := 68) ok dX8_rowStart_68 ?_
    obtain rfl := Option.some.inj h
    exact fin _ 69 dX8_rowStart_69
def f_X8_rowEnd_4 (a0N : Nat) (a0F : (Nat → Int)) (e4_68 : Int × Int → Option (Int)) : Nat → Int → Int → Option (Int)
  | 0, _, _ => none
  | n + 1, y2, y3 => gIn 180 a0N (cLt y3 (a0F (180 : Int).toNat) (jn (fun (z2 : Unit) => gIn y3 a0N (bd (f_X8_isBegin (a0F y3.toNat)) (fun r3 => jn (fun (z5 : Int) => f_X8_rowEnd_4 a0N a0F e4_68 n (y2 + z5) (y3 + 1)) (fun k4 => cEq r3 0 (gIn y3 a0N (cEq (a0F y3.toNat) ((-11)) (k4 (-1)) (k4 0))) (k4 1))))) (fun k1 => cLt 0 y2 (k1 ()) (gIn y3 a0N (cEq (a0F y3.toNat) ((-11)) (e4_68 (y2, y3)) (gIn y3 a0N (cEq (a0F y3.toNat) ((-10)) (e4_68 (y2, y3)) (k1 ()))))))) (e4_68 (y2, y3)))
set_option maxRecDepth 100000 in
theorem l_X8_rowEnd_4 {D : va_G} {cs : q_CS} {κ : q_X} {a0 : Nat} {a0N : Nat} {a0F : (Nat → Int)} {r : (Int)} {e4_68 : Int × Int → Option (Int)} (ok : q_ok D cs κ cX8_rowEnd 4 RX8 (q_rm 1 20)) (fin : ∀ (lv : List (Nat × Value)) (pc : Nat), decode cX8_rowEnd pc = .ok (.ireturn, 1) → q_J D κ 4 0 0 [(a0, .inl (cs.1, a0N, .inl (aI a0F)))] lv pc [.int (iI r)]) (he4_68 : ∀ x : Int × Int, e4_68 x = some r → q_J D κ 4 0 0 [(a0, .inl (cs.1, a0N, .inl (aI a0F)))] [(3, .int (iI x.2))] 68 []) : ∀ (n : Nat) (y2 : Int) (y3 : Int), f_X8_rowEnd_4 a0N a0F e4_68 n y2 y3 = some r → q_J D κ 4 0 0 [(a0, .inl (cs.1, a0N, .inl (aI a0F)))] [(0, .ref a0), (2, .int (iI y2)), (3, .int (iI y3))] 4 [] := by
  intro n
  induction n with
  | zero =>
    intro y2 y3 h
    exact absurd h (by unfold f_X8_rowEnd_4; exact fun z => by cases z)
  | succ n ih =>
    intro y2 y3 h
    unfold f_X8_rowEnd_4 at h
    refine j_iload_n (pc := 4) 2 ok dX8_rowEnd_4 rfl rfl ?_
    refine j_aload_n (pc := 5) 0 ok dX8_rowEnd_5 rfl rfl ?_
    refine j_sipush (pc := 6) ok dX8_rowEnd_6 (by decide) ?_
    refine j_iald (pc := 9) 0 ok rfl dX8_rowEnd_9 h (fun h => ?_)
    refine j_icmp_ge (pc := 10) 68 ok dX8_rowEnd_10 (by decide) h (fun h => ?_) (fun h => ?_)
    · refine j_lv [2] rfl ?_
      exact he4_68 (y2, y3) h
    · refine j_iload_n (pc := 13) 1 ok dX8_rowEnd_13 rfl rfl ?_
      refine jn_use (P := fun z2 => q_J D κ 4 0 0 [(a0, .inl (cs.1, a0N, .inl (aI a0F)))] [(0, .ref a0), (2, .int (iI y2)), (3, .int (iI y3))] 33 []) h (fun z2 h => ?_) (fun k1 hk1 h => ?_)
      · refine j_iload_n (pc := 33) 1 ok dX8_rowEnd_33 rfl rfl ?_
        refine j_aload_n (pc := 34) 0 ok dX8_rowEnd_34 rfl rfl ?_
        refine j_iload_n (pc := 35) 2 ok dX8_rowEnd_35 rfl rfl ?_
        refine j_iald (pc := 36) 0 ok rfl dX8_rowEnd_36 h (fun h => ?_)
        obtain ⟨r3, hr3, h⟩ := bd_inv h
        refine j_callS (pc := 37) ok (k_X8_isBegin (x0 := a0F y3.toNat) hr3) gS_X8_97 hd_X8_isBegin [] (by decide) rfl rfl rfl rfl ⟨Nat.zero_le _, Nat.zero_le _⟩ (Nat.le_of_ble_eq_true rfl) dX8_rowEnd_37 rfl [(a0, .inl (cs.1, a0N, .inl (aI a0F)))] rfl ?_
        refine jn_use (P := fun z5 => q_J D κ 4 0 0 [(a0, .inl (cs.1, a0N, .inl (aI a0F)))] [(0, .ref a0), (3, .int (iI y3))] 60 [.int (iI z5), .int (iI y2)]) h (fun z5 h => ?_) (fun k4 hk4 h => ?_)
        · refine j_iadd (pc := 60) ok dX8_rowEnd_60 ?_
          refine j_istore_n (pc := 61) (lv' := [(2, .int (iI (y2 + z5))), (0, .ref a0), (3, .int (iI y3))]) ok dX8_rowEnd_61 rfl (by decide) rfl ?_
          refine j_iinc (pc := 62) (lv' := [(3, .int (iI (y3 + 1))), (2, .int (iI (y2 + z5))), (0, .ref a0)]) 2 ok dX8_rowEnd_62 rfl (by decide) rfl ?_
          refine j_goto (pc := 65) 4 ok dX8_rowEnd_65 (by decide) ?_
          refine j_lv [2, 1, 0] rfl ?_
          exact ih _ _ h
        · refine j_if_eq (pc := 40) 47 ok dX8_rowEnd_40 (by decide) h (fun h => ?_) (fun h => ?_)
          · refine j_aload_n (pc := 47) 0 ok dX8_rowEnd_47 rfl rfl ?_
            refine j_iload_n (pc := 48) 2 ok dX8_rowEnd_48 rfl rfl ?_
            refine j_iald (pc := 49) 0 ok rfl dX8_rowEnd_49 h (fun h => ?_)
            refine j_bipush (pc := 50) ok dX8_rowEnd_50 (by decide) ?_
            refine j_icmp_ne (pc := 52) 59 ok dX8_rowEnd_52 (by decide) h (fun h => ?_) (fun h => ?_)
            · refine j_iconst (pc := 59) ok dX8_rowEnd_59 ?_
              refine j_lv [0, 2] rfl ?_
              exact hk4 0 h
            · refine j_iconst (pc := 55) ok dX8_rowEnd_55 ?_
              refine j_goto (pc := 56) 60 ok dX8_rowEnd_56 (by decide) ?_
              refine j_lv [0, 2] rfl ?_
              exact hk4 (-1) h
          · refine j_iconst (pc := 43) ok dX8_rowEnd_43 ?_
            refine j_goto (pc := 44) 60 ok dX8_rowEnd_44 (by decide) ?_
            refine j_lv [0, 2] rfl ?_
            exact hk4 1 h
      · refine j_if_gt (pc := 14) 33 ok dX8_rowEnd_14 (by decide) h (fun h => ?_) (fun h => ?_)
        · exact hk1 () h
        · refine j_aload_n (pc := 17) 0 ok dX8_rowEnd_17 rfl rfl ?_
          refine j_iload_n (pc := 18) 2 ok dX8_rowEnd_18 rfl rfl ?_
          refine j_iald (pc := 19) 0 ok rfl dX8_rowEnd_19 h (fun h => ?_)
          refine j_bipush (pc := 20) ok dX8_rowEnd_20 (by decide) ?_
          refine j_icmp_eq (pc := 22) 68 ok dX8_rowEnd_22 (by decide) h (fun h => ?_) (fun h => ?_)
          · refine j_lv [2] rfl ?_
            exact he4_68 (y2, y3) h
          · refine j_aload_n (pc := 25) 0 ok dX8_rowEnd_25 rfl rfl ?_
            refine j_iload_n (pc := 26) 2 ok dX8_rowEnd_26 rfl rfl ?_
            refine j_iald (pc := 27) 0 ok rfl dX8_rowEnd_27 h (fun h => ?_)
            refine j_bipush (pc := 28) ok dX8_rowEnd_28 (by decide) ?_
            refine j_icmp_eq (pc := 30) 68 ok dX8_rowEnd_30 (by decide) h (fun h => ?_) (fun h => ?_)
            · refine j_lv [2] rfl ?_
              exact he4_68 (y2, y3) h
            · exact hk1 () h
def f_X8_rowEnd (a0N : Nat) (a0F : (Nat → Int)) (x1 : Int) : Option (Int) := f_X8_rowEnd_4 a0N a0F (fun (z6 : Int × Int) => some z6.2) fuel 0 x1
set_option maxRecDepth 100000 in
set_option maxHeartbeats 4000000 in
theorem k_X8_rowEnd {D : va_G} {cs : q_CS} {a0 : Nat} {a0N : Nat} {a0F : (Nat → Int)} {x1 : Int} {r : (Int)} (h : f_X8_rowEnd a0N a0F x1 = some r) : q_M D cs yX8_rowEnd cX8_rowEnd 4 (some .int) 1 20 [.ref a0, .int (iI x1)] [(a0, .inl (cs.1, a0N, .inl (aI a0F)))] (some (.int (iI r))) [(a0, .inl (cs.1, a0N, .inl (aI a0F)))] := by
  refine q_start_i [(0, .ref a0), (1, .int (iI x1))] RX8 rfl (by decide +kernel) rfl (Nat.le_of_ble_eq_true rfl) rfl (fun κ ok fin => ?_)
  unfold f_X8_rowEnd at h
  refine j_iconst (pc := 0) ok dX8_rowEnd_0 ?_
  refine j_istore_n (pc := 1) (lv' := [(2, .int (iI 0)), (0, .ref a0), (1, .int (iI x1))]) ok dX8_rowEnd_1 rfl (by decide) rfl ?_
  refine j_iload_n (pc := 2) 2 ok dX8_rowEnd_2 rfl rfl ?_
  refine j_istore_n (pc := 3) (lv' := [(3, .int (iI x1)), (2, .int (iI 0)), (0, .ref a0), (1, .int (iI x1))]) ok dX8_rowEnd_3 rfl (by decide) rfl ?_
  refine j_lv [2, 1, 0] rfl ?_
  refine l_X8_rowEnd_4 ok fin (fun z6 h => ?_) fuel _ _ h
  · refine j_iload_n (pc := 68) 0 ok dX8_rowEnd_68 rfl rfl ?_
    obtain rfl := Option.some.inj h
    exact fin _ 69 dX8_rowEnd_69
def f_X8_itemStart (a0N : Nat) (a0F : (Nat → Int)) (x1 : Int) : Option (Int) := gIn (x1 - 1) a0N (jn (fun (z3 : Int) => some z3) (fun k1 => cEq (a0F (x1 - 1).toNat) ((-11)) (bd (f_X8_beginOf a0N a0F (x1 - 1)) (fun r2 => k1 r2)) (k1 (x1 - 1))))
set_option maxRecDepth 100000 in
set_option maxHeartbeats 4000000 in
theorem k_X8_itemStart {D : va_G} {cs : q_CS} {a0 : Nat} {a0N : Nat} {a0F : (Nat → Int)} {x1 : Int} {r : (Int)} (h : f_X8_itemStart a0N a0F x1 = some r) : q_M D cs yX8_itemStart cX8_itemStart 2 (some .int) 2 43 [.ref a0, .int (iI x1)] [(a0, .inl (cs.1, a0N, .inl (aI a0F)))] (some (.int (iI r))) [(a0, .inl (cs.1, a0N, .inl (aI a0F)))] := by
  refine q_start_i [(0, .ref a0), (1, .int (iI x1))] RX8 rfl (by decide +kernel) rfl (Nat.le_of_ble_eq_true rfl) rfl (fun κ ok fin => ?_)
  unfold f_X8_itemStart at h
  refine j_aload_n (pc := 0) 0 ok dX8_itemStart_0 rfl rfl ?_
  refine j_iload_n (pc := 1) 1 ok dX8_itemStart_1 rfl rfl ?_
  refine j_iconst (pc := 2) ok dX8_itemStart_2 ?_
  refine j_isub (pc := 3) ok dX8_itemStart_3 ?_
  refine j_iald (pc := 4) 0 ok rfl dX8_itemStart_4 h (fun h => ?_)
  refine j_bipush (pc := 5) ok dX8_itemStart_5 (by decide) ?_
  refine jn_use (P := fun z3 => q_J D κ 2 0 0 [(a0, .inl (cs.1, a0N, .inl (aI a0F)))] [] 23 [.int (iI z3)]) h (fun z3 h => ?_) (fun k1 hk1 h => ?_)
  · obtain rfl := Option.some.inj h
    exact fin _ 23 dX8_itemStart_23
  · refine j_icmp_ne (pc := 7) 20 ok dX8_itemStart_7 (by decide) h (fun h => ?_) (fun h => ?_)
    · refine j_iload_n (pc := 20) 1 ok dX8_itemStart_20 rfl rfl ?_
      refine j_iconst (pc := 21) ok dX8_itemStart_21 ?_
      refine j_isub (pc := 22) ok dX8_itemStart_22 ?_
      refine j_lv [] rfl ?_
      exact hk1 (x1 - 1) h
    · refine j_aload_n (pc := 10) 0 ok dX8_itemStart_10 rfl rfl ?_
      refine j_iload_n (pc := 11) 1 ok dX8_itemStart_11 rfl rfl ?_
      refine j_iconst (pc := 12) ok dX8_itemStart_12 ?_
      refine j_isub (pc := 13) ok dX8_itemStart_13 ?_
      obtain ⟨r2, hr2, h⟩ := bd_inv h
      refine j_callS (pc := 14) ok (k_X8_beginOf (a0 := a0) (a0N := a0N) (a0F := a0F) (x1 := x1 - 1) hr2) gS_X8_100 hd_X8_beginOf [0] (by decide) rfl rfl rfl rfl ⟨Nat.zero_le _, Nat.zero_le _⟩ (Nat.le_of_ble_eq_true rfl) dX8_itemStart_14 rfl [(a0, .inl (cs.1, a0N, .inl (aI a0F)))] rfl ?_
      refine j_goto (pc := 17) 23 ok dX8_itemStart_17 (by decide) ?_
      refine j_lv [] rfl ?_
      exact hk1 r2 h
def f_X8_itemEnd (a0N : Nat) (a0F : (Nat → Int)) (x1 : Int) : Option (Int) := gIn x1 a0N (bd (f_X8_isBegin (a0F x1.toNat)) (fun r1 => jn (fun (z4 : Int) => some z4) (fun k2 => cEq r1 0 (k2 (x1 + 1)) (bd (f_X8_endOf a0N a0F (x1 + 1)) (fun r3 => k2 (r3 + 1))))))
set_option maxRecDepth 100000 in
set_option maxHeartbeats 4000000 in
theorem k_X8_itemEnd {D : va_G} {cs : q_CS} {a0 : Nat} {a0N : Nat} {a0F : (Nat → Int)} {x1 : Int} {r : (Int)} (h : f_X8_itemEnd a0N a0F x1 = some r) : q_M D cs yX8_itemEnd cX8_itemEnd 2 (some .int) 2 43 [.ref a0, .int (iI x1)] [(a0, .inl (cs.1, a0N, .inl (aI a0F)))] (some (.int (iI r))) [(a0, .inl (cs.1, a0N, .inl (aI a0F)))] := by
  refine q_start_i [(0, .ref a0), (1, .int (iI x1))] RX8 rfl (by decide +kernel) rfl (Nat.le_of_ble_eq_true rfl) rfl (fun κ ok fin => ?_)
  unfold f_X8_itemEnd at h
  refine j_aload_n (pc := 0) 0 ok dX8_itemEnd_0 rfl rfl ?_
  refine j_iload_n (pc := 1) 1 ok dX8_itemEnd_1 rfl rfl ?_
  refine j_iald (pc := 2) 0 ok rfl dX8_itemEnd_2 h (fun h => ?_)
  obtain ⟨r1, hr1, h⟩ := bd_inv h
  refine j_callS (pc := 3) ok (k_X8_isBegin (x0 := a0F x1.toNat) hr1) gS_X8_97 hd_X8_isBegin [] (by decide) rfl rfl rfl rfl ⟨Nat.zero_le _, Nat.zero_le _⟩ (Nat.le_of_ble_eq_true rfl) dX8_itemEnd_3 rfl [(a0, .inl (cs.1, a0N, .inl (aI a0F)))] rfl ?_
  refine jn_use (P := fun z4 => q_J D κ 2 0 0 [(a0, .inl (cs.1, a0N, .inl (aI a0F)))] [] 24 [.int (iI z4)]) h (fun z4 h => ?_) (fun k2 hk2 h => ?_)
  · obtain rfl := Option.some.inj h
    exact fin _ 24 dX8_itemEnd_24
  · refine j_if_eq (pc := 6) 21 ok dX8_itemEnd_6 (by decide) h (fun h => ?_) (fun h => ?_)
    · refine j_iload_n (pc := 21) 1 ok dX8_itemEnd_21 rfl rfl ?_
      refine j_iconst (pc := 22) ok dX8_itemEnd_22 ?_
      refine j_iadd (pc := 23) ok dX8_itemEnd_23 ?_
      refine j_lv [] rfl ?_
      exact hk2 (x1 + 1) h
    · refine j_aload_n (pc := 9) 0 ok dX8_itemEnd_9 rfl rfl ?_
      refine j_iload_n (pc := 10) 1 ok dX8_itemEnd_10 rfl rfl ?_
      refine j_iconst (pc := 11) ok dX8_itemEnd_11 ?_
      refine j_iadd (pc := 12) ok dX8_itemEnd_12 ?_
      obtain ⟨r3, hr3, h⟩ := bd_inv h
      refine j_callS (pc := 13) ok (k_X8_endOf (a0 := a0) (a0N := a0N) (a0F := a0F) (x1 := x1 + 1) hr3) gS_X8_104 hd_X8_endOf [0] (by decide) rfl rfl rfl rfl ⟨Nat.zero_le _, Nat.zero_le _⟩ (Nat.le_of_ble_eq_true rfl) dX8_itemEnd_13 rfl [(a0, .inl (cs.1, a0N, .inl (aI a0F)))] rfl ?_
      refine j_iconst (pc := 16) ok dX8_itemEnd_16 ?_
      refine j_iadd (pc := 17) ok dX8_itemEnd_17 ?_
      refine j_goto (pc := 18) 24 ok dX8_itemEnd_18 (by decide) ?_
      refine j_lv [] rfl ?_
      exact hk2 (r3 + 1) h
def f_X8_itemsIn_5 (a0N : Nat) (a0F : (Nat → Int)) (y2 : Int) (e5_25 : Int × Int → Option (Int)) : Nat → Int → Int → Option (Int)
  | 0, _, _ => none
  | n + 1, y3, y4 => cLt y4 y2 (bd (f_X8_itemEnd a0N a0F y4) (fun r1 => f_X8_itemsIn_5 a0N a0F y2 e5_25 n (y3 + 1) r1)) (e5_25 (y3, y4))
set_option maxRecDepth 100000 in
theorem l_X8_itemsIn_5 {D : va_G} {cs : q_CS} {κ : q_X} {a0 : Nat} {a0N : Nat} {a0F : (Nat → Int)} {y2 : Int} {r : (Int)} {e5_25 : Int × Int → Option (Int)} (ok : q_ok D cs κ cX8_itemsIn 5 RX8 (q_rm 3 64)) (fin : ∀ (lv : List (Nat × Value)) (pc : Nat), decode cX8_itemsIn pc = .ok (.ireturn, 1) → q_J D κ 5 0 0 [(a0, .inl (cs.1, a0N, .inl (aI a0F)))] lv pc [.int (iI r)]) (he5_25 : ∀ x : Int × Int, e5_25 x = some r → q_J D κ 5 0 0 [(a0, .inl (cs.1, a0N, .inl (aI a0F)))] [(3, .int (iI x.1))] 25 []) : ∀ (n : Nat) (y3 : Int) (y4 : Int), f_X8_itemsIn_5 a0N a0F y2 e5_25 n y3 y4 = some r → q_J D κ 5 0 0 [(a0, .inl (cs.1, a0N, .inl (aI a0F)))] [(0, .ref a0), (2, .int (iI y2)), (3, .int (iI y3)), (4, .int (iI y4))] 5 [] := by
  intro n
  induction n with
  | zero =>
    intro y3 y4 h
    exact absurd h (by unfold f_X8_itemsIn_5; exact fun z => by cases z)
  | succ n ih =>
    intro y3 y4 h
    unfold f_X8_itemsIn_5 at h
    refine j_iload (pc := 5) 3 ok dX8_itemsIn_5 rfl ?_
    refine j_iload_n (pc := 7) 1 ok dX8_itemsIn_7 rfl rfl ?_
    refine j_icmp_ge (pc := 8) 25 ok dX8_itemsIn_8 (by decide) h (fun h => ?_) (fun h => ?_)
    · refine j_lv [2] rfl ?_
      exact he5_25 (y3, y4) h
    · refine j_iinc (pc := 11) (lv' := [(3, .int (iI (y3 + 1))), (0, .ref a0), (2, .int (iI y2)), (4, .int (iI y4))]) 2 ok dX8_itemsIn_11 rfl (by decide) rfl ?_
      refine j_aload_n (pc := 14) 1 ok dX8_itemsIn_14 rfl rfl ?_
      refine j_iload (pc := 15) 3 ok dX8_itemsIn_15 rfl ?_
      obtain ⟨r1, hr1, h⟩ := bd_inv h
      refine j_callS (pc := 17) ok (k_X8_itemEnd (a0 := a0) (a0N := a0N) (a0F := a0F) (x1 := y4) hr1) gS_X8_107 hd_X8_itemEnd [0] (by decide) rfl rfl rfl rfl ⟨Nat.zero_le _, Nat.zero_le _⟩ (Nat.le_of_ble_eq_true rfl) dX8_itemsIn_17 rfl [(a0, .inl (cs.1, a0N, .inl (aI a0F)))] rfl ?_
      refine j_istore (pc := 20) (lv' := [(4, .int (iI r1)), (3, .int (iI (y3 + 1))), (0, .ref a0), (2, .int (iI y2))]) ok dX8_itemsIn_20 (by decide) rfl ?_
      refine j_goto (pc := 22) 5 ok dX8_itemsIn_22 (by decide) ?_
      refine j_lv [2, 3, 1, 0] rfl ?_
      exact ih _ _ h
def f_X8_itemsIn (a0N : Nat) (a0F : (Nat → Int)) (x1 : Int) (x2 : Int) : Option (Int) := f_X8_itemsIn_5 a0N a0F x2 (fun (z2 : Int × Int) => some z2.1) fuel 0 x1
set_option maxRecDepth 100000 in
set_option maxHeartbeats 4000000 in
theorem k_X8_itemsIn {D : va_G} {cs : q_CS} {a0 : Nat} {a0N : Nat} {a0F : (Nat → Int)} {x1 x2 : Int} {r : (Int)} (h : f_X8_itemsIn a0N a0F x1 x2 = some r) : q_M D cs yX8_itemsIn cX8_itemsIn 5 (some .int) 3 64 [.ref a0, .int (iI x1), .int (iI x2)] [(a0, .inl (cs.1, a0N, .inl (aI a0F)))] (some (.int (iI r))) [(a0, .inl (cs.1, a0N, .inl (aI a0F)))] := by
  refine q_start_i [(0, .ref a0), (1, .int (iI x1)), (2, .int (iI x2))] RX8 rfl (by decide +kernel) rfl (Nat.le_of_ble_eq_true rfl) rfl (fun κ ok fin => ?_)
  unfold f_X8_itemsIn at h
  refine j_iconst (pc := 0) ok dX8_itemsIn_0 ?_
  refine j_istore_n (pc := 1) (lv' := [(3, .int (iI 0)), (0, .ref a0), (1, .int (iI x1)), (2, .int (iI x2))]) ok dX8_itemsIn_1 rfl (by decide) rfl ?_
  refine j_iload_n (pc := 2) 2 ok dX8_itemsIn_2 rfl rfl ?_
  refine j_istore (pc := 3) (lv' := [(4, .int (iI x1)), (3, .int (iI 0)), (0, .ref a0), (1, .int (iI x1)), (2, .int (iI x2))]) ok dX8_itemsIn_3 (by decide) rfl ?_
  refine j_lv [2, 4, 1, 0] rfl ?_
  refine l_X8_itemsIn_5 ok fin (fun z2 h => ?_) fuel _ _ h
  · refine j_iload_n (pc := 25) 0 ok dX8_itemsIn_25 rfl rfl ?_
    obtain rfl := Option.some.inj h
    exact fin _ 26 dX8_itemsIn_26
def f_X8_allIn_5 (a0N : Nat) (a0F : (Nat → Int)) (y2 : Int) (e5_42 : Int × Int → Option (Int)) : Nat → Int → Int → Option (Int)
  | 0, _, _ => none
  | n + 1, y3, y4 => cLt y4 y2 (gIn y4 a0N (jn (fun (z5 : Int) => f_X8_allIn_5 a0N a0F y2 e5_42 n (y3 + z5) (y4 + 1)) (fun k2 => jn (fun (z4 : Unit) => k2 1) (fun k1 => cLt 0 (a0F y4.toNat) (k1 ()) (gIn y4 a0N (bd (f_X8_isBegin (a0F y4.toNat)) (fun r3 => cEq r3 0 (k2 0) (k1 ())))))))) (e5_42 (y3, y4))
set_option maxRecDepth 100000 in
theorem l_X8_allIn_5 {D : va_G} {cs : q_CS} {κ : q_X} {a0 : Nat} {a0N : Nat} {a0F : (Nat → Int)} {y2 : Int} {r : (Int)} {e5_42 : Int × Int → Option (Int)} (ok : q_ok D cs κ cX8_allIn 5 RX8 (q_rm 1 20)) (fin : ∀ (lv : List (Nat × Value)) (pc : Nat), decode cX8_allIn pc = .ok (.ireturn, 1) → q_J D κ 5 0 0 [(a0, .inl (cs.1, a0N, .inl (aI a0F)))] lv pc [.int (iI r)]) (he5_42 : ∀ x : Int × Int, e5_42 x = some r → q_J D κ 5 0 0 [(a0, .inl (cs.1, a0N, .inl (aI a0F)))] [(3, .int (iI x.1))] 42 []) : ∀ (n : Nat) (y3 : Int) (y4 : Int), f_X8_allIn_5 a0N a0F y2 e5_42 n y3 y4 = some r → q_J D κ 5 0 0 [(a0, .inl (cs.1, a0N, .inl (aI a0F)))] [(0, .ref a0), (2, .int (iI y2)), (3, .int (iI y3)), (4, .int (iI y4))] 5 [] := by
  intro n
  induction n with
  | zero =>
    intro y3 y4 h
    exact absurd h (by unfold f_X8_allIn_5; exact fun z => by cases z)
  | succ n ih =>
    intro y3 y4 h
    unfold f_X8_allIn_5 at h
    refine j_iload (pc := 5) 3 ok dX8_allIn_5 rfl ?_
    refine j_iload_n (pc := 7) 1 ok dX8_allIn_7 rfl rfl ?_
    refine j_icmp_ge (pc := 8) 42 ok dX8_allIn_8 (by decide) h (fun h => ?_) (fun h => ?_)
    · refine j_lv [2] rfl ?_
      exact he5_42 (y3, y4) h
    · refine j_iload_n (pc := 11) 2 ok dX8_allIn_11 rfl rfl ?_
      refine j_aload_n (pc := 12) 0 ok dX8_allIn_12 rfl rfl ?_
      refine j_iload (pc := 13) 3 ok dX8_allIn_13 rfl ?_
      refine j_iald (pc := 15) 0 ok rfl dX8_allIn_15 h (fun h => ?_)
      refine jn_use (P := fun z5 => q_J D κ 5 0 0 [(a0, .inl (cs.1, a0N, .inl (aI a0F)))] [(0, .ref a0), (2, .int (iI y2)), (4, .int (iI y4))] 34 [.int (iI z5), .int (iI y3)]) h (fun z5 h => ?_) (fun k2 hk2 h => ?_)
      · refine j_iadd (pc := 34) ok dX8_allIn_34 ?_
        refine j_istore_n (pc := 35) (lv' := [(3, .int (iI (y3 + z5))), (0, .ref a0), (2, .int (iI y2)), (4, .int (iI y4))]) ok dX8_allIn_35 rfl (by decide) rfl ?_
        refine j_iinc (pc := 36) (lv' := [(4, .int (iI (y4 + 1))), (3, .int (iI (y3 + z5))), (0, .ref a0), (2, .int (iI y2))]) 3 ok dX8_allIn_36 rfl (by decide) rfl ?_
        refine j_goto (pc := 39) 5 ok dX8_allIn_39 (by decide) ?_
        refine j_lv [2, 3, 1, 0] rfl ?_
        exact ih _ _ h
      · refine jn_use (P := fun z4 => q_J D κ 5 0 0 [(a0, .inl (cs.1, a0N, .inl (aI a0F)))] [(0, .ref a0), (2, .int (iI y2)), (4, .int (iI y4))] 29 [.int (iI y3)]) h (fun z4 h => ?_) (fun k1 hk1 h => ?_)
        · refine j_iconst (pc := 29) ok dX8_allIn_29 ?_
          refine j_goto (pc := 30) 34 ok dX8_allIn_30 (by decide) ?_
          exact hk2 1 h
        · refine j_if_gt (pc := 16) 29 ok dX8_allIn_16 (by decide) h (fun h => ?_) (fun h => ?_)
          · refine j_lv [0, 1, 3] rfl ?_
            exact hk1 () h
          · refine j_aload_n (pc := 19) 0 ok dX8_allIn_19 rfl rfl ?_
            refine j_iload (pc := 20) 3 ok dX8_allIn_20 rfl ?_
            refine j_iald (pc := 22) 0 ok rfl dX8_allIn_22 h (fun h => ?_)
            obtain ⟨r3, hr3, h⟩ := bd_inv h
            refine j_callS (pc := 23) ok (k_X8_isBegin (x0 := a0F y4.toNat) hr3) gS_X8_97 hd_X8_isBegin [] (by decide) rfl rfl rfl rfl ⟨Nat.zero_le _, Nat.zero_le _⟩ (Nat.le_of_ble_eq_true rfl) dX8_allIn_23 rfl [(a0, .inl (cs.1, a0N, .inl (aI a0F)))] rfl ?_
            refine j_if_eq (pc := 26) 33 ok dX8_allIn_26 (by decide) h (fun h => ?_) (fun h => ?_)
            · refine j_iconst (pc := 33) ok dX8_allIn_33 ?_
              refine j_lv [0, 1, 3] rfl ?_
              exact hk2 0 h
            · refine j_lv [0, 1, 3] rfl ?_
              exact hk1 () h
def f_X8_allIn (a0N : Nat) (a0F : (Nat → Int)) (x1 : Int) (x2 : Int) : Option (Int) := f_X8_allIn_5 a0N a0F x2 (fun (z6 : Int × Int) => some z6.1) fuel 0 x1
set_option maxRecDepth 100000 in
set_option maxHeartbeats 4000000 in
theorem k_X8_allIn {D : va_G} {cs : q_CS} {a0 : Nat} {a0N : Nat} {a0F : (Nat → Int)} {x1 x2 : Int} {r : (Int)} (h : f_X8_allIn a0N a0F x1 x2 = some r) : q_M D cs yX8_allIn cX8_allIn 5 (some .int) 1 20 [.ref a0, .int (iI x1), .int (iI x2)] [(a0, .inl (cs.1, a0N, .inl (aI a0F)))] (some (.int (iI r))) [(a0, .inl (cs.1, a0N, .inl (aI a0F)))] := by
  refine q_start_i [(0, .ref a0), (1, .int (iI x1)), (2, .int (iI x2))] RX8 rfl (by decide +kernel) rfl (Nat.le_of_ble_eq_true rfl) rfl (fun κ ok fin => ?_)
  unfold f_X8_allIn at h
  refine j_iconst (pc := 0) ok dX8_allIn_0 ?_
  refine j_istore_n (pc := 1) (lv' := [(3, .int (iI 0)), (0, .ref a0), (1, .int (iI x1)), (2, .int (iI x2))]) ok dX8_allIn_1 rfl (by decide) rfl ?_
  refine j_iload_n (pc := 2) 2 ok dX8_allIn_2 rfl rfl ?_
  refine j_istore (pc := 3) (lv' := [(4, .int (iI x1)), (3, .int (iI 0)), (0, .ref a0), (1, .int (iI x1)), (2, .int (iI x2))]) ok dX8_allIn_3 (by decide) rfl ?_
  refine j_lv [2, 4, 1, 0] rfl ?_
  refine l_X8_allIn_5 ok fin (fun z6 h => ?_) fuel _ _ h
  · refine j_iload_n (pc := 42) 0 ok dX8_allIn_42 rfl rfl ?_
    obtain rfl := Option.some.inj h
    exact fin _ 43 dX8_allIn_43
def f_X8_levelAt_4 (a0N : Nat) (a0F : (Nat → Int)) (y1 : Int) (e4_44 : Int × Int → Option (Int)) : Nat → Int → Int → Option (Int)
  | 0, _, _ => none
  | n + 1, y2, y3 => cLt y3 y1 (gIn y3 a0N (bd (f_X8_isBegin (a0F y3.toNat)) (fun r1 => jn (fun (z3 : Int) => f_X8_levelAt_4 a0N a0F y1 e4_44 n (y2 + z3) (y3 + 1)) (fun k2 => cEq r1 0 (gIn y3 a0N (cEq (a0F y3.toNat) ((-11)) (k2 (-1)) (k2 0))) (k2 1))))) (e4_44 (y2, y3))
set_option maxRecDepth 100000 in
theorem l_X8_levelAt_4 {D : va_G} {cs : q_CS} {κ : q_X} {a0 : Nat} {a0N : Nat} {a0F : (Nat → Int)} {y1 : Int} {r : (Int)} {e4_44 : Int × Int → Option (Int)} (ok : q_ok D cs κ cX8_levelAt 4 RX8 (q_rm 1 20)) (fin : ∀ (lv : List (Nat × Value)) (pc : Nat), decode cX8_levelAt pc = .ok (.ireturn, 1) → q_J D κ 4 0 0 [(a0, .inl (cs.1, a0N, .inl (aI a0F)))] lv pc [.int (iI r)]) (he4_44 : ∀ x : Int × Int, e4_44 x = some r → q_J D κ 4 0 0 [(a0, .inl (cs.1, a0N, .inl (aI a0F)))] [(2, .int (iI x.1))] 44 []) : ∀ (n : Nat) (y2 : Int) (y3 : Int), f_X8_levelAt_4 a0N a0F y1 e4_44 n y2 y3 = some r → q_J D κ 4 0 0 [(a0, .inl (cs.1, a0N, .inl (aI a0F)))] [(0, .ref a0), (1, .int (iI y1)), (2, .int (iI y2)), (3, .int (iI y3))] 4 [] := by
  intro n
  induction n with
  | zero =>
    intro y2 y3 h
    exact absurd h (by unfold f_X8_levelAt_4; exact fun z => by cases z)
  | succ n ih =>
    intro y2 y3 h
    unfold f_X8_levelAt_4 at h
    refine j_iload_n (pc := 4) 3 ok dX8_levelAt_4 rfl rfl ?_
    refine j_iload_n (pc := 5) 1 ok dX8_levelAt_5 rfl rfl ?_
    refine j_icmp_ge (pc := 6) 44 ok dX8_levelAt_6 (by decide) h (fun h => ?_) (fun h => ?_)
    · refine j_lv [2] rfl ?_
      exact he4_44 (y2, y3) h
    · refine j_iload_n (pc := 9) 2 ok dX8_levelAt_9 rfl rfl ?_
      refine j_aload_n (pc := 10) 0 ok dX8_levelAt_10 rfl rfl ?_
      refine j_iload_n (pc := 11) 3 ok dX8_levelAt_11 rfl rfl ?_
      refine j_iald (pc := 12) 0 ok rfl dX8_levelAt_12 h (fun h => ?_)
      obtain ⟨r1, hr1, h⟩ := bd_inv h
      refine j_callS (pc := 13) ok (k_X8_isBegin (x0 := a0F y3.toNat) hr1) gS_X8_97 hd_X8_isBegin [] (by decide) rfl rfl rfl rfl ⟨Nat.zero_le _, Nat.zero_le _⟩ (Nat.le_of_ble_eq_true rfl) dX8_levelAt_13 rfl [(a0, .inl (cs.1, a0N, .inl (aI a0F)))] rfl ?_
      refine jn_use (P := fun z3 => q_J D κ 4 0 0 [(a0, .inl (cs.1, a0N, .inl (aI a0F)))] [(0, .ref a0), (1, .int (iI y1)), (3, .int (iI y3))] 36 [.int (iI z3), .int (iI y2)]) h (fun z3 h => ?_) (fun k2 hk2 h => ?_)
      · refine j_iadd (pc := 36) ok dX8_levelAt_36 ?_
        refine j_istore_n (pc := 37) (lv' := [(2, .int (iI (y2 + z3))), (0, .ref a0), (1, .int (iI y1)), (3, .int (iI y3))]) ok dX8_levelAt_37 rfl (by decide) rfl ?_
        refine j_iinc (pc := 38) (lv' := [(3, .int (iI (y3 + 1))), (2, .int (iI (y2 + z3))), (0, .ref a0), (1, .int (iI y1))]) 3 ok dX8_levelAt_38 rfl (by decide) rfl ?_
        refine j_goto (pc := 41) 4 ok dX8_levelAt_41 (by decide) ?_
        refine j_lv [2, 3, 1, 0] rfl ?_
        exact ih _ _ h
      · refine j_if_eq (pc := 16) 23 ok dX8_levelAt_16 (by decide) h (fun h => ?_) (fun h => ?_)
        · refine j_aload_n (pc := 23) 0 ok dX8_levelAt_23 rfl rfl ?_
          refine j_iload_n (pc := 24) 3 ok dX8_levelAt_24 rfl rfl ?_
          refine j_iald (pc := 25) 0 ok rfl dX8_levelAt_25 h (fun h => ?_)
          refine j_bipush (pc := 26) ok dX8_levelAt_26 (by decide) ?_
          refine j_icmp_ne (pc := 28) 35 ok dX8_levelAt_28 (by decide) h (fun h => ?_) (fun h => ?_)
          · refine j_iconst (pc := 35) ok dX8_levelAt_35 ?_
            refine j_lv [0, 1, 3] rfl ?_
            exact hk2 0 h
          · refine j_iconst (pc := 31) ok dX8_levelAt_31 ?_
            refine j_goto (pc := 32) 36 ok dX8_levelAt_32 (by decide) ?_
            refine j_lv [0, 1, 3] rfl ?_
            exact hk2 (-1) h
        · refine j_iconst (pc := 19) ok dX8_levelAt_19 ?_
          refine j_goto (pc := 20) 36 ok dX8_levelAt_20 (by decide) ?_
          refine j_lv [0, 1, 3] rfl ?_
          exact hk2 1 h
def f_X8_levelAt (a0N : Nat) (a0F : (Nat → Int)) (x1 : Int) : Option (Int) := f_X8_levelAt_4 a0N a0F x1 (fun (z4 : Int × Int) => some z4.1) fuel 0 0
set_option maxRecDepth 100000 in
set_option maxHeartbeats 4000000 in
theorem k_X8_levelAt {D : va_G} {cs : q_CS} {a0 : Nat} {a0N : Nat} {a0F : (Nat → Int)} {x1 : Int} {r : (Int)} (h : f_X8_levelAt a0N a0F x1 = some r) : q_M D cs yX8_levelAt cX8_levelAt 4 (some .int) 1 20 [.ref a0, .int (iI x1)] [(a0, .inl (cs.1, a0N, .inl (aI a0F)))] (some (.int (iI r))) [(a0, .inl (cs.1, a0N, .inl (aI a0F)))] := by
  refine q_start_i [(0, .ref a0), (1, .int (iI x1))] RX8 rfl (by decide +kernel) rfl (Nat.le_of_ble_eq_true rfl) rfl (fun κ ok fin => ?_)
  unfold f_X8_levelAt at h
  refine j_iconst (pc := 0) ok dX8_levelAt_0 ?_
  refine j_istore_n (pc := 1) (lv' := [(2, .int (iI 0)), (0, .ref a0), (1, .int (iI x1))]) ok dX8_levelAt_1 rfl (by decide) rfl ?_
  refine j_iconst (pc := 2) ok dX8_levelAt_2 ?_
  refine j_istore_n (pc := 3) (lv' := [(3, .int (iI 0)), (2, .int (iI 0)), (0, .ref a0), (1, .int (iI x1))]) ok dX8_levelAt_3 rfl (by decide) rfl ?_
  refine j_lv [2, 3, 1, 0] rfl ?_
  refine l_X8_levelAt_4 ok fin (fun z4 h => ?_) fuel _ _ h
  · refine j_iload_n (pc := 44) 0 ok dX8_levelAt_44 rfl rfl ?_
    obtain rfl := Option.some.inj h
    exact fin _ 45 dX8_levelAt_45
def f_X8_deepest_8 (a0N : Nat) (a0F : (Nat → Int)) (y2 : Int) (e8_65 : Int × Int × Int → Option (Int)) : Nat → Int → Int → Int → Option (Int)
  | 0, _, _, _ => none
  | n + 1, y3, y4, y5 => cLt y5 y2 (gIn y5 a0N (bd (f_X8_isBegin (a0F y5.toNat)) (fun r1 => jn (fun (z3 : Int) => jn (fun (z5 : Int) => f_X8_deepest_8 a0N a0F y2 e8_65 n (y3 + z3) z5 (y5 + 1)) (fun k4 => cLt y4 (y3 + z3) (k4 (y3 + z3)) (k4 y4))) (fun k2 => cEq r1 0 (gIn y5 a0N (cEq (a0F y5.toNat) ((-11)) (k2 (-1)) (k2 0))) (k2 1))))) (e8_65 (y3, y4, y5))
set_option maxRecDepth 100000 in
theorem l_X8_deepest_8 {D : va_G} {cs : q_CS} {κ : q_X} {a0 : Nat} {a0N : Nat} {a0F : (Nat → Int)} {y2 : Int} {r : (Int)} {e8_65 : Int × Int × Int → Option (Int)} (ok : q_ok D cs κ cX8_deepest 6 RX8 (q_rm 1 20)) (fin : ∀ (lv : List (Nat × Value)) (pc : Nat), decode cX8_deepest pc = .ok (.ireturn, 1) → q_J D κ 6 0 0 [(a0, .inl (cs.1, a0N, .inl (aI a0F)))] lv pc [.int (iI r)]) (he8_65 : ∀ x : Int × Int × Int, e8_65 x = some r → q_J D κ 6 0 0 [(a0, .inl (cs.1, a0N, .inl (aI a0F)))] [(4, .int (iI x.2.1))] 65 []) : ∀ (n : Nat) (y3 : Int) (y4 : Int) (y5 : Int), f_X8_deepest_8 a0N a0F y2 e8_65 n y3 y4 y5 = some r → q_J D κ 6 0 0 [(a0, .inl (cs.1, a0N, .inl (aI a0F)))] [(0, .ref a0), (2, .int (iI y2)), (3, .int (iI y3)), (4, .int (iI y4)), (5, .int (iI y5))] 8 [] := by
  intro n
  induction n with
  | zero =>
    intro y3 y4 y5 h
    exact absurd h (by unfold f_X8_deepest_8; exact fun z => by cases z)
  | succ n ih =>
    intro y3 y4 y5 h
    unfold f_X8_deepest_8 at h
    refine j_iload (pc := 8) 4 ok dX8_deepest_8 rfl ?_
    refine j_iload_n (pc := 10) 1 ok dX8_deepest_10 rfl rfl ?_
    refine j_icmp_ge (pc := 11) 65 ok dX8_deepest_11 (by decide) h (fun h => ?_) (fun h => ?_)
    · refine j_lv [3] rfl ?_
      exact he8_65 (y3, y4, y5) h
    · refine j_iload_n (pc := 14) 2 ok dX8_deepest_14 rfl rfl ?_
      refine j_aload_n (pc := 15) 0 ok dX8_deepest_15 rfl rfl ?_
      refine j_iload (pc := 16) 4 ok dX8_deepest_16 rfl ?_
      refine j_iald (pc := 18) 0 ok rfl dX8_deepest_18 h (fun h => ?_)
      obtain ⟨r1, hr1, h⟩ := bd_inv h
      refine j_callS (pc := 19) ok (k_X8_isBegin (x0 := a0F y5.toNat) hr1) gS_X8_97 hd_X8_isBegin [] (by decide) rfl rfl rfl rfl ⟨Nat.zero_le _, Nat.zero_le _⟩ (Nat.le_of_ble_eq_true rfl) dX8_deepest_19 rfl [(a0, .inl (cs.1, a0N, .inl (aI a0F)))] rfl ?_
      refine jn_use (P := fun z3 => q_J D κ 6 0 0 [(a0, .inl (cs.1, a0N, .inl (aI a0F)))] [(0, .ref a0), (2, .int (iI y2)), (4, .int (iI y4)), (5, .int (iI y5))] 43 [.int (iI z3), .int (iI y3)]) h (fun z3 h => ?_) (fun k2 hk2 h => ?_)
      · refine j_iadd (pc := 43) ok dX8_deepest_43 ?_
        refine j_istore_n (pc := 44) (lv' := [(3, .int (iI (y3 + z3))), (0, .ref a0), (2, .int (iI y2)), (4, .int (iI y4)), (5, .int (iI y5))]) ok dX8_deepest_44 rfl (by decide) rfl ?_
        refine j_iload_n (pc := 45) 0 ok dX8_deepest_45 rfl rfl ?_
        refine j_iload (pc := 46) 3 ok dX8_deepest_46 rfl ?_
        refine jn_use (P := fun z5 => q_J D κ 6 0 0 [(a0, .inl (cs.1, a0N, .inl (aI a0F)))] [(0, .ref a0), (2, .int (iI y2)), (3, .int (iI (y3 + z3))), (5, .int (iI y5))] 57 [.int (iI z5)]) h (fun z5 h => ?_) (fun k4 hk4 h => ?_)
        · refine j_istore (pc := 57) (lv' := [(4, .int (iI z5)), (0, .ref a0), (2, .int (iI y2)), (3, .int (iI (y3 + z3))), (5, .int (iI y5))]) ok dX8_deepest_57 (by decide) rfl ?_
          refine j_iinc (pc := 59) (lv' := [(5, .int (iI (y5 + 1))), (4, .int (iI z5)), (0, .ref a0), (2, .int (iI y2)), (3, .int (iI (y3 + z3)))]) 4 ok dX8_deepest_59 rfl (by decide) rfl ?_
          refine j_goto (pc := 62) 8 ok dX8_deepest_62 (by decide) ?_
          refine j_lv [2, 3, 4, 1, 0] rfl ?_
          exact ih _ _ _ h
        · refine j_icmp_le (pc := 48) 55 ok dX8_deepest_48 (by decide) h (fun h => ?_) (fun h => ?_)
          · refine j_iload (pc := 55) 3 ok dX8_deepest_55 rfl ?_
            refine j_lv [1, 2, 0, 4] rfl ?_
            exact hk4 y4 h
          · refine j_iload_n (pc := 51) 0 ok dX8_deepest_51 rfl rfl ?_
            refine j_goto (pc := 52) 57 ok dX8_deepest_52 (by decide) ?_
            refine j_lv [1, 2, 0, 4] rfl ?_
            exact hk4 (y3 + z3) h
      · refine j_if_eq (pc := 22) 29 ok dX8_deepest_22 (by decide) h (fun h => ?_) (fun h => ?_)
        · refine j_aload_n (pc := 29) 0 ok dX8_deepest_29 rfl rfl ?_
          refine j_iload (pc := 30) 4 ok dX8_deepest_30 rfl ?_
          refine j_iald (pc := 32) 0 ok rfl dX8_deepest_32 h (fun h => ?_)
          refine j_bipush (pc := 33) ok dX8_deepest_33 (by decide) ?_
          refine j_icmp_ne (pc := 35) 42 ok dX8_deepest_35 (by decide) h (fun h => ?_) (fun h => ?_)
          · refine j_iconst (pc := 42) ok dX8_deepest_42 ?_
            refine j_lv [0, 1, 3, 4] rfl ?_
            exact hk2 0 h
          · refine j_iconst (pc := 38) ok dX8_deepest_38 ?_
            refine j_goto (pc := 39) 43 ok dX8_deepest_39 (by decide) ?_
            refine j_lv [0, 1, 3, 4] rfl ?_
            exact hk2 (-1) h
        · refine j_iconst (pc := 25) ok dX8_deepest_25 ?_
          refine j_goto (pc := 26) 43 ok dX8_deepest_26 (by decide) ?_
          refine j_lv [0, 1, 3, 4] rfl ?_
          exact hk2 1 h
def f_X8_deepest (a0N : Nat) (a0F : (Nat → Int)) (x1 : Int) (x2 : Int) : Option (Int) := f_X8_deepest_8 a0N a0F x2 (fun (z6 : Int × Int × Int) => some z6.2.1) fuel 0 0 x1
set_option maxRecDepth 100000 in
set_option maxHeartbeats 4000000 in
theorem k_X8_deepest {D : va_G} {cs : q_CS} {a0 : Nat} {a0N : Nat} {a0F : (Nat → Int)} {x1 x2 : Int} {r : (Int)} (h : f_X8_deepest a0N a0F x1 x2 = some r) : q_M D cs yX8_deepest cX8_deepest 6 (some .int) 1 20 [.ref a0, .int (iI x1), .int (iI x2)] [(a0, .inl (cs.1, a0N, .inl (aI a0F)))] (some (.int (iI r))) [(a0, .inl (cs.1, a0N, .inl (aI a0F)))] := by
  refine q_start_i [(0, .ref a0), (1, .int (iI x1)), (2, .int (iI x2))] RX8 rfl (by decide +kernel) rfl (Nat.le_of_ble_eq_true rfl) rfl (fun κ ok fin => ?_)
  unfold f_X8_deepest at h
  refine j_iconst (pc := 0) ok dX8_deepest_0 ?_
  refine j_istore_n (pc := 1) (lv' := [(3, .int (iI 0)), (0, .ref a0), (1, .int (iI x1)), (2, .int (iI x2))]) ok dX8_deepest_1 rfl (by decide) rfl ?_
  refine j_iconst (pc := 2) ok dX8_deepest_2 ?_
  refine j_istore (pc := 3) (lv' := [(4, .int (iI 0)), (3, .int (iI 0)), (0, .ref a0), (1, .int (iI x1)), (2, .int (iI x2))]) ok dX8_deepest_3 (by decide) rfl ?_
  refine j_iload_n (pc := 5) 3 ok dX8_deepest_5 rfl rfl ?_
  refine j_istore (pc := 6) (lv' := [(5, .int (iI x1)), (4, .int (iI 0)), (3, .int (iI 0)), (0, .ref a0), (1, .int (iI x1)), (2, .int (iI x2))]) ok dX8_deepest_6 (by decide) rfl ?_
  refine j_lv [3, 5, 2, 1, 0] rfl ?_
  refine l_X8_deepest_8 ok fin (fun z6 h => ?_) fuel _ _ _ h
  · refine j_iload (pc := 65) 0 ok dX8_deepest_65 rfl ?_
    obtain rfl := Option.some.inj h
    exact fin _ 67 dX8_deepest_67
def f_X8_remove_2 (a0N : Nat) (y1 : Int) (y2 : Int) (e2_27 : (Nat → Int) × Int → Option ((Nat → Int))) : Nat → (Nat → Int) → Int → Option ((Nat → Int))
  | 0, _, _ => none
  | n + 1, a0F, y3 => gIn 180 a0N (cLt y3 (a0F (180 : Int).toNat) (gIn y3 a0N (gIn ((y1 + y3) - y2) a0N (f_X8_remove_2 a0N y1 y2 e2_27 n (va_up a0F ((y1 + y3) - y2).toNat (a0F y3.toNat)) (y3 + 1)))) (e2_27 (a0F, y3)))
set_option maxRecDepth 100000 in
theorem l_X8_remove_2 {D : va_G} {cs : q_CS} {κ : q_X} {a0 : Nat} {a0N : Nat} {y1 y2 : Int} {r : ((Nat → Int))} {e2_27 : (Nat → Int) × Int → Option ((Nat → Int))} (ok : q_ok D cs κ cX8_remove 4 RX8 (q_rm 0 0)) (fin : ∀ (lv : List (Nat × Value)) (pc : Nat), decode cX8_remove pc = .ok (.return_, 1) → q_J D κ 4 0 0 [(a0, .inl (cs.1, a0N, .inl (aI r)))] lv pc []) (he2_27 : ∀ x : (Nat → Int) × Int, e2_27 x = some r → q_J D κ 4 0 0 [(a0, .inl (cs.1, a0N, .inl (aI x.1)))] [(0, .ref a0), (1, .int (iI y1)), (2, .int (iI y2))] 27 []) : ∀ (n : Nat) (a0F : (Nat → Int)) (y3 : Int), f_X8_remove_2 a0N y1 y2 e2_27 n a0F y3 = some r → q_J D κ 4 0 0 [(a0, .inl (cs.1, a0N, .inl (aI a0F)))] [(0, .ref a0), (1, .int (iI y1)), (2, .int (iI y2)), (3, .int (iI y3))] 2 [] := by
  intro n
  induction n with
  | zero =>
    intro a0F y3 h
    exact absurd h (by unfold f_X8_remove_2; exact fun z => by cases z)
  | succ n ih =>
    intro a0F y3 h
    unfold f_X8_remove_2 at h
    refine j_iload_n (pc := 2) 3 ok dX8_remove_2 rfl rfl ?_
    refine j_aload_n (pc := 3) 0 ok dX8_remove_3 rfl rfl ?_
    refine j_sipush (pc := 4) ok dX8_remove_4 (by decide) ?_
    refine j_iald (pc := 7) 0 ok rfl dX8_remove_7 h (fun h => ?_)
    refine j_icmp_ge (pc := 8) 27 ok dX8_remove_8 (by decide) h (fun h => ?_) (fun h => ?_)
    · refine j_lv [0, 1, 2] rfl ?_
      exact he2_27 (a0F, y3) h
    · refine j_aload_n (pc := 11) 0 ok dX8_remove_11 rfl rfl ?_
      refine j_iload_n (pc := 12) 1 ok dX8_remove_12 rfl rfl ?_
      refine j_iload_n (pc := 13) 3 ok dX8_remove_13 rfl rfl ?_
      refine j_iadd (pc := 14) ok dX8_remove_14 ?_
      refine j_iload_n (pc := 15) 2 ok dX8_remove_15 rfl rfl ?_
      refine j_isub (pc := 16) ok dX8_remove_16 ?_
      refine j_aload_n (pc := 17) 0 ok dX8_remove_17 rfl rfl ?_
      refine j_iload_n (pc := 18) 3 ok dX8_remove_18 rfl rfl ?_
      refine j_iald (pc := 19) 0 ok rfl dX8_remove_19 h (fun h => ?_)
      refine j_iastw (pc := 20) 0 ok rfl dX8_remove_20 h [(a0, .inl (cs.1, a0N, .inl (aI (va_up a0F ((y1 + y3) - y2).toNat (a0F y3.toNat)))))] rfl (fun h => ?_)
      refine j_iinc (pc := 21) (lv' := [(3, .int (iI (y3 + 1))), (0, .ref a0), (1, .int (iI y1)), (2, .int (iI y2))]) 3 ok dX8_remove_21 rfl (by decide) rfl ?_
      refine j_goto (pc := 24) 2 ok dX8_remove_24 (by decide) ?_
      refine j_lv [1, 2, 3, 0] rfl ?_
      exact ih _ _ h
def f_X8_remove (a0N : Nat) (a0F : (Nat → Int)) (x1 : Int) (x2 : Int) : Option ((Nat → Int)) := f_X8_remove_2 a0N x1 x2 (fun (z1 : (Nat → Int) × Int) => gIn 180 a0N (gIn 180 a0N (some (va_up z1.1 (180 : Int).toNat ((z1.1 (180 : Int).toNat) - (x2 - x1)))))) fuel a0F x2
set_option maxRecDepth 100000 in
set_option maxHeartbeats 4000000 in
theorem k_X8_remove {D : va_G} {cs : q_CS} {a0 : Nat} {a0N : Nat} {a0F : (Nat → Int)} {x1 x2 : Int} {r : ((Nat → Int))} (h : f_X8_remove a0N a0F x1 x2 = some r) : q_M D cs yX8_remove cX8_remove 4 none 0 0 [.ref a0, .int (iI x1), .int (iI x2)] [(a0, .inl (cs.1, a0N, .inl (aI a0F)))] none [(a0, .inl (cs.1, a0N, .inl (aI r)))] := by
  refine q_start_v [(0, .ref a0), (1, .int (iI x1)), (2, .int (iI x2))] RX8 rfl (by decide +kernel) rfl (Nat.le_of_ble_eq_true rfl) (fun κ ok fin => ?_)
  unfold f_X8_remove at h
  refine j_iload_n (pc := 0) 2 ok dX8_remove_0 rfl rfl ?_
  refine j_istore_n (pc := 1) (lv' := [(3, .int (iI x2)), (0, .ref a0), (1, .int (iI x1)), (2, .int (iI x2))]) ok dX8_remove_1 rfl (by decide) rfl ?_
  refine j_lv [1, 2, 3, 0] rfl ?_
  refine l_X8_remove_2 ok fin (fun z1 h => ?_) fuel _ _ h
  · refine j_aload_n (pc := 27) 0 ok dX8_remove_27 rfl rfl ?_
    refine j_sipush (pc := 28) ok dX8_remove_28 (by decide) ?_
    refine j_dup2 (pc := 31) ok dX8_remove_31 rfl rfl ?_
    refine j_iald (pc := 32) 0 ok rfl dX8_remove_32 h (fun h => ?_)
    refine j_iload_n (pc := 33) 2 ok dX8_remove_33 rfl rfl ?_
    refine j_iload_n (pc := 34) 1 ok dX8_remove_34 rfl rfl ?_
    refine j_isub (pc := 35) ok dX8_remove_35 ?_
    refine j_isub (pc := 36) ok dX8_remove_36 ?_
    refine j_iastw (pc := 37) 0 ok rfl dX8_remove_37 h [(a0, .inl (cs.1, a0N, .inl (aI (va_up z1.1 (180 : Int).toNat ((z1.1 (180 : Int).toNat) - (x2 - x1))))))] rfl (fun h => ?_)
    obtain rfl := Option.some.inj h
    exact fin _ 38 dX8_remove_38
def f_X8_put_6 (a0N : Nat) (y1 : Int) (e6_25 : (Nat → Int) × Int → Option ((Nat → Int))) : Nat → (Nat → Int) → Int → Option ((Nat → Int))
  | 0, _, _ => none
  | n + 1, a0F, y3 => cLt y1 y3 (gIn (y3 - 1) a0N (gIn y3 a0N (f_X8_put_6 a0N y1 e6_25 n (va_up a0F y3.toNat (a0F (y3 - 1).toNat)) (y3 + (-1))))) (e6_25 (a0F, y3))
set_option maxRecDepth 100000 in
theorem l_X8_put_6 {D : va_G} {cs : q_CS} {κ : q_X} {a0 : Nat} {a0N : Nat} {y1 y2 : Int} {r : ((Nat → Int))} {e6_25 : (Nat → Int) × Int → Option ((Nat → Int))} (ok : q_ok D cs κ cX8_put 4 RX8 (q_rm 0 0)) (fin : ∀ (lv : List (Nat × Value)) (pc : Nat), decode cX8_put pc = .ok (.return_, 1) → q_J D κ 4 0 0 [(a0, .inl (cs.1, a0N, .inl (aI r)))] lv pc []) (he6_25 : ∀ x : (Nat → Int) × Int, e6_25 x = some r → q_J D κ 4 0 0 [(a0, .inl (cs.1, a0N, .inl (aI x.1)))] [(0, .ref a0), (1, .int (iI y1)), (2, .int (iI y2))] 25 []) : ∀ (n : Nat) (a0F : (Nat → Int)) (y3 : Int), f_X8_put_6 a0N y1 e6_25 n a0F y3 = some r → q_J D κ 4 0 0 [(a0, .inl (cs.1, a0N, .inl (aI a0F)))] [(0, .ref a0), (1, .int (iI y1)), (2, .int (iI y2)), (3, .int (iI y3))] 6 [] := by
  intro n
  induction n with
  | zero =>
    intro a0F y3 h
    exact absurd h (by unfold f_X8_put_6; exact fun z => by cases z)
  | succ n ih =>
    intro a0F y3 h
    unfold f_X8_put_6 at h
    refine j_iload_n (pc := 6) 3 ok dX8_put_6 rfl rfl ?_
    refine j_iload_n (pc := 7) 1 ok dX8_put_7 rfl rfl ?_
    refine j_icmp_le (pc := 8) 25 ok dX8_put_8 (by decide) h (fun h => ?_) (fun h => ?_)
    · refine j_lv [0, 1, 2] rfl ?_
      exact he6_25 (a0F, y3) h
    · refine j_aload_n (pc := 11) 0 ok dX8_put_11 rfl rfl ?_
      refine j_iload_n (pc := 12) 3 ok dX8_put_12 rfl rfl ?_
      refine j_aload_n (pc := 13) 0 ok dX8_put_13 rfl rfl ?_
      refine j_iload_n (pc := 14) 3 ok dX8_put_14 rfl rfl ?_
      refine j_iconst (pc := 15) ok dX8_put_15 ?_
      refine j_isub (pc := 16) ok dX8_put_16 ?_
      refine j_iald (pc := 17) 0 ok rfl dX8_put_17 h (fun h => ?_)
      refine j_iastw (pc := 18) 0 ok rfl dX8_put_18 h [(a0, .inl (cs.1, a0N, .inl (aI (va_up a0F y3.toNat (a0F (y3 - 1).toNat)))))] rfl (fun h => ?_)
      refine j_iinc (pc := 19) (lv' := [(3, .int (iI (y3 + (-1)))), (0, .ref a0), (1, .int (iI y1)), (2, .int (iI y2))]) 3 ok dX8_put_19 rfl (by decide) rfl ?_
      refine j_goto (pc := 22) 6 ok dX8_put_22 (by decide) ?_
      refine j_lv [1, 2, 3, 0] rfl ?_
      exact ih _ _ h
def f_X8_put (a0N : Nat) (a0F : (Nat → Int)) (x1 : Int) (x2 : Int) : Option ((Nat → Int)) := gIn 180 a0N (f_X8_put_6 a0N x1 (fun (z1 : (Nat → Int) × Int) => gIn x1 a0N (gIn 180 a0N (gIn 180 a0N (some (va_up (va_up z1.1 x1.toNat x2) (180 : Int).toNat (((va_up z1.1 x1.toNat x2) (180 : Int).toNat) + 1)))))) fuel a0F (a0F (180 : Int).toNat))
set_option maxRecDepth 100000 in
set_option maxHeartbeats 4000000 in
theorem k_X8_put {D : va_G} {cs : q_CS} {a0 : Nat} {a0N : Nat} {a0F : (Nat → Int)} {x1 x2 : Int} {r : ((Nat → Int))} (h : f_X8_put a0N a0F x1 x2 = some r) : q_M D cs yX8_put cX8_put 4 none 0 0 [.ref a0, .int (iI x1), .int (iI x2)] [(a0, .inl (cs.1, a0N, .inl (aI a0F)))] none [(a0, .inl (cs.1, a0N, .inl (aI r)))] := by
  refine q_start_v [(0, .ref a0), (1, .int (iI x1)), (2, .int (iI x2))] RX8 rfl (by decide +kernel) rfl (Nat.le_of_ble_eq_true rfl) (fun κ ok fin => ?_)
  unfold f_X8_put at h
  refine j_aload_n (pc := 0) 0 ok dX8_put_0 rfl rfl ?_
  refine j_sipush (pc := 1) ok dX8_put_1 (by decide) ?_
  refine j_iald (pc := 4) 0 ok rfl dX8_put_4 h (fun h => ?_)
  refine j_istore_n (pc := 5) (lv' := [(3, .int (iI (a0F (180 : Int).toNat))), (0, .ref a0), (1, .int (iI x1)), (2, .int (iI x2))]) ok dX8_put_5 rfl (by decide) rfl ?_
  refine j_lv [1, 2, 3, 0] rfl ?_
  refine l_X8_put_6 ok fin (fun z1 h => ?_) fuel _ _ h
  · refine j_aload_n (pc := 25) 0 ok dX8_put_25 rfl rfl ?_
    refine j_iload_n (pc := 26) 1 ok dX8_put_26 rfl rfl ?_
    refine j_iload_n (pc := 27) 2 ok dX8_put_27 rfl rfl ?_
    refine j_iastw (pc := 28) 0 ok rfl dX8_put_28 h [(a0, .inl (cs.1, a0N, .inl (aI (va_up z1.1 x1.toNat x2))))] rfl (fun h => ?_)
    refine j_aload_n (pc := 29) 0 ok dX8_put_29 rfl rfl ?_
    refine j_sipush (pc := 30) ok dX8_put_30 (by decide) ?_
    refine j_dup2 (pc := 33) ok dX8_put_33 rfl rfl ?_
    refine j_iald (pc := 34) 0 ok rfl dX8_put_34 h (fun h => ?_)
    refine j_iconst (pc := 35) ok dX8_put_35 ?_
    refine j_iadd (pc := 36) ok dX8_put_36 ?_
    refine j_iastw (pc := 37) 0 ok rfl dX8_put_37 h [(a0, .inl (cs.1, a0N, .inl (aI (va_up (va_up z1.1 x1.toNat x2) (180 : Int).toNat (((va_up z1.1 x1.toNat x2) (180 : Int).toNat) + 1)))))] rfl (fun h => ?_)
    obtain rfl := Option.some.inj h
    exact fin _ 38 dX8_put_38
def f_X8_clear (a0N : Nat) (a0F : (Nat → Int)) : Option ((Nat → Int)) := gIn 182 a0N (jn (fun (z3 : (Nat → Int)) => some z3) (fun k1 => cEq (a0F (182 : Int).toNat) ((-9)) (k1 a0F) (gIn 182 a0N (gIn 181 a0N (bd (f_X8_remove a0N a0F (a0F (182 : Int).toNat) (a0F (181 : Int).toNat)) (fun r2 => gIn 182 a0N (gIn 181 a0N (gIn 182 a0N (k1 (va_up (va_up r2 (181 : Int).toNat (r2 (182 : Int).toNat)) (182 : Int).toNat ((-9))))))))))))
set_option maxRecDepth 100000 in
set_option maxHeartbeats 4000000 in
theorem k_X8_clear {D : va_G} {cs : q_CS} {a0 : Nat} {a0N : Nat} {a0F : (Nat → Int)} {r : ((Nat → Int))} (h : f_X8_clear a0N a0F = some r) : q_M D cs yX8_clear cX8_clear 1 none 1 23 [.ref a0] [(a0, .inl (cs.1, a0N, .inl (aI a0F)))] none [(a0, .inl (cs.1, a0N, .inl (aI r)))] := by
  refine q_start_v [(0, .ref a0)] RX8 rfl (by decide +kernel) rfl (Nat.le_of_ble_eq_true rfl) (fun κ ok fin => ?_)
  unfold f_X8_clear at h
  refine j_aload_n (pc := 0) 0 ok dX8_clear_0 rfl rfl ?_
  refine j_sipush (pc := 1) ok dX8_clear_1 (by decide) ?_
  refine j_iald (pc := 4) 0 ok rfl dX8_clear_4 h (fun h => ?_)
  refine j_bipush (pc := 5) ok dX8_clear_5 (by decide) ?_
  refine jn_use (P := fun z3 => q_J D κ 1 0 0 [(a0, .inl (cs.1, a0N, .inl (aI z3)))] [] 41 []) h (fun z3 h => ?_) (fun k1 hk1 h => ?_)
  · obtain rfl := Option.some.inj h
    exact fin _ 41 dX8_clear_41
  · refine j_icmp_eq (pc := 7) 41 ok dX8_clear_7 (by decide) h (fun h => ?_) (fun h => ?_)
    · refine j_lv [] rfl ?_
      exact hk1 a0F h
    · refine j_aload_n (pc := 10) 0 ok dX8_clear_10 rfl rfl ?_
      refine j_aload_n (pc := 11) 0 ok dX8_clear_11 rfl rfl ?_
      refine j_sipush (pc := 12) ok dX8_clear_12 (by decide) ?_
      refine j_iald (pc := 15) 0 ok rfl dX8_clear_15 h (fun h => ?_)
      refine j_aload_n (pc := 16) 0 ok dX8_clear_16 rfl rfl ?_
      refine j_sipush (pc := 17) ok dX8_clear_17 (by decide) ?_
      refine j_iald (pc := 20) 0 ok rfl dX8_clear_20 h (fun h => ?_)
      obtain ⟨r2, hr2, h⟩ := bd_inv h
      refine j_callS (pc := 21) ok (k_X8_remove (a0 := a0) (a0N := a0N) (a0F := a0F) (x1 := a0F (182 : Int).toNat) (x2 := a0F (181 : Int).toNat) hr2) gS_X8_110 hd_X8_remove [0] (by decide) rfl rfl rfl rfl ⟨Nat.zero_le _, Nat.zero_le _⟩ (Nat.le_of_ble_eq_true rfl) dX8_clear_21 rfl [(a0, .inl (cs.1, a0N, .inl (aI r2)))] rfl ?_
      refine j_aload_n (pc := 24) 0 ok dX8_clear_24 rfl rfl ?_
      refine j_sipush (pc := 25) ok dX8_clear_25 (by decide) ?_
      refine j_aload_n (pc := 28) 0 ok dX8_clear_28 rfl rfl ?_
      refine j_sipush (pc := 29) ok dX8_clear_29 (by decide) ?_
      refine j_iald (pc := 32) 0 ok rfl dX8_clear_32 h (fun h => ?_)
      refine j_iastw (pc := 33) 0 ok rfl dX8_clear_33 h [(a0, .inl (cs.1, a0N, .inl (aI (va_up r2 (181 : Int).toNat (r2 (182 : Int).toNat)))))] rfl (fun h => ?_)
      refine j_aload_n (pc := 34) 0 ok dX8_clear_34 rfl rfl ?_
      refine j_sipush (pc := 35) ok dX8_clear_35 (by decide) ?_
      refine j_bipush (pc := 38) ok dX8_clear_38 (by decide) ?_
      refine j_iastw (pc := 40) 0 ok rfl dX8_clear_40 h [(a0, .inl (cs.1, a0N, .inl (aI (va_up (va_up r2 (181 : Int).toNat (r2 (182 : Int).toNat)) (182 : Int).toNat ((-9))))))] rfl (fun h => ?_)
      refine j_lv [] rfl ?_
      exact hk1 (va_up (va_up r2 (181 : Int).toNat (r2 (182 : Int).toNat)) (182 : Int).toNat ((-9))) h
def f_X8_types (a0N : Nat) (a0F : (Nat → Int)) (x1 : Int) : Option (Int × (Nat → Int)) := gIn 182 a0N (jn (fun (z3 : Int) => bd (f_X8_isSymbol x1) (fun r4 => jn (fun (z9 : Unit) => gB 0 (some (0, a0F))) (fun k5 => cEq r4 0 (k5 ()) (gIn 180 a0N (bd (f_X8_allIn a0N a0F 0 (a0F (180 : Int).toNat)) (fun r6 => cEq (r6 - z3) 60 (k5 ()) (bd (f_X8_clear a0N a0F) (fun r7 => gIn 181 a0N (bd (f_X8_put a0N r7 (r7 (181 : Int).toNat) x1) (fun r8 => gIn 181 a0N (gIn 181 a0N (gB 1 (some (1, va_up r8 (181 : Int).toNat ((r8 (181 : Int).toNat) + 1))))))))))))))) (fun k1 => cEq (a0F (182 : Int).toNat) ((-9)) (k1 0) (gIn 182 a0N (gIn 181 a0N (bd (f_X8_allIn a0N a0F (a0F (182 : Int).toNat) (a0F (181 : Int).toNat)) (fun r2 => k1 r2))))))
set_option maxRecDepth 100000 in
set_option maxHeartbeats 4000000 in
theorem k_X8_types {D : va_G} {cs : q_CS} {a0 : Nat} {a0N : Nat} {a0F : (Nat → Int)} {x1 : Int} {r : (Int × (Nat → Int))} (h : f_X8_types a0N a0F x1 = some r) : q_M D cs yX8_types cX8_types 3 (some .boolean) 3 65 [.ref a0, .int (iI x1)] [(a0, .inl (cs.1, a0N, .inl (aI a0F)))] (some (.int (iI r.1))) [(a0, .inl (cs.1, a0N, .inl (aI r.2)))] := by
  refine q_start_z [(0, .ref a0), (1, .int (iI x1))] RX8 rfl (by decide +kernel) rfl (Nat.le_of_ble_eq_true rfl) (fun κ ok fin => ?_)
  unfold f_X8_types at h
  refine j_aload_n (pc := 0) 0 ok dX8_types_0 rfl rfl ?_
  refine j_sipush (pc := 1) ok dX8_types_1 (by decide) ?_
  refine j_iald (pc := 4) 0 ok rfl dX8_types_4 h (fun h => ?_)
  refine j_bipush (pc := 5) ok dX8_types_5 (by decide) ?_
  refine jn_use (P := fun z3 => q_J D κ 3 0 0 [(a0, .inl (cs.1, a0N, .inl (aI a0F)))] [(0, .ref a0), (1, .int (iI x1))] 28 [.int (iI z3)]) h (fun z3 h => ?_) (fun k1 hk1 h => ?_)
  · refine j_istore_n (pc := 28) (lv' := [(2, .int (iI z3)), (0, .ref a0), (1, .int (iI x1))]) ok dX8_types_28 rfl (by decide) rfl ?_
    refine j_iload_n (pc := 29) 2 ok dX8_types_29 rfl rfl ?_
    obtain ⟨r4, hr4, h⟩ := bd_inv h
    refine j_callS (pc := 30) ok (k_X8_isSymbol (x0 := x1) hr4) gS_X8_118 hd_X8_isSymbol [] (by decide) rfl rfl rfl rfl ⟨Nat.zero_le _, Nat.zero_le _⟩ (Nat.le_of_ble_eq_true rfl) dX8_types_30 rfl [(a0, .inl (cs.1, a0N, .inl (aI a0F)))] rfl ?_
    refine jn_use (P := fun z9 => q_J D κ 3 0 0 [(a0, .inl (cs.1, a0N, .inl (aI a0F)))] [] 53 []) h (fun z9 h => ?_) (fun k5 hk5 h => ?_)
    · refine j_iconst (pc := 53) ok dX8_types_53 ?_
      obtain ⟨hbo, h⟩ := gB_inv h
      obtain rfl := Option.some.inj h
      exact fin _ 54 hbo dX8_types_54
    · refine j_if_eq (pc := 33) 53 ok dX8_types_33 (by decide) h (fun h => ?_) (fun h => ?_)
      · refine j_lv [] rfl ?_
        exact hk5 () h
      · refine j_aload_n (pc := 36) 1 ok dX8_types_36 rfl rfl ?_
        refine j_iconst (pc := 37) ok dX8_types_37 ?_
        refine j_aload_n (pc := 38) 1 ok dX8_types_38 rfl rfl ?_
        refine j_sipush (pc := 39) ok dX8_types_39 (by decide) ?_
        refine j_iald (pc := 42) 0 ok rfl dX8_types_42 h (fun h => ?_)
        obtain ⟨r6, hr6, h⟩ := bd_inv h
        refine j_callS (pc := 43) ok (k_X8_allIn (a0 := a0) (a0N := a0N) (a0F := a0F) (x1 := 0) (x2 := a0F (180 : Int).toNat) hr6) gS_X8_114 hd_X8_allIn [0] (by decide) rfl rfl rfl rfl ⟨Nat.zero_le _, Nat.zero_le _⟩ (Nat.le_of_ble_eq_true rfl) dX8_types_43 rfl [(a0, .inl (cs.1, a0N, .inl (aI a0F)))] rfl ?_
        refine j_iload_n (pc := 46) 0 ok dX8_types_46 rfl rfl ?_
        refine j_isub (pc := 47) ok dX8_types_47 ?_
        refine j_bipush (pc := 48) ok dX8_types_48 (by decide) ?_
        refine j_icmp_ne (pc := 50) 55 ok dX8_types_50 (by decide) h (fun h => ?_) (fun h => ?_)
        · refine j_aload_n (pc := 55) 1 ok dX8_types_55 rfl rfl ?_
          obtain ⟨r7, hr7, h⟩ := bd_inv h
          refine j_callS (pc := 56) ok (k_X8_clear (a0 := a0) (a0N := a0N) (a0F := a0F) hr7) gS_X8_121 hd_X8_clear [0] (by decide) rfl rfl rfl rfl ⟨Nat.zero_le _, Nat.zero_le _⟩ (Nat.le_of_ble_eq_true rfl) dX8_types_56 rfl [(a0, .inl (cs.1, a0N, .inl (aI r7)))] rfl ?_
          refine j_aload_n (pc := 59) 1 ok dX8_types_59 rfl rfl ?_
          refine j_aload_n (pc := 60) 1 ok dX8_types_60 rfl rfl ?_
          refine j_sipush (pc := 61) ok dX8_types_61 (by decide) ?_
          refine j_iald (pc := 64) 0 ok rfl dX8_types_64 h (fun h => ?_)
          refine j_iload_n (pc := 65) 2 ok dX8_types_65 rfl rfl ?_
          obtain ⟨r8, hr8, h⟩ := bd_inv h
          refine j_callS (pc := 66) ok (k_X8_put (a0 := a0) (a0N := a0N) (a0F := r7) (x1 := r7 (181 : Int).toNat) (x2 := x1) hr8) gS_X8_125 hd_X8_put [0] (by decide) rfl rfl rfl rfl ⟨Nat.zero_le _, Nat.zero_le _⟩ (Nat.le_of_ble_eq_true rfl) dX8_types_66 rfl [(a0, .inl (cs.1, a0N, .inl (aI r8)))] rfl ?_
          refine j_aload_n (pc := 69) 1 ok dX8_types_69 rfl rfl ?_
          refine j_sipush (pc := 70) ok dX8_types_70 (by decide) ?_
          refine j_dup2 (pc := 73) ok dX8_types_73 rfl rfl ?_
          refine j_iald (pc := 74) 0 ok rfl dX8_types_74 h (fun h => ?_)
          refine j_iconst (pc := 75) ok dX8_types_75 ?_
          refine j_iadd (pc := 76) ok dX8_types_76 ?_
          refine j_iastw (pc := 77) 0 ok rfl dX8_types_77 h [(a0, .inl (cs.1, a0N, .inl (aI (va_up r8 (181 : Int).toNat ((r8 (181 : Int).toNat) + 1)))))] rfl (fun h => ?_)
          refine j_iconst (pc := 78) ok dX8_types_78 ?_
          obtain ⟨hbo, h⟩ := gB_inv h
          obtain rfl := Option.some.inj h
          exact fin _ 79 hbo dX8_types_79
        · refine j_lv [] rfl ?_
          exact hk5 () h
  · refine j_icmp_ne (pc := 7) 14 ok dX8_types_7 (by decide) h (fun h => ?_) (fun h => ?_)
    · refine j_aload_n (pc := 14) 0 ok dX8_types_14 rfl rfl ?_
      refine j_aload_n (pc := 15) 0 ok dX8_types_15 rfl rfl ?_
      refine j_sipush (pc := 16) ok dX8_types_16 (by decide) ?_
      refine j_iald (pc := 19) 0 ok rfl dX8_types_19 h (fun h => ?_)
      refine j_aload_n (pc := 20) 0 ok dX8_types_20 rfl rfl ?_
      refine j_sipush (pc := 21) ok dX8_types_21 (by decide) ?_
      refine j_iald (pc := 24) 0 ok rfl dX8_types_24 h (fun h => ?_)
      obtain ⟨r2, hr2, h⟩ := bd_inv h
      refine j_callS (pc := 25) ok (k_X8_allIn (a0 := a0) (a0N := a0N) (a0F := a0F) (x1 := a0F (182 : Int).toNat) (x2 := a0F (181 : Int).toNat) hr2) gS_X8_114 hd_X8_allIn [0] (by decide) rfl rfl rfl rfl ⟨Nat.zero_le _, Nat.zero_le _⟩ (Nat.le_of_ble_eq_true rfl) dX8_types_25 rfl [(a0, .inl (cs.1, a0N, .inl (aI a0F)))] rfl ?_
      exact hk1 r2 h
    · refine j_iconst (pc := 10) ok dX8_types_10 ?_
      refine j_goto (pc := 11) 28 ok dX8_types_11 (by decide) ?_
      exact hk1 0 h
def f_X8_wraps (a0N : Nat) (a0F : (Nat → Int)) (x1 : Int) : Option (Int × (Nat → Int)) := gIn 181 a0N (gIn 182 a0N (jn (fun (z2 : Int) => gR x1 (bd (f_X8_in x1 1 5) (fun r3 => jn (fun (z15 : Unit) => gB 0 (some (0, a0F))) (fun k4 => cEq r3 0 (k4 ()) (gIn 180 a0N (bd (f_X8_allIn a0N a0F 0 (a0F (180 : Int).toNat)) (fun r5 => cEq r5 60 (k4 ()) (bd (f_X8_levelAt a0N a0F z2) (fun r6 => bd (f_X8_deepest a0N a0F z2 (a0F (181 : Int).toNat)) (fun r7 => cLt 5 ((r6 + 1) + r7) (k4 ()) (bd (f_X8_put a0N a0F (a0F (181 : Int).toNat) ((-11))) (fun r8 => jn (fun (z11 : (Nat → Int)) => bd (f_X8_put a0N z11 z2 (-x1)) (fun r12 => jn (fun (z14 : Int) => gIn 181 a0N (gIn 182 a0N (gB 1 (some (1, va_up (va_up r12 (181 : Int).toNat z14) (182 : Int).toNat ((-9))))))) (fun k13 => cEq z2 (a0F (181 : Int).toNat) (k13 (z2 + 1)) (k13 ((a0F (181 : Int).toNat) + 2))))) (fun k9 => cEq x1 1 (bd (f_X8_put a0N r8 (a0F (181 : Int).toNat) ((-10))) (fun r10 => k9 r10)) (k9 r8)))))))))))))) (fun k1 => cEq (a0F (182 : Int).toNat) ((-9)) (k1 (a0F (181 : Int).toNat)) (gIn 182 a0N (k1 (a0F (182 : Int).toNat))))))
set_option maxRecDepth 100000 in
set_option maxHeartbeats 4000000 in
theorem k_X8_wraps {D : va_G} {cs : q_CS} {a0 : Nat} {a0N : Nat} {a0F : (Nat → Int)} {x1 : Int} {r : (Int × (Nat → Int))} (h : f_X8_wraps a0N a0F x1 = some r) : q_M D cs yX8_wraps cX8_wraps 4 (some .boolean) 2 45 [.ref a0, .int (iI x1)] [(a0, .inl (cs.1, a0N, .inl (aI a0F)))] (some (.int (iI r.1))) [(a0, .inl (cs.1, a0N, .inl (aI r.2)))] := by
  refine q_start_z [(0, .ref a0), (1, .int (iI x1))] RX8 rfl (by decide +kernel) rfl (Nat.le_of_ble_eq_true rfl) (fun κ ok fin => ?_)
  unfold f_X8_wraps at h
  refine j_aload_n (pc := 0) 0 ok dX8_wraps_0 rfl rfl ?_
  refine j_sipush (pc := 1) ok dX8_wraps_1 (by decide) ?_
  refine j_iald (pc := 4) 0 ok rfl dX8_wraps_4 h (fun h => ?_)
  refine j_istore_n (pc := 5) (lv' := [(2, .int (iI (a0F (181 : Int).toNat))), (0, .ref a0), (1, .int (iI x1))]) ok dX8_wraps_5 rfl (by decide) rfl ?_
  refine j_aload_n (pc := 6) 1 ok dX8_wraps_6 rfl rfl ?_
  refine j_sipush (pc := 7) ok dX8_wraps_7 (by decide) ?_
  refine j_iald (pc := 10) 0 ok rfl dX8_wraps_10 h (fun h => ?_)
  refine j_bipush (pc := 11) ok dX8_wraps_11 (by decide) ?_
  refine jn_use (P := fun z2 => q_J D κ 4 0 0 [(a0, .inl (cs.1, a0N, .inl (aI a0F)))] [(0, .ref a0), (1, .int (iI x1)), (2, .int (iI (a0F (181 : Int).toNat)))] 25 [.int (iI z2)]) h (fun z2 h => ?_) (fun k1 hk1 h => ?_)
  · refine j_istore_n (pc := 25) (lv' := [(3, .int (iI z2)), (0, .ref a0), (1, .int (iI x1)), (2, .int (iI (a0F (181 : Int).toNat)))]) ok dX8_wraps_25 rfl (by decide) rfl ?_
    refine j_iload_n (pc := 26) 2 ok dX8_wraps_26 rfl rfl ?_
    refine j_i2l (pc := 27) ok dX8_wraps_27 h (fun h => ?_)
    refine j_lconst (pc := 28) 1 ok dX8_wraps_28 (by decide) ?_
    refine j_ldc2 (pc := 29) 5 ok dX8_wraps_29 (q_in 1308 (by decide +kernel) (by decide +kernel)) ?_
    obtain ⟨r3, hr3, h⟩ := bd_inv h
    refine j_callS (pc := 32) ok (k_X8_in (x0 := x1) (x1 := 1) (x2 := 5) hr3) gS_X8_79 hd_X8_in [] (by decide) rfl rfl rfl rfl ⟨Nat.zero_le _, Nat.zero_le _⟩ (Nat.le_of_ble_eq_true rfl) dX8_wraps_32 rfl [(a0, .inl (cs.1, a0N, .inl (aI a0F)))] rfl ?_
    refine jn_use (P := fun z15 => q_J D κ 4 0 0 [(a0, .inl (cs.1, a0N, .inl (aI a0F)))] [] 71 []) h (fun z15 h => ?_) (fun k4 hk4 h => ?_)
    · refine j_iconst (pc := 71) ok dX8_wraps_71 ?_
      obtain ⟨hbo, h⟩ := gB_inv h
      obtain rfl := Option.some.inj h
      exact fin _ 72 hbo dX8_wraps_72
    · refine j_if_eq (pc := 35) 71 ok dX8_wraps_35 (by decide) h (fun h => ?_) (fun h => ?_)
      · refine j_lv [] rfl ?_
        exact hk4 () h
      · refine j_aload_n (pc := 38) 1 ok dX8_wraps_38 rfl rfl ?_
        refine j_iconst (pc := 39) ok dX8_wraps_39 ?_
        refine j_aload_n (pc := 40) 1 ok dX8_wraps_40 rfl rfl ?_
        refine j_sipush (pc := 41) ok dX8_wraps_41 (by decide) ?_
        refine j_iald (pc := 44) 0 ok rfl dX8_wraps_44 h (fun h => ?_)
        obtain ⟨r5, hr5, h⟩ := bd_inv h
        refine j_callS (pc := 45) ok (k_X8_allIn (a0 := a0) (a0N := a0N) (a0F := a0F) (x1 := 0) (x2 := a0F (180 : Int).toNat) hr5) gS_X8_114 hd_X8_allIn [0] (by decide) rfl rfl rfl rfl ⟨Nat.zero_le _, Nat.zero_le _⟩ (Nat.le_of_ble_eq_true rfl) dX8_wraps_45 rfl [(a0, .inl (cs.1, a0N, .inl (aI a0F)))] rfl ?_
        refine j_bipush (pc := 48) ok dX8_wraps_48 (by decide) ?_
        refine j_icmp_eq (pc := 50) 71 ok dX8_wraps_50 (by decide) h (fun h => ?_) (fun h => ?_)
        · refine j_lv [] rfl ?_
          exact hk4 () h
        · refine j_aload_n (pc := 53) 1 ok dX8_wraps_53 rfl rfl ?_
          refine j_iload_n (pc := 54) 0 ok dX8_wraps_54 rfl rfl ?_
          obtain ⟨r6, hr6, h⟩ := bd_inv h
          refine j_callS (pc := 55) ok (k_X8_levelAt (a0 := a0) (a0N := a0N) (a0F := a0F) (x1 := z2) hr6) gS_X8_130 hd_X8_levelAt [0] (by decide) rfl rfl rfl rfl ⟨Nat.zero_le _, Nat.zero_le _⟩ (Nat.le_of_ble_eq_true rfl) dX8_wraps_55 rfl [(a0, .inl (cs.1, a0N, .inl (aI a0F)))] rfl ?_
          refine j_iconst (pc := 58) ok dX8_wraps_58 ?_
          refine j_iadd (pc := 59) ok dX8_wraps_59 ?_
          refine j_aload_n (pc := 60) 1 ok dX8_wraps_60 rfl rfl ?_
          refine j_iload_n (pc := 61) 0 ok dX8_wraps_61 rfl rfl ?_
          refine j_iload_n (pc := 62) 3 ok dX8_wraps_62 rfl rfl ?_
          obtain ⟨r7, hr7, h⟩ := bd_inv h
          refine j_callS (pc := 63) ok (k_X8_deepest (a0 := a0) (a0N := a0N) (a0F := a0F) (x1 := z2) (x2 := a0F (181 : Int).toNat) hr7) gS_X8_133 hd_X8_deepest [0] (by decide) rfl rfl rfl rfl ⟨Nat.zero_le _, Nat.zero_le _⟩ (Nat.le_of_ble_eq_true rfl) dX8_wraps_63 rfl [(a0, .inl (cs.1, a0N, .inl (aI a0F)))] rfl ?_
          refine j_iadd (pc := 66) ok dX8_wraps_66 ?_
          refine j_iconst (pc := 67) ok dX8_wraps_67 ?_
          refine j_icmp_le (pc := 68) 73 ok dX8_wraps_68 (by decide) h (fun h => ?_) (fun h => ?_)
          · refine j_aload_n (pc := 73) 1 ok dX8_wraps_73 rfl rfl ?_
            refine j_iload_n (pc := 74) 3 ok dX8_wraps_74 rfl rfl ?_
            refine j_bipush (pc := 75) ok dX8_wraps_75 (by decide) ?_
            obtain ⟨r8, hr8, h⟩ := bd_inv h
            refine j_callS (pc := 77) ok (k_X8_put (a0 := a0) (a0N := a0N) (a0F := a0F) (x1 := a0F (181 : Int).toNat) (x2 := (-11)) hr8) gS_X8_125 hd_X8_put [0] (by decide) rfl rfl rfl rfl ⟨Nat.zero_le _, Nat.zero_le _⟩ (Nat.le_of_ble_eq_true rfl) dX8_wraps_77 rfl [(a0, .inl (cs.1, a0N, .inl (aI r8)))] rfl ?_
            refine j_iload_n (pc := 80) 2 ok dX8_wraps_80 rfl rfl ?_
            refine j_iconst (pc := 81) ok dX8_wraps_81 ?_
            refine jn_use (P := fun z11 => q_J D κ 4 0 0 [(a0, .inl (cs.1, a0N, .inl (aI z11)))] [(0, .ref a0), (1, .int (iI x1)), (2, .int (iI (a0F (181 : Int).toNat))), (3, .int (iI z2))] 92 []) h (fun z11 h => ?_) (fun k9 hk9 h => ?_)
            · refine j_aload_n (pc := 92) 0 ok dX8_wraps_92 rfl rfl ?_
              refine j_iload_n (pc := 93) 3 ok dX8_wraps_93 rfl rfl ?_
              refine j_iload_n (pc := 94) 1 ok dX8_wraps_94 rfl rfl ?_
              refine j_ineg (pc := 95) ok dX8_wraps_95 ?_
              obtain ⟨r12, hr12, h⟩ := bd_inv h
              refine j_callS (pc := 96) ok (k_X8_put (a0 := a0) (a0N := a0N) (a0F := z11) (x1 := z2) (x2 := -x1) hr12) gS_X8_125 hd_X8_put [0] (by decide) rfl rfl rfl rfl ⟨Nat.zero_le _, Nat.zero_le _⟩ (Nat.le_of_ble_eq_true rfl) dX8_wraps_96 rfl [(a0, .inl (cs.1, a0N, .inl (aI r12)))] rfl ?_
              refine j_aload_n (pc := 99) 0 ok dX8_wraps_99 rfl rfl ?_
              refine j_sipush (pc := 100) ok dX8_wraps_100 (by decide) ?_
              refine j_iload_n (pc := 103) 3 ok dX8_wraps_103 rfl rfl ?_
              refine j_iload_n (pc := 104) 2 ok dX8_wraps_104 rfl rfl ?_
              refine jn_use (P := fun z14 => q_J D κ 4 0 0 [(a0, .inl (cs.1, a0N, .inl (aI r12)))] [(0, .ref a0)] 117 [.int (iI z14), .int (iI 181), .ref a0]) h (fun z14 h => ?_) (fun k13 hk13 h => ?_)
              · refine j_iastw (pc := 117) 0 ok rfl dX8_wraps_117 h [(a0, .inl (cs.1, a0N, .inl (aI (va_up r12 (181 : Int).toNat z14))))] rfl (fun h => ?_)
                refine j_aload_n (pc := 118) 0 ok dX8_wraps_118 rfl rfl ?_
                refine j_sipush (pc := 119) ok dX8_wraps_119 (by decide) ?_
                refine j_bipush (pc := 122) ok dX8_wraps_122 (by decide) ?_
                refine j_iastw (pc := 124) 0 ok rfl dX8_wraps_124 h [(a0, .inl (cs.1, a0N, .inl (aI (va_up (va_up r12 (181 : Int).toNat z14) (182 : Int).toNat ((-9))))))] rfl (fun h => ?_)
                refine j_iconst (pc := 125) ok dX8_wraps_125 ?_
                obtain ⟨hbo, h⟩ := gB_inv h
                obtain rfl := Option.some.inj h
                exact fin _ 126 hbo dX8_wraps_126
              · refine j_icmp_ne (pc := 105) 114 ok dX8_wraps_105 (by decide) h (fun h => ?_) (fun h => ?_)
                · refine j_iload_n (pc := 114) 2 ok dX8_wraps_114 rfl rfl ?_
                  refine j_iconst (pc := 115) ok dX8_wraps_115 ?_
                  refine j_iadd (pc := 116) ok dX8_wraps_116 ?_
                  refine j_lv [0] rfl ?_
                  exact hk13 ((a0F (181 : Int).toNat) + 2) h
                · refine j_iload_n (pc := 108) 3 ok dX8_wraps_108 rfl rfl ?_
                  refine j_iconst (pc := 109) ok dX8_wraps_109 ?_
                  refine j_iadd (pc := 110) ok dX8_wraps_110 ?_
                  refine j_goto (pc := 111) 117 ok dX8_wraps_111 (by decide) ?_
                  refine j_lv [0] rfl ?_
                  exact hk13 (z2 + 1) h
            · refine j_icmp_ne (pc := 82) 92 ok dX8_wraps_82 (by decide) h (fun h => ?_) (fun h => ?_)
              · refine j_lv [1, 2, 3, 0] rfl ?_
                exact hk9 r8 h
              · refine j_aload_n (pc := 85) 1 ok dX8_wraps_85 rfl rfl ?_
                refine j_iload_n (pc := 86) 3 ok dX8_wraps_86 rfl rfl ?_
                refine j_bipush (pc := 87) ok dX8_wraps_87 (by decide) ?_
                obtain ⟨r10, hr10, h⟩ := bd_inv h
                refine j_callS (pc := 89) ok (k_X8_put (a0 := a0) (a0N := a0N) (a0F := r8) (x1 := a0F (181 : Int).toNat) (x2 := (-10)) hr10) gS_X8_125 hd_X8_put [0] (by decide) rfl rfl rfl rfl ⟨Nat.zero_le _, Nat.zero_le _⟩ (Nat.le_of_ble_eq_true rfl) dX8_wraps_89 rfl [(a0, .inl (cs.1, a0N, .inl (aI r10)))] rfl ?_
                refine j_lv [1, 2, 3, 0] rfl ?_
                exact hk9 r10 h
          · refine j_lv [] rfl ?_
            exact hk4 () h
  · refine j_icmp_ne (pc := 13) 20 ok dX8_wraps_13 (by decide) h (fun h => ?_) (fun h => ?_)
    · refine j_aload_n (pc := 20) 1 ok dX8_wraps_20 rfl rfl ?_
      refine j_sipush (pc := 21) ok dX8_wraps_21 (by decide) ?_
      refine j_iald (pc := 24) 0 ok rfl dX8_wraps_24 h (fun h => ?_)
      refine j_lv [1, 2, 0] rfl ?_
      exact hk1 (a0F (182 : Int).toNat) h
    · refine j_iload_n (pc := 16) 0 ok dX8_wraps_16 rfl rfl ?_
      refine j_goto (pc := 17) 25 ok dX8_wraps_17 (by decide) ?_
      refine j_lv [1, 2, 0] rfl ?_
      exact hk1 (a0F (181 : Int).toNat) h
def f_X8_backs (a0N : Nat) (a0F : (Nat → Int)) : Option (Int × (Nat → Int)) := gIn 181 a0N (gIn 182 a0N (cEq (a0F (182 : Int).toNat) ((-9)) (bd (f_X8_rowStart a0N a0F (a0F (181 : Int).toNat)) (fun r1 => cLt r1 (a0F (181 : Int).toNat) (bd (f_X8_itemStart a0N a0F (a0F (181 : Int).toNat)) (fun r18 => bd (f_X8_allIn a0N a0F r18 (a0F (181 : Int).toNat)) (fun r19 => jn (fun (z21 : Int) => jn (fun (z24 : (Nat → Int)) => jn (fun (z26 : Int) => gIn 181 a0N (gB 1 (some (1, va_up z24 (181 : Int).toNat z26)))) (fun k25 => cEq z21 0 (k25 ((a0F (181 : Int).toNat) - 1)) (k25 r18))) (fun k22 => cEq z21 0 (k22 a0F) (bd (f_X8_remove a0N a0F r18 (a0F (181 : Int).toNat)) (fun r23 => k22 r23)))) (fun k20 => cEq r19 1 (k20 1) (k20 0))))) (cEq r1 0 (gB 0 (some (0, a0F))) (gIn (r1 - 1) a0N (jn (fun (z3 : Int) => jn (fun (z6 : Int) => bd (f_X8_endOf a0N a0F r1) (fun r7 => jn (fun (z10 : Int) => bd (f_X8_remove a0N a0F r7 (r7 + 1)) (fun r11 => jn (fun (z14 : (Nat → Int)) => bd (f_X8_remove a0N z14 z6 (z6 + 1)) (fun r15 => jn (fun (z17 : Int) => gIn 181 a0N (gB 1 (some (1, va_up r15 (181 : Int).toNat z17)))) (fun k16 => cEq z3 0 (k16 (r1 - 1)) (k16 (r1 - 2))))) (fun k12 => cLt z10 r7 (bd (f_X8_remove a0N r11 z10 (z10 + 1)) (fun r13 => k12 r13)) (k12 r11)))) (fun k8 => cEq z3 0 (bd (f_X8_rowEnd a0N a0F r1) (fun r9 => k8 r9)) (k8 (r1 - 1))))) (fun k4 => cEq z3 0 (k4 (r1 - 1)) (bd (f_X8_beginOf a0N a0F (r1 - 1)) (fun r5 => k4 r5)))) (fun k2 => cEq (a0F (r1 - 1).toNat) ((-10)) (k2 1) (k2 0))))))) (bd (f_X8_clear a0N a0F) (fun r27 => gB 1 (some (1, r27))))))
set_option maxRecDepth 100000 in
set_option maxHeartbeats 4000000 in
theorem k_X8_backs {D : va_G} {cs : q_CS} {a0 : Nat} {a0N : Nat} {a0F : (Nat → Int)} {r : (Int × (Nat → Int))} (h : f_X8_backs a0N a0F = some r) : q_M D cs yX8_backs cX8_backs 7 (some .boolean) 3 64 [.ref a0] [(a0, .inl (cs.1, a0N, .inl (aI a0F)))] (some (.int (iI r.1))) [(a0, .inl (cs.1, a0N, .inl (aI r.2)))] := by
  refine q_start_z [(0, .ref a0)] RX8 rfl (by decide +kernel) rfl (Nat.le_of_ble_eq_true rfl) (fun κ ok fin => ?_)
  unfold f_X8_backs at h
  refine j_aload_n (pc := 0) 0 ok dX8_backs_0 rfl rfl ?_
  refine j_sipush (pc := 1) ok dX8_backs_1 (by decide) ?_
  refine j_iald (pc := 4) 0 ok rfl dX8_backs_4 h (fun h => ?_)
  refine j_istore_n (pc := 5) (lv' := [(1, .int (iI (a0F (181 : Int).toNat))), (0, .ref a0)]) ok dX8_backs_5 rfl (by decide) rfl ?_
  refine j_aload_n (pc := 6) 1 ok dX8_backs_6 rfl rfl ?_
  refine j_sipush (pc := 7) ok dX8_backs_7 (by decide) ?_
  refine j_iald (pc := 10) 0 ok rfl dX8_backs_10 h (fun h => ?_)
  refine j_bipush (pc := 11) ok dX8_backs_11 (by decide) ?_
  refine j_icmp_eq (pc := 13) 22 ok dX8_backs_13 (by decide) h (fun h => ?_) (fun h => ?_)
  · refine j_aload_n (pc := 22) 1 ok dX8_backs_22 rfl rfl ?_
    refine j_iload_n (pc := 23) 0 ok dX8_backs_23 rfl rfl ?_
    obtain ⟨r1, hr1, h⟩ := bd_inv h
    refine j_callS (pc := 24) ok (k_X8_rowStart (a0 := a0) (a0N := a0N) (a0F := a0F) (x1 := a0F (181 : Int).toNat) hr1) gS_X8_136 hd_X8_rowStart [0] (by decide) rfl rfl rfl rfl ⟨Nat.zero_le _, Nat.zero_le _⟩ (Nat.le_of_ble_eq_true rfl) dX8_backs_24 rfl [(a0, .inl (cs.1, a0N, .inl (aI a0F)))] rfl ?_
    refine j_istore_n (pc := 27) (lv' := [(2, .int (iI r1)), (1, .int (iI (a0F (181 : Int).toNat))), (0, .ref a0)]) ok dX8_backs_27 rfl (by decide) rfl ?_
    refine j_iload_n (pc := 28) 1 ok dX8_backs_28 rfl rfl ?_
    refine j_iload_n (pc := 29) 0 ok dX8_backs_29 rfl rfl ?_
    refine j_icmp_le (pc := 30) 86 ok dX8_backs_30 (by decide) h (fun h => ?_) (fun h => ?_)
    · refine j_iload_n (pc := 86) 0 ok dX8_backs_86 rfl rfl ?_
      refine j_if_ne (pc := 87) 92 ok dX8_backs_87 (by decide) h (fun h => ?_) (fun h => ?_)
      · refine j_aload_n (pc := 92) 2 ok dX8_backs_92 rfl rfl ?_
        refine j_iload_n (pc := 93) 0 ok dX8_backs_93 rfl rfl ?_
        refine j_iconst (pc := 94) ok dX8_backs_94 ?_
        refine j_isub (pc := 95) ok dX8_backs_95 ?_
        refine j_iald (pc := 96) 0 ok rfl dX8_backs_96 h (fun h => ?_)
        refine j_bipush (pc := 97) ok dX8_backs_97 (by decide) ?_
        refine jn_use (P := fun z3 => q_J D κ 7 0 0 [(a0, .inl (cs.1, a0N, .inl (aI a0F)))] [(0, .ref a0), (2, .int (iI r1))] 107 [.int (iI z3)]) h (fun z3 h => ?_) (fun k2 hk2 h => ?_)
        · refine j_istore_n (pc := 107) (lv' := [(3, .int (iI z3)), (0, .ref a0), (2, .int (iI r1))]) ok dX8_backs_107 rfl (by decide) rfl ?_
          refine j_iload_n (pc := 108) 0 ok dX8_backs_108 rfl rfl ?_
          refine jn_use (P := fun z6 => q_J D κ 7 0 0 [(a0, .inl (cs.1, a0N, .inl (aI a0F)))] [(0, .ref a0), (2, .int (iI r1)), (3, .int (iI z3))] 125 [.int (iI z6)]) h (fun z6 h => ?_) (fun k4 hk4 h => ?_)
          · refine j_istore (pc := 125) (lv' := [(4, .int (iI z6)), (0, .ref a0), (2, .int (iI r1)), (3, .int (iI z3))]) ok dX8_backs_125 (by decide) rfl ?_
            refine j_aload_n (pc := 127) 1 ok dX8_backs_127 rfl rfl ?_
            refine j_iload_n (pc := 128) 2 ok dX8_backs_128 rfl rfl ?_
            obtain ⟨r7, hr7, h⟩ := bd_inv h
            refine j_callS (pc := 129) ok (k_X8_endOf (a0 := a0) (a0N := a0N) (a0F := a0F) (x1 := r1) hr7) gS_X8_104 hd_X8_endOf [0] (by decide) rfl rfl rfl rfl ⟨Nat.zero_le _, Nat.zero_le _⟩ (Nat.le_of_ble_eq_true rfl) dX8_backs_129 rfl [(a0, .inl (cs.1, a0N, .inl (aI a0F)))] rfl ?_
            refine j_istore (pc := 132) (lv' := [(5, .int (iI r7)), (4, .int (iI z6)), (0, .ref a0), (2, .int (iI r1)), (3, .int (iI z3))]) ok dX8_backs_132 (by decide) rfl ?_
            refine j_iload_n (pc := 134) 4 ok dX8_backs_134 rfl rfl ?_
            refine jn_use (P := fun z10 => q_J D κ 7 0 0 [(a0, .inl (cs.1, a0N, .inl (aI a0F)))] [(0, .ref a0), (2, .int (iI r1)), (3, .int (iI z3)), (4, .int (iI z6)), (5, .int (iI r7))] 149 [.int (iI z10)]) h (fun z10 h => ?_) (fun k8 hk8 h => ?_)
            · refine j_istore (pc := 149) (lv' := [(6, .int (iI z10)), (0, .ref a0), (2, .int (iI r1)), (3, .int (iI z3)), (4, .int (iI z6)), (5, .int (iI r7))]) ok dX8_backs_149 (by decide) rfl ?_
              refine j_aload_n (pc := 151) 1 ok dX8_backs_151 rfl rfl ?_
              refine j_iload (pc := 152) 5 ok dX8_backs_152 rfl ?_
              refine j_iload (pc := 154) 5 ok dX8_backs_154 rfl ?_
              refine j_iconst (pc := 156) ok dX8_backs_156 ?_
              refine j_iadd (pc := 157) ok dX8_backs_157 ?_
              obtain ⟨r11, hr11, h⟩ := bd_inv h
              refine j_callS (pc := 158) ok (k_X8_remove (a0 := a0) (a0N := a0N) (a0F := a0F) (x1 := r7) (x2 := r7 + 1) hr11) gS_X8_110 hd_X8_remove [0] (by decide) rfl rfl rfl rfl ⟨Nat.zero_le _, Nat.zero_le _⟩ (Nat.le_of_ble_eq_true rfl) dX8_backs_158 rfl [(a0, .inl (cs.1, a0N, .inl (aI r11)))] rfl ?_
              refine j_iload (pc := 161) 0 ok dX8_backs_161 rfl ?_
              refine j_iload (pc := 163) 5 ok dX8_backs_163 rfl ?_
              refine jn_use (P := fun z14 => q_J D κ 7 0 0 [(a0, .inl (cs.1, a0N, .inl (aI z14)))] [(0, .ref a0), (2, .int (iI r1)), (3, .int (iI z3)), (4, .int (iI z6))] 178 []) h (fun z14 h => ?_) (fun k12 hk12 h => ?_)
              · refine j_aload_n (pc := 178) 0 ok dX8_backs_178 rfl rfl ?_
                refine j_iload (pc := 179) 3 ok dX8_backs_179 rfl ?_
                refine j_iload (pc := 181) 3 ok dX8_backs_181 rfl ?_
                refine j_iconst (pc := 183) ok dX8_backs_183 ?_
                refine j_iadd (pc := 184) ok dX8_backs_184 ?_
                obtain ⟨r15, hr15, h⟩ := bd_inv h
                refine j_callS (pc := 185) ok (k_X8_remove (a0 := a0) (a0N := a0N) (a0F := z14) (x1 := z6) (x2 := z6 + 1) hr15) gS_X8_110 hd_X8_remove [0] (by decide) rfl rfl rfl rfl ⟨Nat.zero_le _, Nat.zero_le _⟩ (Nat.le_of_ble_eq_true rfl) dX8_backs_185 rfl [(a0, .inl (cs.1, a0N, .inl (aI r15)))] rfl ?_
                refine j_aload_n (pc := 188) 0 ok dX8_backs_188 rfl rfl ?_
                refine j_sipush (pc := 189) ok dX8_backs_189 (by decide) ?_
                refine j_iload_n (pc := 192) 2 ok dX8_backs_192 rfl rfl ?_
                refine jn_use (P := fun z17 => q_J D κ 7 0 0 [(a0, .inl (cs.1, a0N, .inl (aI r15)))] [] 205 [.int (iI z17), .int (iI 181), .ref a0]) h (fun z17 h => ?_) (fun k16 hk16 h => ?_)
                · refine j_iastw (pc := 205) 0 ok rfl dX8_backs_205 h [(a0, .inl (cs.1, a0N, .inl (aI (va_up r15 (181 : Int).toNat z17))))] rfl (fun h => ?_)
                  refine j_iconst (pc := 206) ok dX8_backs_206 ?_
                  obtain ⟨hbo, h⟩ := gB_inv h
                  obtain rfl := Option.some.inj h
                  exact fin _ 207 hbo dX8_backs_207
                · refine j_if_eq (pc := 193) 202 ok dX8_backs_193 (by decide) h (fun h => ?_) (fun h => ?_)
                  · refine j_iload_n (pc := 202) 1 ok dX8_backs_202 rfl rfl ?_
                    refine j_iconst (pc := 203) ok dX8_backs_203 ?_
                    refine j_isub (pc := 204) ok dX8_backs_204 ?_
                    refine j_lv [] rfl ?_
                    exact hk16 (r1 - 1) h
                  · refine j_iload_n (pc := 196) 1 ok dX8_backs_196 rfl rfl ?_
                    refine j_iconst (pc := 197) ok dX8_backs_197 ?_
                    refine j_isub (pc := 198) ok dX8_backs_198 ?_
                    refine j_goto (pc := 199) 205 ok dX8_backs_199 (by decide) ?_
                    refine j_lv [] rfl ?_
                    exact hk16 (r1 - 2) h
              · refine j_icmp_ge (pc := 165) 178 ok dX8_backs_165 (by decide) h (fun h => ?_) (fun h => ?_)
                · refine j_lv [1, 2, 3, 4] rfl ?_
                  exact hk12 r11 h
                · refine j_aload_n (pc := 168) 1 ok dX8_backs_168 rfl rfl ?_
                  refine j_iload (pc := 169) 0 ok dX8_backs_169 rfl ?_
                  refine j_iload (pc := 171) 0 ok dX8_backs_171 rfl ?_
                  refine j_iconst (pc := 173) ok dX8_backs_173 ?_
                  refine j_iadd (pc := 174) ok dX8_backs_174 ?_
                  obtain ⟨r13, hr13, h⟩ := bd_inv h
                  refine j_callS (pc := 175) ok (k_X8_remove (a0 := a0) (a0N := a0N) (a0F := r11) (x1 := z10) (x2 := z10 + 1) hr13) gS_X8_110 hd_X8_remove [0] (by decide) rfl rfl rfl rfl ⟨Nat.zero_le _, Nat.zero_le _⟩ (Nat.le_of_ble_eq_true rfl) dX8_backs_175 rfl [(a0, .inl (cs.1, a0N, .inl (aI r13)))] rfl ?_
                  refine j_lv [1, 2, 3, 4] rfl ?_
                  exact hk12 r13 h
            · refine j_if_eq (pc := 135) 144 ok dX8_backs_135 (by decide) h (fun h => ?_) (fun h => ?_)
              · refine j_aload_n (pc := 144) 2 ok dX8_backs_144 rfl rfl ?_
                refine j_iload_n (pc := 145) 3 ok dX8_backs_145 rfl rfl ?_
                obtain ⟨r9, hr9, h⟩ := bd_inv h
                refine j_callS (pc := 146) ok (k_X8_rowEnd (a0 := a0) (a0N := a0N) (a0F := a0F) (x1 := r1) hr9) gS_X8_142 hd_X8_rowEnd [0] (by decide) rfl rfl rfl rfl ⟨Nat.zero_le _, Nat.zero_le _⟩ (Nat.le_of_ble_eq_true rfl) dX8_backs_146 rfl [(a0, .inl (cs.1, a0N, .inl (aI a0F)))] rfl ?_
                refine j_lv [2, 3, 4, 1, 0] rfl ?_
                exact hk8 r9 h
              · refine j_iload_n (pc := 138) 3 ok dX8_backs_138 rfl rfl ?_
                refine j_iconst (pc := 139) ok dX8_backs_139 ?_
                refine j_isub (pc := 140) ok dX8_backs_140 ?_
                refine j_goto (pc := 141) 149 ok dX8_backs_141 (by decide) ?_
                refine j_lv [2, 3, 4, 1, 0] rfl ?_
                exact hk8 (r1 - 1) h
          · refine j_if_eq (pc := 109) 122 ok dX8_backs_109 (by decide) h (fun h => ?_) (fun h => ?_)
            · refine j_iload_n (pc := 122) 2 ok dX8_backs_122 rfl rfl ?_
              refine j_iconst (pc := 123) ok dX8_backs_123 ?_
              refine j_isub (pc := 124) ok dX8_backs_124 ?_
              refine j_lv [1, 2, 0] rfl ?_
              exact hk4 (r1 - 1) h
            · refine j_aload_n (pc := 112) 1 ok dX8_backs_112 rfl rfl ?_
              refine j_iload_n (pc := 113) 2 ok dX8_backs_113 rfl rfl ?_
              refine j_iconst (pc := 114) ok dX8_backs_114 ?_
              refine j_isub (pc := 115) ok dX8_backs_115 ?_
              obtain ⟨r5, hr5, h⟩ := bd_inv h
              refine j_callS (pc := 116) ok (k_X8_beginOf (a0 := a0) (a0N := a0N) (a0F := a0F) (x1 := r1 - 1) hr5) gS_X8_100 hd_X8_beginOf [0] (by decide) rfl rfl rfl rfl ⟨Nat.zero_le _, Nat.zero_le _⟩ (Nat.le_of_ble_eq_true rfl) dX8_backs_116 rfl [(a0, .inl (cs.1, a0N, .inl (aI a0F)))] rfl ?_
              refine j_goto (pc := 119) 125 ok dX8_backs_119 (by decide) ?_
              refine j_lv [1, 2, 0] rfl ?_
              exact hk4 r5 h
        · refine j_icmp_ne (pc := 99) 106 ok dX8_backs_99 (by decide) h (fun h => ?_) (fun h => ?_)
          · refine j_iconst (pc := 106) ok dX8_backs_106 ?_
            refine j_lv [2, 0] rfl ?_
            exact hk2 0 h
          · refine j_iconst (pc := 102) ok dX8_backs_102 ?_
            refine j_goto (pc := 103) 107 ok dX8_backs_103 (by decide) ?_
            refine j_lv [2, 0] rfl ?_
            exact hk2 1 h
      · refine j_iconst (pc := 90) ok dX8_backs_90 ?_
        obtain ⟨hbo, h⟩ := gB_inv h
        obtain rfl := Option.some.inj h
        exact fin _ 91 hbo dX8_backs_91
    · refine j_aload_n (pc := 33) 2 ok dX8_backs_33 rfl rfl ?_
      refine j_iload_n (pc := 34) 1 ok dX8_backs_34 rfl rfl ?_
      obtain ⟨r18, hr18, h⟩ := bd_inv h
      refine j_callS (pc := 35) ok (k_X8_itemStart (a0 := a0) (a0N := a0N) (a0F := a0F) (x1 := a0F (181 : Int).toNat) hr18) gS_X8_139 hd_X8_itemStart [0] (by decide) rfl rfl rfl rfl ⟨Nat.zero_le _, Nat.zero_le _⟩ (Nat.le_of_ble_eq_true rfl) dX8_backs_35 rfl [(a0, .inl (cs.1, a0N, .inl (aI a0F)))] rfl ?_
      refine j_istore_n (pc := 38) (lv' := [(3, .int (iI r18)), (2, .int (iI r1)), (1, .int (iI (a0F (181 : Int).toNat))), (0, .ref a0)]) ok dX8_backs_38 rfl (by decide) rfl ?_
      refine j_aload_n (pc := 39) 3 ok dX8_backs_39 rfl rfl ?_
      refine j_iload_n (pc := 40) 0 ok dX8_backs_40 rfl rfl ?_
      refine j_iload_n (pc := 41) 2 ok dX8_backs_41 rfl rfl ?_
      obtain ⟨r19, hr19, h⟩ := bd_inv h
      refine j_callS (pc := 42) ok (k_X8_allIn (a0 := a0) (a0N := a0N) (a0F := a0F) (x1 := r18) (x2 := a0F (181 : Int).toNat) hr19) gS_X8_114 hd_X8_allIn [0] (by decide) rfl rfl rfl rfl ⟨Nat.zero_le _, Nat.zero_le _⟩ (Nat.le_of_ble_eq_true rfl) dX8_backs_42 rfl [(a0, .inl (cs.1, a0N, .inl (aI a0F)))] rfl ?_
      refine j_iconst (pc := 45) ok dX8_backs_45 ?_
      refine jn_use (P := fun z21 => q_J D κ 7 0 0 [(a0, .inl (cs.1, a0N, .inl (aI a0F)))] [(0, .ref a0), (1, .int (iI (a0F (181 : Int).toNat))), (3, .int (iI r18))] 54 [.int (iI z21)]) h (fun z21 h => ?_) (fun k20 hk20 h => ?_)
      · refine j_istore (pc := 54) (lv' := [(4, .int (iI z21)), (0, .ref a0), (1, .int (iI (a0F (181 : Int).toNat))), (3, .int (iI r18))]) ok dX8_backs_54 (by decide) rfl ?_
        refine j_iload (pc := 56) 0 ok dX8_backs_56 rfl ?_
        refine jn_use (P := fun z24 => q_J D κ 7 0 0 [(a0, .inl (cs.1, a0N, .inl (aI z24)))] [(0, .ref a0), (1, .int (iI (a0F (181 : Int).toNat))), (3, .int (iI r18)), (4, .int (iI z21))] 67 []) h (fun z24 h => ?_) (fun k22 hk22 h => ?_)
        · refine j_aload_n (pc := 67) 0 ok dX8_backs_67 rfl rfl ?_
          refine j_sipush (pc := 68) ok dX8_backs_68 (by decide) ?_
          refine j_iload (pc := 71) 3 ok dX8_backs_71 rfl ?_
          refine jn_use (P := fun z26 => q_J D κ 7 0 0 [(a0, .inl (cs.1, a0N, .inl (aI z24)))] [] 83 [.int (iI z26), .int (iI 181), .ref a0]) h (fun z26 h => ?_) (fun k25 hk25 h => ?_)
          · refine j_iastw (pc := 83) 0 ok rfl dX8_backs_83 h [(a0, .inl (cs.1, a0N, .inl (aI (va_up z24 (181 : Int).toNat z26))))] rfl (fun h => ?_)
            refine j_iconst (pc := 84) ok dX8_backs_84 ?_
            obtain ⟨hbo, h⟩ := gB_inv h
            obtain rfl := Option.some.inj h
            exact fin _ 85 hbo dX8_backs_85
          · refine j_if_eq (pc := 73) 80 ok dX8_backs_73 (by decide) h (fun h => ?_) (fun h => ?_)
            · refine j_iload_n (pc := 80) 1 ok dX8_backs_80 rfl rfl ?_
              refine j_iconst (pc := 81) ok dX8_backs_81 ?_
              refine j_isub (pc := 82) ok dX8_backs_82 ?_
              refine j_lv [] rfl ?_
              exact hk25 ((a0F (181 : Int).toNat) - 1) h
            · refine j_iload_n (pc := 76) 2 ok dX8_backs_76 rfl rfl ?_
              refine j_goto (pc := 77) 83 ok dX8_backs_77 (by decide) ?_
              refine j_lv [] rfl ?_
              exact hk25 r18 h
        · refine j_if_eq (pc := 58) 67 ok dX8_backs_58 (by decide) h (fun h => ?_) (fun h => ?_)
          · refine j_lv [1, 2, 3, 0] rfl ?_
            exact hk22 a0F h
          · refine j_aload_n (pc := 61) 1 ok dX8_backs_61 rfl rfl ?_
            refine j_iload_n (pc := 62) 3 ok dX8_backs_62 rfl rfl ?_
            refine j_iload_n (pc := 63) 2 ok dX8_backs_63 rfl rfl ?_
            obtain ⟨r23, hr23, h⟩ := bd_inv h
            refine j_callS (pc := 64) ok (k_X8_remove (a0 := a0) (a0N := a0N) (a0F := a0F) (x1 := r18) (x2 := a0F (181 : Int).toNat) hr23) gS_X8_110 hd_X8_remove [0] (by decide) rfl rfl rfl rfl ⟨Nat.zero_le _, Nat.zero_le _⟩ (Nat.le_of_ble_eq_true rfl) dX8_backs_64 rfl [(a0, .inl (cs.1, a0N, .inl (aI r23)))] rfl ?_
            refine j_lv [1, 2, 3, 0] rfl ?_
            exact hk22 r23 h
      · refine j_icmp_ne (pc := 46) 53 ok dX8_backs_46 (by decide) h (fun h => ?_) (fun h => ?_)
        · refine j_iconst (pc := 53) ok dX8_backs_53 ?_
          refine j_lv [3, 2, 0] rfl ?_
          exact hk20 0 h
        · refine j_iconst (pc := 49) ok dX8_backs_49 ?_
          refine j_goto (pc := 50) 54 ok dX8_backs_50 (by decide) ?_
          refine j_lv [3, 2, 0] rfl ?_
          exact hk20 1 h
  · refine j_aload_n (pc := 16) 1 ok dX8_backs_16 rfl rfl ?_
    obtain ⟨r27, hr27, h⟩ := bd_inv h
    refine j_callS (pc := 17) ok (k_X8_clear (a0 := a0) (a0N := a0N) (a0F := a0F) hr27) gS_X8_121 hd_X8_clear [0] (by decide) rfl rfl rfl rfl ⟨Nat.zero_le _, Nat.zero_le _⟩ (Nat.le_of_ble_eq_true rfl) dX8_backs_17 rfl [(a0, .inl (cs.1, a0N, .inl (aI r27)))] rfl ?_
    refine j_iconst (pc := 20) ok dX8_backs_20 ?_
    obtain ⟨hbo, h⟩ := gB_inv h
    obtain rfl := Option.some.inj h
    exact fin _ 21 hbo dX8_backs_21
def f_X8_grows (a0N : Nat) (a0F : (Nat → Int)) : Option (Int × (Nat → Int)) := gIn 181 a0N (bd (f_X8_rowStart a0N a0F (a0F (181 : Int).toNat)) (fun r1 => bd (f_X8_rowEnd a0N a0F (a0F (181 : Int).toNat)) (fun r2 => gIn 182 a0N (jn (fun (z5 : Unit) => jn (fun (z9 : Unit) => cEq r1 0 (gB 0 (some (0, a0F))) (bd (f_X8_endOf a0N a0F r2) (fun r10 => bd (f_X8_beginOf a0N a0F r10) (fun r11 => gIn 182 a0N (gIn 181 a0N (gB 1 (some (1, va_up (va_up a0F (182 : Int).toNat r11) (181 : Int).toNat (r10 + 1))))))))) (fun k6 => cLt r1 r2 (gIn 182 a0N (jn (fun (z8 : Unit) => gIn 182 a0N (gIn 181 a0N (gB 1 (some (1, va_up (va_up a0F (182 : Int).toNat r1) (181 : Int).toNat r2))))) (fun k7 => cEq (a0F (182 : Int).toNat) ((-9)) (k7 ()) (gIn 182 a0N (cLt r1 (a0F (182 : Int).toNat) (k7 ()) (cLt (a0F (181 : Int).toNat) r2 (k7 ()) (k6 ()))))))) (k6 ()))) (fun k3 => cEq (a0F (182 : Int).toNat) ((-9)) (cLt r1 (a0F (181 : Int).toNat) (bd (f_X8_itemStart a0N a0F (a0F (181 : Int).toNat)) (fun r4 => gIn 182 a0N (gB 1 (some (1, va_up a0F (182 : Int).toNat r4))))) (k3 ())) (k3 ()))))))
set_option maxRecDepth 100000 in
set_option maxHeartbeats 4000000 in
theorem k_X8_grows {D : va_G} {cs : q_CS} {a0 : Nat} {a0N : Nat} {a0F : (Nat → Int)} {r : (Int × (Nat → Int))} (h : f_X8_grows a0N a0F = some r) : q_M D cs yX8_grows cX8_grows 5 (some .boolean) 3 64 [.ref a0] [(a0, .inl (cs.1, a0N, .inl (aI a0F)))] (some (.int (iI r.1))) [(a0, .inl (cs.1, a0N, .inl (aI r.2)))] := by
  refine q_start_z [(0, .ref a0)] RX8 rfl (by decide +kernel) rfl (Nat.le_of_ble_eq_true rfl) (fun κ ok fin => ?_)
  unfold f_X8_grows at h
  refine j_aload_n (pc := 0) 0 ok dX8_grows_0 rfl rfl ?_
  refine j_sipush (pc := 1) ok dX8_grows_1 (by decide) ?_
  refine j_iald (pc := 4) 0 ok rfl dX8_grows_4 h (fun h => ?_)
  refine j_istore_n (pc := 5) (lv' := [(1, .int (iI (a0F (181 : Int).toNat))), (0, .ref a0)]) ok dX8_grows_5 rfl (by decide) rfl ?_
  refine j_aload_n (pc := 6) 1 ok dX8_grows_6 rfl rfl ?_
  refine j_iload_n (pc := 7) 0 ok dX8_grows_7 rfl rfl ?_
  obtain ⟨r1, hr1, h⟩ := bd_inv h
  refine j_callS (pc := 8) ok (k_X8_rowStart (a0 := a0) (a0N := a0N) (a0F := a0F) (x1 := a0F (181 : Int).toNat) hr1) gS_X8_136 hd_X8_rowStart [0] (by decide) rfl rfl rfl rfl ⟨Nat.zero_le _, Nat.zero_le _⟩ (Nat.le_of_ble_eq_true rfl) dX8_grows_8 rfl [(a0, .inl (cs.1, a0N, .inl (aI a0F)))] rfl ?_
  refine j_istore_n (pc := 11) (lv' := [(2, .int (iI r1)), (1, .int (iI (a0F (181 : Int).toNat))), (0, .ref a0)]) ok dX8_grows_11 rfl (by decide) rfl ?_
  refine j_aload_n (pc := 12) 2 ok dX8_grows_12 rfl rfl ?_
  refine j_iload_n (pc := 13) 1 ok dX8_grows_13 rfl rfl ?_
  obtain ⟨r2, hr2, h⟩ := bd_inv h
  refine j_callS (pc := 14) ok (k_X8_rowEnd (a0 := a0) (a0N := a0N) (a0F := a0F) (x1 := a0F (181 : Int).toNat) hr2) gS_X8_142 hd_X8_rowEnd [0] (by decide) rfl rfl rfl rfl ⟨Nat.zero_le _, Nat.zero_le _⟩ (Nat.le_of_ble_eq_true rfl) dX8_grows_14 rfl [(a0, .inl (cs.1, a0N, .inl (aI a0F)))] rfl ?_
  refine j_istore_n (pc := 17) (lv' := [(3, .int (iI r2)), (2, .int (iI r1)), (1, .int (iI (a0F (181 : Int).toNat))), (0, .ref a0)]) ok dX8_grows_17 rfl (by decide) rfl ?_
  refine j_aload_n (pc := 18) 3 ok dX8_grows_18 rfl rfl ?_
  refine j_sipush (pc := 19) ok dX8_grows_19 (by decide) ?_
  refine j_iald (pc := 22) 0 ok rfl dX8_grows_22 h (fun h => ?_)
  refine j_bipush (pc := 23) ok dX8_grows_23 (by decide) ?_
  refine jn_use (P := fun z5 => q_J D κ 5 0 0 [(a0, .inl (cs.1, a0N, .inl (aI a0F)))] [(0, .ref a0), (1, .int (iI (a0F (181 : Int).toNat))), (2, .int (iI r1)), (3, .int (iI r2))] 45 []) h (fun z5 h => ?_) (fun k3 hk3 h => ?_)
  · refine j_iload_n (pc := 45) 2 ok dX8_grows_45 rfl rfl ?_
    refine j_iload_n (pc := 46) 3 ok dX8_grows_46 rfl rfl ?_
    refine jn_use (P := fun z9 => q_J D κ 5 0 0 [(a0, .inl (cs.1, a0N, .inl (aI a0F)))] [(0, .ref a0), (2, .int (iI r1)), (3, .int (iI r2))] 88 []) h (fun z9 h => ?_) (fun k6 hk6 h => ?_)
    · refine j_iload_n (pc := 88) 1 ok dX8_grows_88 rfl rfl ?_
      refine j_if_ne (pc := 89) 94 ok dX8_grows_89 (by decide) h (fun h => ?_) (fun h => ?_)
      · refine j_aload_n (pc := 94) 0 ok dX8_grows_94 rfl rfl ?_
        refine j_iload_n (pc := 95) 2 ok dX8_grows_95 rfl rfl ?_
        obtain ⟨r10, hr10, h⟩ := bd_inv h
        refine j_callS (pc := 96) ok (k_X8_endOf (a0 := a0) (a0N := a0N) (a0F := a0F) (x1 := r2) hr10) gS_X8_104 hd_X8_endOf [0] (by decide) rfl rfl rfl rfl ⟨Nat.zero_le _, Nat.zero_le _⟩ (Nat.le_of_ble_eq_true rfl) dX8_grows_96 rfl [(a0, .inl (cs.1, a0N, .inl (aI a0F)))] rfl ?_
        refine j_istore (pc := 99) (lv' := [(4, .int (iI r10)), (0, .ref a0), (2, .int (iI r1)), (3, .int (iI r2))]) ok dX8_grows_99 (by decide) rfl ?_
        refine j_aload_n (pc := 101) 1 ok dX8_grows_101 rfl rfl ?_
        refine j_sipush (pc := 102) ok dX8_grows_102 (by decide) ?_
        refine j_aload_n (pc := 105) 1 ok dX8_grows_105 rfl rfl ?_
        refine j_iload (pc := 106) 0 ok dX8_grows_106 rfl ?_
        obtain ⟨r11, hr11, h⟩ := bd_inv h
        refine j_callS (pc := 108) ok (k_X8_beginOf (a0 := a0) (a0N := a0N) (a0F := a0F) (x1 := r10) hr11) gS_X8_100 hd_X8_beginOf [0] (by decide) rfl rfl rfl rfl ⟨Nat.zero_le _, Nat.zero_le _⟩ (Nat.le_of_ble_eq_true rfl) dX8_grows_108 rfl [(a0, .inl (cs.1, a0N, .inl (aI a0F)))] rfl ?_
        refine j_iastw (pc := 111) 0 ok rfl dX8_grows_111 h [(a0, .inl (cs.1, a0N, .inl (aI (va_up a0F (182 : Int).toNat r11))))] rfl (fun h => ?_)
        refine j_aload_n (pc := 112) 1 ok dX8_grows_112 rfl rfl ?_
        refine j_sipush (pc := 113) ok dX8_grows_113 (by decide) ?_
        refine j_iload (pc := 116) 0 ok dX8_grows_116 rfl ?_
        refine j_iconst (pc := 118) ok dX8_grows_118 ?_
        refine j_iadd (pc := 119) ok dX8_grows_119 ?_
        refine j_iastw (pc := 120) 0 ok rfl dX8_grows_120 h [(a0, .inl (cs.1, a0N, .inl (aI (va_up (va_up a0F (182 : Int).toNat r11) (181 : Int).toNat (r10 + 1)))))] rfl (fun h => ?_)
        refine j_iconst (pc := 121) ok dX8_grows_121 ?_
        obtain ⟨hbo, h⟩ := gB_inv h
        obtain rfl := Option.some.inj h
        exact fin _ 122 hbo dX8_grows_122
      · refine j_iconst (pc := 92) ok dX8_grows_92 ?_
        obtain ⟨hbo, h⟩ := gB_inv h
        obtain rfl := Option.some.inj h
        exact fin _ 93 hbo dX8_grows_93
    · refine j_icmp_ge (pc := 47) 88 ok dX8_grows_47 (by decide) h (fun h => ?_) (fun h => ?_)
      · refine j_lv [0, 2, 3] rfl ?_
        exact hk6 () h
      · refine j_aload_n (pc := 50) 0 ok dX8_grows_50 rfl rfl ?_
        refine j_sipush (pc := 51) ok dX8_grows_51 (by decide) ?_
        refine j_iald (pc := 54) 0 ok rfl dX8_grows_54 h (fun h => ?_)
        refine j_bipush (pc := 55) ok dX8_grows_55 (by decide) ?_
        refine jn_use (P := fun z8 => q_J D κ 5 0 0 [(a0, .inl (cs.1, a0N, .inl (aI a0F)))] [(0, .ref a0), (2, .int (iI r1)), (3, .int (iI r2))] 74 []) h (fun z8 h => ?_) (fun k7 hk7 h => ?_)
        · refine j_aload_n (pc := 74) 0 ok dX8_grows_74 rfl rfl ?_
          refine j_sipush (pc := 75) ok dX8_grows_75 (by decide) ?_
          refine j_iload_n (pc := 78) 1 ok dX8_grows_78 rfl rfl ?_
          refine j_iastw (pc := 79) 0 ok rfl dX8_grows_79 h [(a0, .inl (cs.1, a0N, .inl (aI (va_up a0F (182 : Int).toNat r1))))] rfl (fun h => ?_)
          refine j_aload_n (pc := 80) 0 ok dX8_grows_80 rfl rfl ?_
          refine j_sipush (pc := 81) ok dX8_grows_81 (by decide) ?_
          refine j_iload_n (pc := 84) 2 ok dX8_grows_84 rfl rfl ?_
          refine j_iastw (pc := 85) 0 ok rfl dX8_grows_85 h [(a0, .inl (cs.1, a0N, .inl (aI (va_up (va_up a0F (182 : Int).toNat r1) (181 : Int).toNat r2))))] rfl (fun h => ?_)
          refine j_iconst (pc := 86) ok dX8_grows_86 ?_
          obtain ⟨hbo, h⟩ := gB_inv h
          obtain rfl := Option.some.inj h
          exact fin _ 87 hbo dX8_grows_87
        · refine j_icmp_eq (pc := 57) 74 ok dX8_grows_57 (by decide) h (fun h => ?_) (fun h => ?_)
          · refine j_lv [0, 2, 3] rfl ?_
            exact hk7 () h
          · refine j_aload_n (pc := 60) 0 ok dX8_grows_60 rfl rfl ?_
            refine j_sipush (pc := 61) ok dX8_grows_61 (by decide) ?_
            refine j_iald (pc := 64) 0 ok rfl dX8_grows_64 h (fun h => ?_)
            refine j_iload_n (pc := 65) 2 ok dX8_grows_65 rfl rfl ?_
            refine j_icmp_gt (pc := 66) 74 ok dX8_grows_66 (by decide) h (fun h => ?_) (fun h => ?_)
            · refine j_lv [0, 2, 3] rfl ?_
              exact hk7 () h
            · refine j_iload_n (pc := 69) 1 ok dX8_grows_69 rfl rfl ?_
              refine j_iload_n (pc := 70) 3 ok dX8_grows_70 rfl rfl ?_
              refine j_icmp_ge (pc := 71) 88 ok dX8_grows_71 (by decide) h (fun h => ?_) (fun h => ?_)
              · refine j_lv [0, 2, 3] rfl ?_
                exact hk6 () h
              · refine j_lv [0, 2, 3] rfl ?_
                exact hk7 () h
  · refine j_icmp_ne (pc := 25) 45 ok dX8_grows_25 (by decide) h (fun h => ?_) (fun h => ?_)
    · refine j_lv [3, 2, 1, 0] rfl ?_
      exact hk3 () h
    · refine j_iload_n (pc := 28) 2 ok dX8_grows_28 rfl rfl ?_
      refine j_iload_n (pc := 29) 1 ok dX8_grows_29 rfl rfl ?_
      refine j_icmp_le (pc := 30) 45 ok dX8_grows_30 (by decide) h (fun h => ?_) (fun h => ?_)
      · refine j_lv [3, 2, 1, 0] rfl ?_
        exact hk3 () h
      · refine j_aload_n (pc := 33) 3 ok dX8_grows_33 rfl rfl ?_
        refine j_sipush (pc := 34) ok dX8_grows_34 (by decide) ?_
        refine j_aload_n (pc := 37) 3 ok dX8_grows_37 rfl rfl ?_
        refine j_iload_n (pc := 38) 2 ok dX8_grows_38 rfl rfl ?_
        obtain ⟨r4, hr4, h⟩ := bd_inv h
        refine j_callS (pc := 39) ok (k_X8_itemStart (a0 := a0) (a0N := a0N) (a0F := a0F) (x1 := a0F (181 : Int).toNat) hr4) gS_X8_139 hd_X8_itemStart [0] (by decide) rfl rfl rfl rfl ⟨Nat.zero_le _, Nat.zero_le _⟩ (Nat.le_of_ble_eq_true rfl) dX8_grows_39 rfl [(a0, .inl (cs.1, a0N, .inl (aI a0F)))] rfl ?_
        refine j_iastw (pc := 42) 0 ok rfl dX8_grows_42 h [(a0, .inl (cs.1, a0N, .inl (aI (va_up a0F (182 : Int).toNat r4))))] rfl (fun h => ?_)
        refine j_iconst (pc := 43) ok dX8_grows_43 ?_
        obtain ⟨hbo, h⟩ := gB_inv h
        obtain rfl := Option.some.inj h
        exact fin _ 44 hbo dX8_grows_44
def f_X8_moves (a0N : Nat) (a0F : (Nat → Int)) (x1 : Int) : Option ((Nat → Int)) := gIn 181 a0N (jn (fun (z2 : Int) => gIn 181 a0N (gIn 182 a0N (some (va_up (va_up a0F (181 : Int).toNat z2) (182 : Int).toNat ((-9)))))) (fun k1 => cLt ((a0F (181 : Int).toNat) + x1) 0 (k1 0) (gIn 180 a0N (cLt (a0F (180 : Int).toNat) ((a0F (181 : Int).toNat) + x1) (gIn 180 a0N (k1 (a0F (180 : Int).toNat))) (k1 ((a0F (181 : Int).toNat) + x1))))))
set_option maxRecDepth 100000 in
set_option maxHeartbeats 4000000 in
theorem k_X8_moves {D : va_G} {cs : q_CS} {a0 : Nat} {a0N : Nat} {a0F : (Nat → Int)} {x1 : Int} {r : ((Nat → Int))} (h : f_X8_moves a0N a0F x1 = some r) : q_M D cs yX8_moves cX8_moves 3 none 0 0 [.ref a0, .int (iI x1)] [(a0, .inl (cs.1, a0N, .inl (aI a0F)))] none [(a0, .inl (cs.1, a0N, .inl (aI r)))] := by
  refine q_start_v [(0, .ref a0), (1, .int (iI x1))] RX8 rfl (by decide +kernel) rfl (Nat.le_of_ble_eq_true rfl) (fun κ ok fin => ?_)
  unfold f_X8_moves at h
  refine j_aload_n (pc := 0) 0 ok dX8_moves_0 rfl rfl ?_
  refine j_sipush (pc := 1) ok dX8_moves_1 (by decide) ?_
  refine j_iald (pc := 4) 0 ok rfl dX8_moves_4 h (fun h => ?_)
  refine j_iload_n (pc := 5) 1 ok dX8_moves_5 rfl rfl ?_
  refine j_iadd (pc := 6) ok dX8_moves_6 ?_
  refine j_istore_n (pc := 7) (lv' := [(2, .int (iI ((a0F (181 : Int).toNat) + x1))), (0, .ref a0), (1, .int (iI x1))]) ok dX8_moves_7 rfl (by decide) rfl ?_
  refine j_aload_n (pc := 8) 1 ok dX8_moves_8 rfl rfl ?_
  refine j_sipush (pc := 9) ok dX8_moves_9 (by decide) ?_
  refine j_iload_n (pc := 12) 0 ok dX8_moves_12 rfl rfl ?_
  refine jn_use (P := fun z2 => q_J D κ 3 0 0 [(a0, .inl (cs.1, a0N, .inl (aI a0F)))] [(0, .ref a0)] 38 [.int (iI z2), .int (iI 181), .ref a0]) h (fun z2 h => ?_) (fun k1 hk1 h => ?_)
  · refine j_iastw (pc := 38) 0 ok rfl dX8_moves_38 h [(a0, .inl (cs.1, a0N, .inl (aI (va_up a0F (181 : Int).toNat z2))))] rfl (fun h => ?_)
    refine j_aload_n (pc := 39) 0 ok dX8_moves_39 rfl rfl ?_
    refine j_sipush (pc := 40) ok dX8_moves_40 (by decide) ?_
    refine j_bipush (pc := 43) ok dX8_moves_43 (by decide) ?_
    refine j_iastw (pc := 45) 0 ok rfl dX8_moves_45 h [(a0, .inl (cs.1, a0N, .inl (aI (va_up (va_up a0F (181 : Int).toNat z2) (182 : Int).toNat ((-9))))))] rfl (fun h => ?_)
    obtain rfl := Option.some.inj h
    exact fin _ 46 dX8_moves_46
  · refine j_if_ge (pc := 13) 20 ok dX8_moves_13 (by decide) h (fun h => ?_) (fun h => ?_)
    · refine j_iload_n (pc := 20) 0 ok dX8_moves_20 rfl rfl ?_
      refine j_aload_n (pc := 21) 1 ok dX8_moves_21 rfl rfl ?_
      refine j_sipush (pc := 22) ok dX8_moves_22 (by decide) ?_
      refine j_iald (pc := 25) 0 ok rfl dX8_moves_25 h (fun h => ?_)
      refine j_icmp_le (pc := 26) 37 ok dX8_moves_26 (by decide) h (fun h => ?_) (fun h => ?_)
      · refine j_iload_n (pc := 37) 0 ok dX8_moves_37 rfl rfl ?_
        refine j_lv [1] rfl ?_
        exact hk1 ((a0F (181 : Int).toNat) + x1) h
      · refine j_aload_n (pc := 29) 1 ok dX8_moves_29 rfl rfl ?_
        refine j_sipush (pc := 30) ok dX8_moves_30 (by decide) ?_
        refine j_iald (pc := 33) 0 ok rfl dX8_moves_33 h (fun h => ?_)
        refine j_goto (pc := 34) 38 ok dX8_moves_34 (by decide) ?_
        refine j_lv [1] rfl ?_
        exact hk1 (a0F (180 : Int).toNat) h
    · refine j_iconst (pc := 16) ok dX8_moves_16 ?_
      refine j_goto (pc := 17) 38 ok dX8_moves_17 (by decide) ?_
      refine j_lv [1] rfl ?_
      exact hk1 0 h
