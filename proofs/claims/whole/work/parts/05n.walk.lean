def f_X8_signAt_72 (a1N : Nat) (a0_highsF : (Nat → Int)) (a0_itemWidesF : (Nat → Int)) (a0_lowsF : (Nat → Int)) (a0_widesF : (Nat → Int)) (a1F : (Nat → Int)) (e72_107 : Int × Int × Int → Option (Int)) : Nat → Int → Int → Int → Option (Int)
  | 0, _, _, _ => none
  | n + 1, y5, y6, y7 => gIn y7 512 (cLt y5 (a0_itemWidesF y7.toNat) (e72_107 (y5, y6, y7)) (gIn y7 512 (bd (f_X8_itemEnd a1N a1F y7) (fun r3 => f_X8_signAt_72 a1N a0_highsF a0_itemWidesF a0_lowsF a0_widesF a1F e72_107 n (y5 - (a0_itemWidesF y7.toNat)) y6 r3))))
set_option maxRecDepth 100000 in
theorem l_X8_signAt_72 {D : va_G} {cs : q_CS} {κ : q_X} {a0 a0_text a0_now a0_trial a0_diary a0_kept a0_isKept a0_clip a0_line a0_read a0_opens a0_chains a0_factors a0_plains a0_belows a0_owned a0_wides a0_highs a0_lows a0_itemWides a0_pile a1 : Nat} {a1N : Nat} {a0_refusal a0_textSize a0_acts a0_lineSize a0_readSize a0_deep : Int} {a0_highsF a0_itemWidesF a0_lowsF a0_widesF a1F : (Nat → Int)} {r : (Int)} {e72_107 : Int × Int × Int → Option (Int)} (ok : q_ok D cs κ cX8_signAt 9 RX8 (q_rm 3 64)) (fin : ∀ (lv : List (Nat × Value)) (pc : Nat), decode cX8_signAt pc = .ok (.ireturn, 1) → q_J D κ 9 0 0 [(a0, .inr (8, [.int (iI a0_refusal), .ref a0_text, .int (iI a0_textSize), .ref a0_now, .ref a0_trial, .ref a0_diary, .int (iI a0_acts), .ref a0_kept, .ref a0_isKept, .ref a0_clip, .ref a0_line, .int (iI a0_lineSize), .ref a0_read, .int (iI a0_readSize), .ref a0_opens, .ref a0_chains, .ref a0_factors, .ref a0_plains, .ref a0_belows, .ref a0_owned, .int (iI a0_deep), .ref a0_wides, .ref a0_highs, .ref a0_lows, .ref a0_itemWides, .ref a0_pile])), (a0_highs, .inl (cs.1, 512, .inl (aI a0_highsF))), (a0_itemWides, .inl (cs.1, 512, .inl (aI a0_itemWidesF))), (a0_lows, .inl (cs.1, 512, .inl (aI a0_lowsF))), (a0_wides, .inl (cs.1, 512, .inl (aI a0_widesF))), (a1, .inl (cs.1, a1N, .inl (aI a1F)))] lv pc [.int (iI r)]) (he72_107 : ∀ x : Int × Int × Int, e72_107 x = some r → q_J D κ 9 0 0 [(a0, .inr (8, [.int (iI a0_refusal), .ref a0_text, .int (iI a0_textSize), .ref a0_now, .ref a0_trial, .ref a0_diary, .int (iI a0_acts), .ref a0_kept, .ref a0_isKept, .ref a0_clip, .ref a0_line, .int (iI a0_lineSize), .ref a0_read, .int (iI a0_readSize), .ref a0_opens, .ref a0_chains, .ref a0_factors, .ref a0_plains, .ref a0_belows, .ref a0_owned, .int (iI a0_deep), .ref a0_wides, .ref a0_highs, .ref a0_lows, .ref a0_itemWides, .ref a0_pile])), (a0_highs, .inl (cs.1, 512, .inl (aI a0_highsF))), (a0_itemWides, .inl (cs.1, 512, .inl (aI a0_itemWidesF))), (a0_lows, .inl (cs.1, 512, .inl (aI a0_lowsF))), (a0_wides, .inl (cs.1, 512, .inl (aI a0_widesF))), (a1, .inl (cs.1, a1N, .inl (aI a1F)))] [(0, .ref a0), (1, .ref a1), (5, .int (iI x.1)), (6, .int (iI x.2.1)), (7, .int (iI x.2.2))] 107 []) : ∀ (n : Nat) (y5 : Int) (y6 : Int) (y7 : Int), f_X8_signAt_72 a1N a0_highsF a0_itemWidesF a0_lowsF a0_widesF a1F e72_107 n y5 y6 y7 = some r → q_J D κ 9 0 0 [(a0, .inr (8, [.int (iI a0_refusal), .ref a0_text, .int (iI a0_textSize), .ref a0_now, .ref a0_trial, .ref a0_diary, .int (iI a0_acts), .ref a0_kept, .ref a0_isKept, .ref a0_clip, .ref a0_line, .int (iI a0_lineSize), .ref a0_read, .int (iI a0_readSize), .ref a0_opens, .ref a0_chains, .ref a0_factors, .ref a0_plains, .ref a0_belows, .ref a0_owned, .int (iI a0_deep), .ref a0_wides, .ref a0_highs, .ref a0_lows, .ref a0_itemWides, .ref a0_pile])), (a0_highs, .inl (cs.1, 512, .inl (aI a0_highsF))), (a0_itemWides, .inl (cs.1, 512, .inl (aI a0_itemWidesF))), (a0_lows, .inl (cs.1, 512, .inl (aI a0_lowsF))), (a0_wides, .inl (cs.1, 512, .inl (aI a0_widesF))), (a1, .inl (cs.1, a1N, .inl (aI a1F)))] [(0, .ref a0), (1, .ref a1), (5, .int (iI y5)), (6, .int (iI y6)), (7, .int (iI y7))] 72 [] := by
  intro n
  induction n with
  | zero =>
    intro y5 y6 y7 h
    exact absurd h (by unfold f_X8_signAt_72; exact fun z => by cases z)
  | succ n ih =>
    intro y5 y6 y7 h
    unfold f_X8_signAt_72 at h
    refine j_iload (pc := 72) 2 ok dX8_signAt_72 rfl ?_
    refine j_aload_n (pc := 74) 0 ok dX8_signAt_74 rfl rfl ?_
    refine gf_X8_65_8 (pc := 75) 0 ok rfl dX8_signAt_75 ?_
    refine j_iload (pc := 78) 4 ok dX8_signAt_78 rfl ?_
    refine j_iald (pc := 80) 2 ok rfl dX8_signAt_80 h (fun h => ?_)
    refine j_icmp_lt (pc := 81) 107 ok dX8_signAt_81 (by decide) h (fun h => ?_) (fun h => ?_)
    · exact he72_107 (y5, y6, y7) h
    · refine j_iload (pc := 84) 2 ok dX8_signAt_84 rfl ?_
      refine j_aload_n (pc := 86) 0 ok dX8_signAt_86 rfl rfl ?_
      refine gf_X8_65_8 (pc := 87) 0 ok rfl dX8_signAt_87 ?_
      refine j_iload (pc := 90) 4 ok dX8_signAt_90 rfl ?_
      refine j_iald (pc := 92) 2 ok rfl dX8_signAt_92 h (fun h => ?_)
      refine j_isub (pc := 93) ok dX8_signAt_93 ?_
      refine j_istore (pc := 94) (lv' := [(5, .int (iI (y5 - (a0_itemWidesF y7.toNat)))), (0, .ref a0), (1, .ref a1), (6, .int (iI y6)), (7, .int (iI y7))]) ok dX8_signAt_94 (by decide) rfl ?_
      refine j_aload_n (pc := 96) 2 ok dX8_signAt_96 rfl rfl ?_
      refine j_iload (pc := 97) 4 ok dX8_signAt_97 rfl ?_
      obtain ⟨r3, hr3, h⟩ := bd_inv h
      refine j_callS (pc := 99) ok (k_X8_itemEnd (a0 := a1) (a0N := a1N) (a0F := a1F) (x1 := y7) hr3) gS_X8_107 hd_X8_itemEnd [5] (by decide) rfl rfl rfl rfl ⟨Nat.zero_le _, Nat.zero_le _⟩ (Nat.le_of_ble_eq_true rfl) dX8_signAt_99 rfl [(a0, .inr (8, [.int (iI a0_refusal), .ref a0_text, .int (iI a0_textSize), .ref a0_now, .ref a0_trial, .ref a0_diary, .int (iI a0_acts), .ref a0_kept, .ref a0_isKept, .ref a0_clip, .ref a0_line, .int (iI a0_lineSize), .ref a0_read, .int (iI a0_readSize), .ref a0_opens, .ref a0_chains, .ref a0_factors, .ref a0_plains, .ref a0_belows, .ref a0_owned, .int (iI a0_deep), .ref a0_wides, .ref a0_highs, .ref a0_lows, .ref a0_itemWides, .ref a0_pile])), (a0_highs, .inl (cs.1, 512, .inl (aI a0_highsF))), (a0_itemWides, .inl (cs.1, 512, .inl (aI a0_itemWidesF))), (a0_lows, .inl (cs.1, 512, .inl (aI a0_lowsF))), (a0_wides, .inl (cs.1, 512, .inl (aI a0_widesF))), (a1, .inl (cs.1, a1N, .inl (aI a1F)))] rfl ?_
      refine j_istore (pc := 102) (lv' := [(7, .int (iI r3)), (5, .int (iI (y5 - (a0_itemWidesF y7.toNat)))), (0, .ref a0), (1, .ref a1), (6, .int (iI y6))]) ok dX8_signAt_102 (by decide) rfl ?_
      refine j_goto (pc := 104) 72 ok dX8_signAt_104 (by decide) ?_
      refine j_lv [2, 3, 1, 4, 0] rfl ?_
      exact ih _ _ _ h
def f_X8_signAt_9 (a1N : Nat) (a0_highsF : (Nat → Int)) (a0_itemWidesF : (Nat → Int)) (a0_lowsF : (Nat → Int)) (a0_widesF : (Nat → Int)) (a1F : (Nat → Int)) : Nat → Int → Int → Int → Option (Int)
  | 0, _, _, _ => none
  | n + 1, y4, y5, y6 => jn (fun (z24 : Unit) => some 32) (fun k1 => cLt y5 0 (k1 ()) (gIn y4 512 (cLt y5 (a0_widesF y4.toNat) (gIn y4 512 (cLt y6 (-(a0_highsF y4.toNat)) (k1 ()) (gIn y4 512 (cLt (a0_lowsF y4.toNat) y6 (k1 ()) (bd (f_X8_rowEnd a1N a1F y4) (fun r2 => cEq y4 r2 (some 63) (f_X8_signAt_72 a1N a0_highsF a0_itemWidesF a0_lowsF a0_widesF a1F (fun (z4 : Int × Int × Int) => gIn z4.2.2 a1N (jn (fun (z23 : Int × Int × Int) => f_X8_signAt_9 a1N a0_highsF a0_itemWidesF a0_lowsF a0_widesF a1F n z23.1 z23.2.1 z23.2.2) (fun k5 => cEq (a1F z4.2.2.toNat) (-5) (jn (fun (z7 : Unit) => gR z4.2.1 (gIn (z4.2.2 + 1) 512 (gR (-(a0_highsF (z4.2.2 + 1).toNat)) (gIn (z4.2.2 + 1) 512 (gR (a0_lowsF (z4.2.2 + 1).toNat) (bd (f_X8_in z4.2.1 (-(a0_highsF (z4.2.2 + 1).toNat)) (a0_lowsF (z4.2.2 + 1).toNat)) (fun r8 => jn (fun (z10 : Int) => some z10) (fun k9 => cEq r8 0 (k9 32) (cEq z4.1 0 (k9 40) (k9 41)))))))))) (fun k6 => cEq z4.1 0 (k6 ()) (gIn z4.2.2 512 (cEq z4.1 ((a0_itemWidesF z4.2.2.toNat) - 1) (k6 ()) (k5 (z4.2.2 + 1, z4.1 + (-1), z4.2.1)))))) (cEq (a1F z4.2.2.toNat) (-4) (gIn (z4.2.2 + 1) 512 (cEq z4.2.1 ((-(a0_highsF (z4.2.2 + 1).toNat)) - 1) (jn (fun (z15 : Int) => some z15) (fun k14 => cLt 0 z4.1 (k14 95) (k14 32))) (cEq z4.1 0 (gR z4.2.1 (gIn (z4.2.2 + 1) 512 (gR (-(a0_highsF (z4.2.2 + 1).toNat)) (gIn (z4.2.2 + 1) 512 (gR (a0_lowsF (z4.2.2 + 1).toNat) (bd (f_X8_in z4.2.1 (-(a0_highsF (z4.2.2 + 1).toNat)) (a0_lowsF (z4.2.2 + 1).toNat)) (fun r11 => jn (fun (z13 : Int) => some z13) (fun k12 => cEq r11 0 (k12 32) (k12 86))))))))) (k5 (z4.2.2 + 1, z4.1 + (-1), z4.2.1))))) (cEq (a1F z4.2.2.toNat) (-3) (cLt 0 z4.2.1 (gIn (z4.2.2 + 1) 512 (k5 (z4.2.2 + 1, z4.1, z4.2.1 - (1 + (a0_highsF (z4.2.2 + 1).toNat))))) (some 32)) (cEq (a1F z4.2.2.toNat) (-2) (cLt z4.2.1 0 (gIn (z4.2.2 + 1) 512 (k5 (z4.2.2 + 1, z4.1, z4.2.1 + (1 + (a0_lowsF (z4.2.2 + 1).toNat))))) (some 32)) (cEq (a1F z4.2.2.toNat) (-1) (cEq z4.2.1 0 (some 45) (jn (fun (z18 : Int) => gIn z4.2.2 512 (gIn z18 512 (gR ((a0_itemWidesF z4.2.2.toNat) - (a0_widesF z18.toNat)) (jn (fun (z20 : Int) => k5 (z18, z4.1 - (((a0_itemWidesF z4.2.2.toNat) - (a0_widesF z18.toNat)).tdiv 2), z20)) (fun k19 => cLt z4.2.1 0 (gIn z18 512 (k19 ((z4.2.1 + 1) + (a0_lowsF z18.toNat)))) (gIn z18 512 (k19 ((z4.2.1 - 1) - (a0_highsF z18.toNat))))))))) (fun k16 => cLt z4.2.1 0 (k16 (z4.2.2 + 1)) (bd (f_X8_rowEnd a1N a1F (z4.2.2 + 1)) (fun r17 => k16 (r17 + 1)))))) (jn (fun (z22 : Int) => some z22) (fun k21 => cEq z4.2.1 0 (gIn z4.2.2 a1N (k21 (a1F z4.2.2.toNat))) (k21 32)))))))))) fuel y5 y6 y4))))))) (k1 ()))))
set_option maxRecDepth 100000 in
theorem l_X8_signAt_9 {D : va_G} {cs : q_CS} {κ : q_X} {a0 a0_text a0_now a0_trial a0_diary a0_kept a0_isKept a0_clip a0_line a0_read a0_opens a0_chains a0_factors a0_plains a0_belows a0_owned a0_wides a0_highs a0_lows a0_itemWides a0_pile a1 : Nat} {a1N : Nat} {a0_refusal a0_textSize a0_acts a0_lineSize a0_readSize a0_deep : Int} {a0_highsF a0_itemWidesF a0_lowsF a0_widesF a1F : (Nat → Int)} {r : (Int)} (ok : q_ok D cs κ cX8_signAt 9 RX8 (q_rm 3 64)) (fin : ∀ (lv : List (Nat × Value)) (pc : Nat), decode cX8_signAt pc = .ok (.ireturn, 1) → q_J D κ 9 0 0 [(a0, .inr (8, [.int (iI a0_refusal), .ref a0_text, .int (iI a0_textSize), .ref a0_now, .ref a0_trial, .ref a0_diary, .int (iI a0_acts), .ref a0_kept, .ref a0_isKept, .ref a0_clip, .ref a0_line, .int (iI a0_lineSize), .ref a0_read, .int (iI a0_readSize), .ref a0_opens, .ref a0_chains, .ref a0_factors, .ref a0_plains, .ref a0_belows, .ref a0_owned, .int (iI a0_deep), .ref a0_wides, .ref a0_highs, .ref a0_lows, .ref a0_itemWides, .ref a0_pile])), (a0_highs, .inl (cs.1, 512, .inl (aI a0_highsF))), (a0_itemWides, .inl (cs.1, 512, .inl (aI a0_itemWidesF))), (a0_lows, .inl (cs.1, 512, .inl (aI a0_lowsF))), (a0_wides, .inl (cs.1, 512, .inl (aI a0_widesF))), (a1, .inl (cs.1, a1N, .inl (aI a1F)))] lv pc [.int (iI r)]) : ∀ (n : Nat) (y4 : Int) (y5 : Int) (y6 : Int), f_X8_signAt_9 a1N a0_highsF a0_itemWidesF a0_lowsF a0_widesF a1F n y4 y5 y6 = some r → q_J D κ 9 0 0 [(a0, .inr (8, [.int (iI a0_refusal), .ref a0_text, .int (iI a0_textSize), .ref a0_now, .ref a0_trial, .ref a0_diary, .int (iI a0_acts), .ref a0_kept, .ref a0_isKept, .ref a0_clip, .ref a0_line, .int (iI a0_lineSize), .ref a0_read, .int (iI a0_readSize), .ref a0_opens, .ref a0_chains, .ref a0_factors, .ref a0_plains, .ref a0_belows, .ref a0_owned, .int (iI a0_deep), .ref a0_wides, .ref a0_highs, .ref a0_lows, .ref a0_itemWides, .ref a0_pile])), (a0_highs, .inl (cs.1, 512, .inl (aI a0_highsF))), (a0_itemWides, .inl (cs.1, 512, .inl (aI a0_itemWidesF))), (a0_lows, .inl (cs.1, 512, .inl (aI a0_lowsF))), (a0_wides, .inl (cs.1, 512, .inl (aI a0_widesF))), (a1, .inl (cs.1, a1N, .inl (aI a1F)))] [(0, .ref a0), (1, .ref a1), (4, .int (iI y4)), (5, .int (iI y5)), (6, .int (iI y6))] 9 [] := by
  intro n
  induction n with
  | zero =>
    intro y4 y5 y6 h
    exact absurd h (by unfold f_X8_signAt_9; exact fun z => by cases z)
  | succ n ih =>
    intro y4 y5 y6 h
    unfold f_X8_signAt_9 at h
    refine j_iload (pc := 9) 3 ok dX8_signAt_9 rfl ?_
    refine jn_use (P := fun z24 => q_J D κ 9 0 0 [(a0, .inr (8, [.int (iI a0_refusal), .ref a0_text, .int (iI a0_textSize), .ref a0_now, .ref a0_trial, .ref a0_diary, .int (iI a0_acts), .ref a0_kept, .ref a0_isKept, .ref a0_clip, .ref a0_line, .int (iI a0_lineSize), .ref a0_read, .int (iI a0_readSize), .ref a0_opens, .ref a0_chains, .ref a0_factors, .ref a0_plains, .ref a0_belows, .ref a0_owned, .int (iI a0_deep), .ref a0_wides, .ref a0_highs, .ref a0_lows, .ref a0_itemWides, .ref a0_pile])), (a0_highs, .inl (cs.1, 512, .inl (aI a0_highsF))), (a0_itemWides, .inl (cs.1, 512, .inl (aI a0_itemWidesF))), (a0_lows, .inl (cs.1, 512, .inl (aI a0_lowsF))), (a0_wides, .inl (cs.1, 512, .inl (aI a0_widesF))), (a1, .inl (cs.1, a1N, .inl (aI a1F)))] [] 51 []) h (fun z24 h => ?_) (fun k1 hk1 h => ?_)
    · refine j_bipush (pc := 51) ok dX8_signAt_51 (by decide) ?_
      obtain rfl := Option.some.inj h
      exact fin _ 53 dX8_signAt_53
    · refine j_if_lt (pc := 11) 51 ok dX8_signAt_11 (by decide) h (fun h => ?_) (fun h => ?_)
      · refine j_lv [] rfl ?_
        exact hk1 () h
      · refine j_iload (pc := 14) 3 ok dX8_signAt_14 rfl ?_
        refine j_aload_n (pc := 16) 0 ok dX8_signAt_16 rfl rfl ?_
        refine gf_X8_56_8 (pc := 17) 0 ok rfl dX8_signAt_17 ?_
        refine j_iload (pc := 20) 2 ok dX8_signAt_20 rfl ?_
        refine j_iald (pc := 22) 4 ok rfl dX8_signAt_22 h (fun h => ?_)
        refine j_icmp_ge (pc := 23) 51 ok dX8_signAt_23 (by decide) h (fun h => ?_) (fun h => ?_)
        · refine j_lv [] rfl ?_
          exact hk1 () h
        · refine j_iload (pc := 26) 4 ok dX8_signAt_26 rfl ?_
          refine j_aload_n (pc := 28) 0 ok dX8_signAt_28 rfl rfl ?_
          refine gf_X8_59_8 (pc := 29) 0 ok rfl dX8_signAt_29 ?_
          refine j_iload (pc := 32) 2 ok dX8_signAt_32 rfl ?_
          refine j_iald (pc := 34) 1 ok rfl dX8_signAt_34 h (fun h => ?_)
          refine j_ineg (pc := 35) ok dX8_signAt_35 ?_
          refine j_icmp_lt (pc := 36) 51 ok dX8_signAt_36 (by decide) h (fun h => ?_) (fun h => ?_)
          · refine j_lv [] rfl ?_
            exact hk1 () h
          · refine j_iload (pc := 39) 4 ok dX8_signAt_39 rfl ?_
            refine j_aload_n (pc := 41) 0 ok dX8_signAt_41 rfl rfl ?_
            refine gf_X8_62_8 (pc := 42) 0 ok rfl dX8_signAt_42 ?_
            refine j_iload (pc := 45) 2 ok dX8_signAt_45 rfl ?_
            refine j_iald (pc := 47) 3 ok rfl dX8_signAt_47 h (fun h => ?_)
            refine j_icmp_le (pc := 48) 54 ok dX8_signAt_48 (by decide) h (fun h => ?_) (fun h => ?_)
            · refine j_iload (pc := 54) 2 ok dX8_signAt_54 rfl ?_
              refine j_istore (pc := 56) (lv' := [(7, .int (iI y4)), (0, .ref a0), (1, .ref a1), (4, .int (iI y4)), (5, .int (iI y5)), (6, .int (iI y6))]) ok dX8_signAt_56 (by decide) rfl ?_
              refine j_iload (pc := 58) 0 ok dX8_signAt_58 rfl ?_
              refine j_aload_n (pc := 60) 2 ok dX8_signAt_60 rfl rfl ?_
              refine j_iload (pc := 61) 0 ok dX8_signAt_61 rfl ?_
              obtain ⟨r2, hr2, h⟩ := bd_inv h
              refine j_callS (pc := 63) ok (k_X8_rowEnd (a0 := a1) (a0N := a1N) (a0F := a1F) (x1 := y4) hr2) gS_X8_142 hd_X8_rowEnd [5] (by decide) rfl rfl rfl rfl ⟨Nat.zero_le _, Nat.zero_le _⟩ (Nat.le_of_ble_eq_true rfl) dX8_signAt_63 rfl [(a0, .inr (8, [.int (iI a0_refusal), .ref a0_text, .int (iI a0_textSize), .ref a0_now, .ref a0_trial, .ref a0_diary, .int (iI a0_acts), .ref a0_kept, .ref a0_isKept, .ref a0_clip, .ref a0_line, .int (iI a0_lineSize), .ref a0_read, .int (iI a0_readSize), .ref a0_opens, .ref a0_chains, .ref a0_factors, .ref a0_plains, .ref a0_belows, .ref a0_owned, .int (iI a0_deep), .ref a0_wides, .ref a0_highs, .ref a0_lows, .ref a0_itemWides, .ref a0_pile])), (a0_highs, .inl (cs.1, 512, .inl (aI a0_highsF))), (a0_itemWides, .inl (cs.1, 512, .inl (aI a0_itemWidesF))), (a0_lows, .inl (cs.1, 512, .inl (aI a0_lowsF))), (a0_wides, .inl (cs.1, 512, .inl (aI a0_widesF))), (a1, .inl (cs.1, a1N, .inl (aI a1F)))] rfl ?_
              refine j_icmp_ne (pc := 66) 72 ok dX8_signAt_66 (by decide) h (fun h => ?_) (fun h => ?_)
              · refine j_lv [1, 2, 4, 5, 0] rfl ?_
                refine l_X8_signAt_72 ok fin (fun z4 h => ?_) fuel _ _ _ h
                · refine j_iload (pc := 107) 4 ok dX8_signAt_107 rfl ?_
                  refine j_iconst (pc := 109) ok dX8_signAt_109 ?_
                  refine j_iadd (pc := 110) ok dX8_signAt_110 ?_
                  refine j_istore (pc := 111) (lv' := [(8, .int (iI (z4.2.2 + 1))), (0, .ref a0), (1, .ref a1), (5, .int (iI z4.1)), (6, .int (iI z4.2.1)), (7, .int (iI z4.2.2))]) ok dX8_signAt_111 (by decide) rfl ?_
                  refine j_aload_n (pc := 113) 2 ok dX8_signAt_113 rfl rfl ?_
                  refine j_iload (pc := 114) 5 ok dX8_signAt_114 rfl ?_
                  refine j_iald (pc := 116) 5 ok rfl dX8_signAt_116 h (fun h => ?_)
                  refine jn_use (P := fun z23 => q_J D κ 9 0 0 [(a0, .inr (8, [.int (iI a0_refusal), .ref a0_text, .int (iI a0_textSize), .ref a0_now, .ref a0_trial, .ref a0_diary, .int (iI a0_acts), .ref a0_kept, .ref a0_isKept, .ref a0_clip, .ref a0_line, .int (iI a0_lineSize), .ref a0_read, .int (iI a0_readSize), .ref a0_opens, .ref a0_chains, .ref a0_factors, .ref a0_plains, .ref a0_belows, .ref a0_owned, .int (iI a0_deep), .ref a0_wides, .ref a0_highs, .ref a0_lows, .ref a0_itemWides, .ref a0_pile])), (a0_highs, .inl (cs.1, 512, .inl (aI a0_highsF))), (a0_itemWides, .inl (cs.1, 512, .inl (aI a0_itemWidesF))), (a0_lows, .inl (cs.1, 512, .inl (aI a0_lowsF))), (a0_wides, .inl (cs.1, 512, .inl (aI a0_widesF))), (a1, .inl (cs.1, a1N, .inl (aI a1F)))] [(0, .ref a0), (1, .ref a1), (4, .int (iI z23.1)), (5, .int (iI z23.2.1)), (6, .int (iI z23.2.2))] 462 []) h (fun z23 h => ?_) (fun k5 hk5 h => ?_)
                  · refine j_goto (pc := 462) 9 ok dX8_signAt_462 (by decide) ?_
                    exact ih _ _ _ h
                  · obtain ⟨hR, h1, h2⟩ := cEq_inv h
                    by_cases e117_m5 : a1F z4.2.2.toNat = (-5)
                    · have h := h1 e117_m5
                      refine j_tabIn (pc := 117) (-5) 374 ok dX8_signAt_117 hR.1 e117_m5 (by decide) rfl (by decide) ?_
                      refine j_iload (pc := 374) 3 ok dX8_signAt_374 rfl ?_
                      refine jn_use (P := fun z7 => q_J D κ 9 0 0 [(a0, .inr (8, [.int (iI a0_refusal), .ref a0_text, .int (iI a0_textSize), .ref a0_now, .ref a0_trial, .ref a0_diary, .int (iI a0_acts), .ref a0_kept, .ref a0_isKept, .ref a0_clip, .ref a0_line, .int (iI a0_lineSize), .ref a0_read, .int (iI a0_readSize), .ref a0_opens, .ref a0_chains, .ref a0_factors, .ref a0_plains, .ref a0_belows, .ref a0_owned, .int (iI a0_deep), .ref a0_wides, .ref a0_highs, .ref a0_lows, .ref a0_itemWides, .ref a0_pile])), (a0_highs, .inl (cs.1, 512, .inl (aI a0_highsF))), (a0_itemWides, .inl (cs.1, 512, .inl (aI a0_itemWidesF))), (a0_lows, .inl (cs.1, 512, .inl (aI a0_lowsF))), (a0_wides, .inl (cs.1, 512, .inl (aI a0_widesF))), (a1, .inl (cs.1, a1N, .inl (aI a1F)))] [(0, .ref a0), (5, .int (iI z4.1)), (6, .int (iI z4.2.1)), (8, .int (iI (z4.2.2 + 1)))] 393 []) h (fun z7 h => ?_) (fun k6 hk6 h => ?_)
                      · refine j_iload (pc := 393) 2 ok dX8_signAt_393 rfl ?_
                        refine j_i2l (pc := 395) ok dX8_signAt_395 h (fun h => ?_)
                        refine j_aload_n (pc := 396) 0 ok dX8_signAt_396 rfl rfl ?_
                        refine gf_X8_59_8 (pc := 397) 0 ok rfl dX8_signAt_397 ?_
                        refine j_iload (pc := 400) 3 ok dX8_signAt_400 rfl ?_
                        refine j_iald (pc := 402) 1 ok rfl dX8_signAt_402 h (fun h => ?_)
                        refine j_ineg (pc := 403) ok dX8_signAt_403 ?_
                        refine j_i2l (pc := 404) ok dX8_signAt_404 h (fun h => ?_)
                        refine j_aload_n (pc := 405) 0 ok dX8_signAt_405 rfl rfl ?_
                        refine gf_X8_62_8 (pc := 406) 0 ok rfl dX8_signAt_406 ?_
                        refine j_iload (pc := 409) 3 ok dX8_signAt_409 rfl ?_
                        refine j_iald (pc := 411) 3 ok rfl dX8_signAt_411 h (fun h => ?_)
                        refine j_i2l (pc := 412) ok dX8_signAt_412 h (fun h => ?_)
                        obtain ⟨r8, hr8, h⟩ := bd_inv h
                        refine j_callS (pc := 413) ok (k_X8_in (x0 := z4.2.1) (x1 := -(a0_highsF (z4.2.2 + 1).toNat)) (x2 := a0_lowsF (z4.2.2 + 1).toNat) hr8) gS_X8_79 hd_X8_in [] (by decide) rfl rfl rfl rfl ⟨Nat.zero_le _, Nat.zero_le _⟩ (Nat.le_of_ble_eq_true rfl) dX8_signAt_413 rfl [(a0, .inr (8, [.int (iI a0_refusal), .ref a0_text, .int (iI a0_textSize), .ref a0_now, .ref a0_trial, .ref a0_diary, .int (iI a0_acts), .ref a0_kept, .ref a0_isKept, .ref a0_clip, .ref a0_line, .int (iI a0_lineSize), .ref a0_read, .int (iI a0_readSize), .ref a0_opens, .ref a0_chains, .ref a0_factors, .ref a0_plains, .ref a0_belows, .ref a0_owned, .int (iI a0_deep), .ref a0_wides, .ref a0_highs, .ref a0_lows, .ref a0_itemWides, .ref a0_pile])), (a0_highs, .inl (cs.1, 512, .inl (aI a0_highsF))), (a0_itemWides, .inl (cs.1, 512, .inl (aI a0_itemWidesF))), (a0_lows, .inl (cs.1, 512, .inl (aI a0_lowsF))), (a0_wides, .inl (cs.1, 512, .inl (aI a0_widesF))), (a1, .inl (cs.1, a1N, .inl (aI a1F)))] rfl ?_
                        refine jn_use (P := fun z10 => q_J D κ 9 0 0 [(a0, .inr (8, [.int (iI a0_refusal), .ref a0_text, .int (iI a0_textSize), .ref a0_now, .ref a0_trial, .ref a0_diary, .int (iI a0_acts), .ref a0_kept, .ref a0_isKept, .ref a0_clip, .ref a0_line, .int (iI a0_lineSize), .ref a0_read, .int (iI a0_readSize), .ref a0_opens, .ref a0_chains, .ref a0_factors, .ref a0_plains, .ref a0_belows, .ref a0_owned, .int (iI a0_deep), .ref a0_wides, .ref a0_highs, .ref a0_lows, .ref a0_itemWides, .ref a0_pile])), (a0_highs, .inl (cs.1, 512, .inl (aI a0_highsF))), (a0_itemWides, .inl (cs.1, 512, .inl (aI a0_itemWidesF))), (a0_lows, .inl (cs.1, 512, .inl (aI a0_lowsF))), (a0_wides, .inl (cs.1, 512, .inl (aI a0_widesF))), (a1, .inl (cs.1, a1N, .inl (aI a1F)))] [] 436 [.int (iI z10)]) h (fun z10 h => ?_) (fun k9 hk9 h => ?_)
                        · obtain rfl := Option.some.inj h
                          exact fin _ 436 dX8_signAt_436
                        · refine j_if_ne (pc := 416) 424 ok dX8_signAt_416 (by decide) h (fun h => ?_) (fun h => ?_)
                          · refine j_iload (pc := 424) 1 ok dX8_signAt_424 rfl ?_
                            refine j_if_ne (pc := 426) 434 ok dX8_signAt_426 (by decide) h (fun h => ?_) (fun h => ?_)
                            · refine j_bipush (pc := 434) ok dX8_signAt_434 (by decide) ?_
                              refine j_lv [] rfl ?_
                              exact hk9 41 h
                            · refine j_bipush (pc := 429) ok dX8_signAt_429 (by decide) ?_
                              refine j_goto (pc := 431) 436 ok dX8_signAt_431 (by decide) ?_
                              refine j_lv [] rfl ?_
                              exact hk9 40 h
                          · refine j_bipush (pc := 419) ok dX8_signAt_419 (by decide) ?_
                            refine j_goto (pc := 421) 436 ok dX8_signAt_421 (by decide) ?_
                            refine j_lv [] rfl ?_
                            exact hk9 32 h
                      · refine j_if_eq (pc := 376) 393 ok dX8_signAt_376 (by decide) h (fun h => ?_) (fun h => ?_)
                        · refine j_lv [1, 3, 4, 0] rfl ?_
                          exact hk6 () h
                        · refine j_iload (pc := 379) 3 ok dX8_signAt_379 rfl ?_
                          refine j_aload_n (pc := 381) 1 ok dX8_signAt_381 rfl rfl ?_
                          refine gf_X8_65_8 (pc := 382) 0 ok rfl dX8_signAt_382 ?_
                          refine j_iload (pc := 385) 5 ok dX8_signAt_385 rfl ?_
                          refine j_iald (pc := 387) 2 ok rfl dX8_signAt_387 h (fun h => ?_)
                          refine j_iconst (pc := 388) ok dX8_signAt_388 ?_
                          refine j_isub (pc := 389) ok dX8_signAt_389 ?_
                          refine j_icmp_ne (pc := 390) 437 ok dX8_signAt_390 (by decide) h (fun h => ?_) (fun h => ?_)
                          · refine j_iload (pc := 437) 0 ok dX8_signAt_437 rfl ?_
                            refine j_istore (pc := 439) (lv' := [(4, .int (iI (z4.2.2 + 1))), (8, .int (iI (z4.2.2 + 1))), (0, .ref a0), (1, .ref a1), (5, .int (iI z4.1)), (6, .int (iI z4.2.1)), (7, .int (iI z4.2.2))]) ok dX8_signAt_439 (by decide) rfl ?_
                            refine j_iinc (pc := 441) (lv' := [(5, .int (iI (z4.1 + (-1)))), (4, .int (iI (z4.2.2 + 1))), (8, .int (iI (z4.2.2 + 1))), (0, .ref a0), (1, .ref a1), (6, .int (iI z4.2.1)), (7, .int (iI z4.2.2))]) 4 ok dX8_signAt_441 rfl (by decide) rfl ?_
                            refine j_goto (pc := 444) 462 ok dX8_signAt_444 (by decide) ?_
                            refine j_lv [3, 4, 1, 0, 5] rfl ?_
                            exact hk5 (z4.2.2 + 1, z4.1 + (-1), z4.2.1) h
                          · refine j_lv [1, 3, 4, 0] rfl ?_
                            exact hk6 () h
                    · have h := h2 e117_m5
                      obtain ⟨hR, h1, h2⟩ := cEq_inv h
                      by_cases e117_m4 : a1F z4.2.2.toNat = (-4)
                      · have h := h1 e117_m4
                        refine j_tabIn (pc := 117) (-4) 297 ok dX8_signAt_117 hR.1 e117_m4 (by decide) rfl (by decide) ?_
                        refine j_iload (pc := 297) 4 ok dX8_signAt_297 rfl ?_
                        refine j_aload_n (pc := 299) 1 ok dX8_signAt_299 rfl rfl ?_
                        refine gf_X8_59_8 (pc := 300) 0 ok rfl dX8_signAt_300 ?_
                        refine j_iload (pc := 303) 0 ok dX8_signAt_303 rfl ?_
                        refine j_iald (pc := 305) 1 ok rfl dX8_signAt_305 h (fun h => ?_)
                        refine j_ineg (pc := 306) ok dX8_signAt_306 ?_
                        refine j_iconst (pc := 307) ok dX8_signAt_307 ?_
                        refine j_isub (pc := 308) ok dX8_signAt_308 ?_
                        refine j_icmp_ne (pc := 309) 325 ok dX8_signAt_309 (by decide) h (fun h => ?_) (fun h => ?_)
                        · refine j_iload (pc := 325) 3 ok dX8_signAt_325 rfl ?_
                          refine j_if_ne (pc := 327) 364 ok dX8_signAt_327 (by decide) h (fun h => ?_) (fun h => ?_)
                          · refine j_iload (pc := 364) 0 ok dX8_signAt_364 rfl ?_
                            refine j_istore (pc := 366) (lv' := [(4, .int (iI (z4.2.2 + 1))), (8, .int (iI (z4.2.2 + 1))), (0, .ref a0), (1, .ref a1), (5, .int (iI z4.1)), (6, .int (iI z4.2.1)), (7, .int (iI z4.2.2))]) ok dX8_signAt_366 (by decide) rfl ?_
                            refine j_iinc (pc := 368) (lv' := [(5, .int (iI (z4.1 + (-1)))), (4, .int (iI (z4.2.2 + 1))), (8, .int (iI (z4.2.2 + 1))), (0, .ref a0), (1, .ref a1), (6, .int (iI z4.2.1)), (7, .int (iI z4.2.2))]) 4 ok dX8_signAt_368 rfl (by decide) rfl ?_
                            refine j_goto (pc := 371) 462 ok dX8_signAt_371 (by decide) ?_
                            refine j_lv [3, 4, 1, 0, 5] rfl ?_
                            exact hk5 (z4.2.2 + 1, z4.1 + (-1), z4.2.1) h
                          · refine j_iload (pc := 330) 4 ok dX8_signAt_330 rfl ?_
                            refine j_i2l (pc := 332) ok dX8_signAt_332 h (fun h => ?_)
                            refine j_aload_n (pc := 333) 1 ok dX8_signAt_333 rfl rfl ?_
                            refine gf_X8_59_8 (pc := 334) 0 ok rfl dX8_signAt_334 ?_
                            refine j_iload (pc := 337) 0 ok dX8_signAt_337 rfl ?_
                            refine j_iald (pc := 339) 1 ok rfl dX8_signAt_339 h (fun h => ?_)
                            refine j_ineg (pc := 340) ok dX8_signAt_340 ?_
                            refine j_i2l (pc := 341) ok dX8_signAt_341 h (fun h => ?_)
                            refine j_aload_n (pc := 342) 1 ok dX8_signAt_342 rfl rfl ?_
                            refine gf_X8_62_8 (pc := 343) 0 ok rfl dX8_signAt_343 ?_
                            refine j_iload (pc := 346) 0 ok dX8_signAt_346 rfl ?_
                            refine j_iald (pc := 348) 3 ok rfl dX8_signAt_348 h (fun h => ?_)
                            refine j_i2l (pc := 349) ok dX8_signAt_349 h (fun h => ?_)
                            obtain ⟨r11, hr11, h⟩ := bd_inv h
                            refine j_callS (pc := 350) ok (k_X8_in (x0 := z4.2.1) (x1 := -(a0_highsF (z4.2.2 + 1).toNat)) (x2 := a0_lowsF (z4.2.2 + 1).toNat) hr11) gS_X8_79 hd_X8_in [] (by decide) rfl rfl rfl rfl ⟨Nat.zero_le _, Nat.zero_le _⟩ (Nat.le_of_ble_eq_true rfl) dX8_signAt_350 rfl [(a0, .inr (8, [.int (iI a0_refusal), .ref a0_text, .int (iI a0_textSize), .ref a0_now, .ref a0_trial, .ref a0_diary, .int (iI a0_acts), .ref a0_kept, .ref a0_isKept, .ref a0_clip, .ref a0_line, .int (iI a0_lineSize), .ref a0_read, .int (iI a0_readSize), .ref a0_opens, .ref a0_chains, .ref a0_factors, .ref a0_plains, .ref a0_belows, .ref a0_owned, .int (iI a0_deep), .ref a0_wides, .ref a0_highs, .ref a0_lows, .ref a0_itemWides, .ref a0_pile])), (a0_highs, .inl (cs.1, 512, .inl (aI a0_highsF))), (a0_itemWides, .inl (cs.1, 512, .inl (aI a0_itemWidesF))), (a0_lows, .inl (cs.1, 512, .inl (aI a0_lowsF))), (a0_wides, .inl (cs.1, 512, .inl (aI a0_widesF))), (a1, .inl (cs.1, a1N, .inl (aI a1F)))] rfl ?_
                            refine jn_use (P := fun z13 => q_J D κ 9 0 0 [(a0, .inr (8, [.int (iI a0_refusal), .ref a0_text, .int (iI a0_textSize), .ref a0_now, .ref a0_trial, .ref a0_diary, .int (iI a0_acts), .ref a0_kept, .ref a0_isKept, .ref a0_clip, .ref a0_line, .int (iI a0_lineSize), .ref a0_read, .int (iI a0_readSize), .ref a0_opens, .ref a0_chains, .ref a0_factors, .ref a0_plains, .ref a0_belows, .ref a0_owned, .int (iI a0_deep), .ref a0_wides, .ref a0_highs, .ref a0_lows, .ref a0_itemWides, .ref a0_pile])), (a0_highs, .inl (cs.1, 512, .inl (aI a0_highsF))), (a0_itemWides, .inl (cs.1, 512, .inl (aI a0_itemWidesF))), (a0_lows, .inl (cs.1, 512, .inl (aI a0_lowsF))), (a0_wides, .inl (cs.1, 512, .inl (aI a0_widesF))), (a1, .inl (cs.1, a1N, .inl (aI a1F)))] [] 363 [.int (iI z13)]) h (fun z13 h => ?_) (fun k12 hk12 h => ?_)
                            · obtain rfl := Option.some.inj h
                              exact fin _ 363 dX8_signAt_363
                            · refine j_if_eq (pc := 353) 361 ok dX8_signAt_353 (by decide) h (fun h => ?_) (fun h => ?_)
                              · refine j_bipush (pc := 361) ok dX8_signAt_361 (by decide) ?_
                                refine j_lv [] rfl ?_
                                exact hk12 32 h
                              · refine j_bipush (pc := 356) ok dX8_signAt_356 (by decide) ?_
                                refine j_goto (pc := 358) 363 ok dX8_signAt_358 (by decide) ?_
                                refine j_lv [] rfl ?_
                                exact hk12 86 h
                        · refine j_iload (pc := 312) 3 ok dX8_signAt_312 rfl ?_
                          refine jn_use (P := fun z15 => q_J D κ 9 0 0 [(a0, .inr (8, [.int (iI a0_refusal), .ref a0_text, .int (iI a0_textSize), .ref a0_now, .ref a0_trial, .ref a0_diary, .int (iI a0_acts), .ref a0_kept, .ref a0_isKept, .ref a0_clip, .ref a0_line, .int (iI a0_lineSize), .ref a0_read, .int (iI a0_readSize), .ref a0_opens, .ref a0_chains, .ref a0_factors, .ref a0_plains, .ref a0_belows, .ref a0_owned, .int (iI a0_deep), .ref a0_wides, .ref a0_highs, .ref a0_lows, .ref a0_itemWides, .ref a0_pile])), (a0_highs, .inl (cs.1, 512, .inl (aI a0_highsF))), (a0_itemWides, .inl (cs.1, 512, .inl (aI a0_itemWidesF))), (a0_lows, .inl (cs.1, 512, .inl (aI a0_lowsF))), (a0_wides, .inl (cs.1, 512, .inl (aI a0_widesF))), (a1, .inl (cs.1, a1N, .inl (aI a1F)))] [] 324 [.int (iI z15)]) h (fun z15 h => ?_) (fun k14 hk14 h => ?_)
                          · obtain rfl := Option.some.inj h
                            exact fin _ 324 dX8_signAt_324
                          · refine j_if_le (pc := 314) 322 ok dX8_signAt_314 (by decide) h (fun h => ?_) (fun h => ?_)
                            · refine j_bipush (pc := 322) ok dX8_signAt_322 (by decide) ?_
                              refine j_lv [] rfl ?_
                              exact hk14 32 h
                            · refine j_bipush (pc := 317) ok dX8_signAt_317 (by decide) ?_
                              refine j_goto (pc := 319) 324 ok dX8_signAt_319 (by decide) ?_
                              refine j_lv [] rfl ?_
                              exact hk14 95 h
                      · have h := h2 e117_m4
                        obtain ⟨hR, h1, h2⟩ := cEq_inv h
                        by_cases e117_m3 : a1F z4.2.2.toNat = (-3)
                        · have h := h1 e117_m3
                          refine j_tabIn (pc := 117) (-3) 268 ok dX8_signAt_117 hR.1 e117_m3 (by decide) rfl (by decide) ?_
                          refine j_iload (pc := 268) 4 ok dX8_signAt_268 rfl ?_
                          refine j_if_gt (pc := 270) 276 ok dX8_signAt_270 (by decide) h (fun h => ?_) (fun h => ?_)
                          · refine j_iload (pc := 276) 0 ok dX8_signAt_276 rfl ?_
                            refine j_istore (pc := 278) (lv' := [(4, .int (iI (z4.2.2 + 1))), (8, .int (iI (z4.2.2 + 1))), (0, .ref a0), (1, .ref a1), (5, .int (iI z4.1)), (6, .int (iI z4.2.1)), (7, .int (iI z4.2.2))]) ok dX8_signAt_278 (by decide) rfl ?_
                            refine j_iload (pc := 280) 5 ok dX8_signAt_280 rfl ?_
                            refine j_iconst (pc := 282) ok dX8_signAt_282 ?_
                            refine j_aload_n (pc := 283) 2 ok dX8_signAt_283 rfl rfl ?_
                            refine gf_X8_59_8 (pc := 284) 0 ok rfl dX8_signAt_284 ?_
                            refine j_iload (pc := 287) 0 ok dX8_signAt_287 rfl ?_
                            refine j_iald (pc := 289) 1 ok rfl dX8_signAt_289 h (fun h => ?_)
                            refine j_iadd (pc := 290) ok dX8_signAt_290 ?_
                            refine j_isub (pc := 291) ok dX8_signAt_291 ?_
                            refine j_istore (pc := 292) (lv' := [(6, .int (iI (z4.2.1 - (1 + (a0_highsF (z4.2.2 + 1).toNat))))), (4, .int (iI (z4.2.2 + 1))), (8, .int (iI (z4.2.2 + 1))), (0, .ref a0), (1, .ref a1), (5, .int (iI z4.1)), (7, .int (iI z4.2.2))]) ok dX8_signAt_292 (by decide) rfl ?_
                            refine j_goto (pc := 294) 462 ok dX8_signAt_294 (by decide) ?_
                            refine j_lv [3, 4, 1, 5, 0] rfl ?_
                            exact hk5 (z4.2.2 + 1, z4.1, z4.2.1 - (1 + (a0_highsF (z4.2.2 + 1).toNat))) h
                          · refine j_bipush (pc := 273) ok dX8_signAt_273 (by decide) ?_
                            obtain rfl := Option.some.inj h
                            exact fin _ 275 dX8_signAt_275
                        · have h := h2 e117_m3
                          obtain ⟨hR, h1, h2⟩ := cEq_inv h
                          by_cases e117_m2 : a1F z4.2.2.toNat = (-2)
                          · have h := h1 e117_m2
                            refine j_tabIn (pc := 117) (-2) 239 ok dX8_signAt_117 hR.1 e117_m2 (by decide) rfl (by decide) ?_
                            refine j_iload (pc := 239) 4 ok dX8_signAt_239 rfl ?_
                            refine j_if_lt (pc := 241) 247 ok dX8_signAt_241 (by decide) h (fun h => ?_) (fun h => ?_)
                            · refine j_iload (pc := 247) 0 ok dX8_signAt_247 rfl ?_
                              refine j_istore (pc := 249) (lv' := [(4, .int (iI (z4.2.2 + 1))), (8, .int (iI (z4.2.2 + 1))), (0, .ref a0), (1, .ref a1), (5, .int (iI z4.1)), (6, .int (iI z4.2.1)), (7, .int (iI z4.2.2))]) ok dX8_signAt_249 (by decide) rfl ?_
                              refine j_iload (pc := 251) 5 ok dX8_signAt_251 rfl ?_
                              refine j_iconst (pc := 253) ok dX8_signAt_253 ?_
                              refine j_aload_n (pc := 254) 2 ok dX8_signAt_254 rfl rfl ?_
                              refine gf_X8_62_8 (pc := 255) 0 ok rfl dX8_signAt_255 ?_
                              refine j_iload (pc := 258) 0 ok dX8_signAt_258 rfl ?_
                              refine j_iald (pc := 260) 3 ok rfl dX8_signAt_260 h (fun h => ?_)
                              refine j_iadd (pc := 261) ok dX8_signAt_261 ?_
                              refine j_iadd (pc := 262) ok dX8_signAt_262 ?_
                              refine j_istore (pc := 263) (lv' := [(6, .int (iI (z4.2.1 + (1 + (a0_lowsF (z4.2.2 + 1).toNat))))), (4, .int (iI (z4.2.2 + 1))), (8, .int (iI (z4.2.2 + 1))), (0, .ref a0), (1, .ref a1), (5, .int (iI z4.1)), (7, .int (iI z4.2.2))]) ok dX8_signAt_263 (by decide) rfl ?_
                              refine j_goto (pc := 265) 462 ok dX8_signAt_265 (by decide) ?_
                              refine j_lv [3, 4, 1, 5, 0] rfl ?_
                              exact hk5 (z4.2.2 + 1, z4.1, z4.2.1 + (1 + (a0_lowsF (z4.2.2 + 1).toNat))) h
                            · refine j_bipush (pc := 244) ok dX8_signAt_244 (by decide) ?_
                              obtain rfl := Option.some.inj h
                              exact fin _ 246 dX8_signAt_246
                          · have h := h2 e117_m2
                            obtain ⟨hR, h1, h2⟩ := cEq_inv h
                            by_cases e117_m1 : a1F z4.2.2.toNat = (-1)
                            · have h := h1 e117_m1
                              refine j_tabIn (pc := 117) (-1) 152 ok dX8_signAt_117 hR.1 e117_m1 (by decide) rfl (by decide) ?_
                              refine j_iload (pc := 152) 4 ok dX8_signAt_152 rfl ?_
                              refine j_if_ne (pc := 154) 160 ok dX8_signAt_154 (by decide) h (fun h => ?_) (fun h => ?_)
                              · refine j_iload (pc := 160) 4 ok dX8_signAt_160 rfl ?_
                                refine jn_use (P := fun z18 => q_J D κ 9 0 0 [(a0, .inr (8, [.int (iI a0_refusal), .ref a0_text, .int (iI a0_textSize), .ref a0_now, .ref a0_trial, .ref a0_diary, .int (iI a0_acts), .ref a0_kept, .ref a0_isKept, .ref a0_clip, .ref a0_line, .int (iI a0_lineSize), .ref a0_read, .int (iI a0_readSize), .ref a0_opens, .ref a0_chains, .ref a0_factors, .ref a0_plains, .ref a0_belows, .ref a0_owned, .int (iI a0_deep), .ref a0_wides, .ref a0_highs, .ref a0_lows, .ref a0_itemWides, .ref a0_pile])), (a0_highs, .inl (cs.1, 512, .inl (aI a0_highsF))), (a0_itemWides, .inl (cs.1, 512, .inl (aI a0_itemWidesF))), (a0_lows, .inl (cs.1, 512, .inl (aI a0_lowsF))), (a0_wides, .inl (cs.1, 512, .inl (aI a0_widesF))), (a1, .inl (cs.1, a1N, .inl (aI a1F)))] [(0, .ref a0), (1, .ref a1), (5, .int (iI z4.1)), (6, .int (iI z4.2.1)), (7, .int (iI z4.2.2))] 178 [.int (iI z18)]) h (fun z18 h => ?_) (fun k16 hk16 h => ?_)
                                · refine j_istore (pc := 178) (lv' := [(4, .int (iI z18)), (0, .ref a0), (1, .ref a1), (5, .int (iI z4.1)), (6, .int (iI z4.2.1)), (7, .int (iI z4.2.2))]) ok dX8_signAt_178 (by decide) rfl ?_
                                  refine j_iload (pc := 180) 3 ok dX8_signAt_180 rfl ?_
                                  refine j_aload_n (pc := 182) 1 ok dX8_signAt_182 rfl rfl ?_
                                  refine gf_X8_65_8 (pc := 183) 0 ok rfl dX8_signAt_183 ?_
                                  refine j_iload (pc := 186) 5 ok dX8_signAt_186 rfl ?_
                                  refine j_iald (pc := 188) 2 ok rfl dX8_signAt_188 h (fun h => ?_)
                                  refine j_aload_n (pc := 189) 1 ok dX8_signAt_189 rfl rfl ?_
                                  refine gf_X8_56_8 (pc := 190) 0 ok rfl dX8_signAt_190 ?_
                                  refine j_iload (pc := 193) 0 ok dX8_signAt_193 rfl ?_
                                  refine j_iald (pc := 195) 4 ok rfl dX8_signAt_195 h (fun h => ?_)
                                  refine j_isub (pc := 196) ok dX8_signAt_196 ?_
                                  refine j_iconst (pc := 197) ok dX8_signAt_197 ?_
                                  refine j_idiv (pc := 198) ok dX8_signAt_198 (by decide) (by decide) h (fun h => ?_)
                                  refine j_isub (pc := 199) ok dX8_signAt_199 ?_
                                  refine j_istore (pc := 200) (lv' := [(5, .int (iI (z4.1 - (((a0_itemWidesF z4.2.2.toNat) - (a0_widesF z18.toNat)).tdiv 2)))), (4, .int (iI z18)), (0, .ref a0), (1, .ref a1), (6, .int (iI z4.2.1)), (7, .int (iI z4.2.2))]) ok dX8_signAt_200 (by decide) rfl ?_
                                  refine j_iload (pc := 202) 4 ok dX8_signAt_202 rfl ?_
                                  refine jn_use (P := fun z20 => q_J D κ 9 0 0 [(a0, .inr (8, [.int (iI a0_refusal), .ref a0_text, .int (iI a0_textSize), .ref a0_now, .ref a0_trial, .ref a0_diary, .int (iI a0_acts), .ref a0_kept, .ref a0_isKept, .ref a0_clip, .ref a0_line, .int (iI a0_lineSize), .ref a0_read, .int (iI a0_readSize), .ref a0_opens, .ref a0_chains, .ref a0_factors, .ref a0_plains, .ref a0_belows, .ref a0_owned, .int (iI a0_deep), .ref a0_wides, .ref a0_highs, .ref a0_lows, .ref a0_itemWides, .ref a0_pile])), (a0_highs, .inl (cs.1, 512, .inl (aI a0_highsF))), (a0_itemWides, .inl (cs.1, 512, .inl (aI a0_itemWidesF))), (a0_lows, .inl (cs.1, 512, .inl (aI a0_lowsF))), (a0_wides, .inl (cs.1, 512, .inl (aI a0_widesF))), (a1, .inl (cs.1, a1N, .inl (aI a1F)))] [(0, .ref a0), (1, .ref a1), (4, .int (iI z18)), (5, .int (iI (z4.1 - (((a0_itemWidesF z4.2.2.toNat) - (a0_widesF z18.toNat)).tdiv 2))))] 234 [.int (iI z20)]) h (fun z20 h => ?_) (fun k19 hk19 h => ?_)
                                  · refine j_istore (pc := 234) (lv' := [(6, .int (iI z20)), (0, .ref a0), (1, .ref a1), (4, .int (iI z18)), (5, .int (iI (z4.1 - (((a0_itemWidesF z4.2.2.toNat) - (a0_widesF z18.toNat)).tdiv 2))))]) ok dX8_signAt_234 (by decide) rfl ?_
                                    refine j_goto (pc := 236) 462 ok dX8_signAt_236 (by decide) ?_
                                    refine j_lv [1, 2, 3, 4, 0] rfl ?_
                                    exact hk5 (z18, z4.1 - (((a0_itemWidesF z4.2.2.toNat) - (a0_widesF z18.toNat)).tdiv 2), z20) h
                                  · refine j_if_ge (pc := 204) 222 ok dX8_signAt_204 (by decide) h (fun h => ?_) (fun h => ?_)
                                    · refine j_iload (pc := 222) 4 ok dX8_signAt_222 rfl ?_
                                      refine j_iconst (pc := 224) ok dX8_signAt_224 ?_
                                      refine j_isub (pc := 225) ok dX8_signAt_225 ?_
                                      refine j_aload_n (pc := 226) 2 ok dX8_signAt_226 rfl rfl ?_
                                      refine gf_X8_59_8 (pc := 227) 0 ok rfl dX8_signAt_227 ?_
                                      refine j_iload (pc := 230) 1 ok dX8_signAt_230 rfl ?_
                                      refine j_iald (pc := 232) 1 ok rfl dX8_signAt_232 h (fun h => ?_)
                                      refine j_isub (pc := 233) ok dX8_signAt_233 ?_
                                      refine j_lv [2, 3, 1, 0] rfl ?_
                                      exact hk19 ((z4.2.1 - 1) - (a0_highsF z18.toNat)) h
                                    · refine j_iload (pc := 207) 4 ok dX8_signAt_207 rfl ?_
                                      refine j_iconst (pc := 209) ok dX8_signAt_209 ?_
                                      refine j_iadd (pc := 210) ok dX8_signAt_210 ?_
                                      refine j_aload_n (pc := 211) 2 ok dX8_signAt_211 rfl rfl ?_
                                      refine gf_X8_62_8 (pc := 212) 0 ok rfl dX8_signAt_212 ?_
                                      refine j_iload (pc := 215) 1 ok dX8_signAt_215 rfl ?_
                                      refine j_iald (pc := 217) 3 ok rfl dX8_signAt_217 h (fun h => ?_)
                                      refine j_iadd (pc := 218) ok dX8_signAt_218 ?_
                                      refine j_goto (pc := 219) 234 ok dX8_signAt_219 (by decide) ?_
                                      refine j_lv [2, 3, 1, 0] rfl ?_
                                      exact hk19 ((z4.2.1 + 1) + (a0_lowsF z18.toNat)) h
                                · refine j_if_ge (pc := 162) 170 ok dX8_signAt_162 (by decide) h (fun h => ?_) (fun h => ?_)
                                  · refine j_aload_n (pc := 170) 2 ok dX8_signAt_170 rfl rfl ?_
                                    refine j_iload (pc := 171) 0 ok dX8_signAt_171 rfl ?_
                                    obtain ⟨r17, hr17, h⟩ := bd_inv h
                                    refine j_callS (pc := 173) ok (k_X8_rowEnd (a0 := a1) (a0N := a1N) (a0F := a1F) (x1 := z4.2.2 + 1) hr17) gS_X8_142 hd_X8_rowEnd [5] (by decide) rfl rfl rfl rfl ⟨Nat.zero_le _, Nat.zero_le _⟩ (Nat.le_of_ble_eq_true rfl) dX8_signAt_173 rfl [(a0, .inr (8, [.int (iI a0_refusal), .ref a0_text, .int (iI a0_textSize), .ref a0_now, .ref a0_trial, .ref a0_diary, .int (iI a0_acts), .ref a0_kept, .ref a0_isKept, .ref a0_clip, .ref a0_line, .int (iI a0_lineSize), .ref a0_read, .int (iI a0_readSize), .ref a0_opens, .ref a0_chains, .ref a0_factors, .ref a0_plains, .ref a0_belows, .ref a0_owned, .int (iI a0_deep), .ref a0_wides, .ref a0_highs, .ref a0_lows, .ref a0_itemWides, .ref a0_pile])), (a0_highs, .inl (cs.1, 512, .inl (aI a0_highsF))), (a0_itemWides, .inl (cs.1, 512, .inl (aI a0_itemWidesF))), (a0_lows, .inl (cs.1, 512, .inl (aI a0_lowsF))), (a0_wides, .inl (cs.1, 512, .inl (aI a0_widesF))), (a1, .inl (cs.1, a1N, .inl (aI a1F)))] rfl ?_
                                    refine j_iconst (pc := 176) ok dX8_signAt_176 ?_
                                    refine j_iadd (pc := 177) ok dX8_signAt_177 ?_
                                    refine j_lv [1, 2, 3, 4, 5] rfl ?_
                                    exact hk16 (r17 + 1) h
                                  · refine j_iload (pc := 165) 0 ok dX8_signAt_165 rfl ?_
                                    refine j_goto (pc := 167) 178 ok dX8_signAt_167 (by decide) ?_
                                    refine j_lv [1, 2, 3, 4, 5] rfl ?_
                                    exact hk16 (z4.2.2 + 1) h
                              · refine j_bipush (pc := 157) ok dX8_signAt_157 (by decide) ?_
                                obtain rfl := Option.some.inj h
                                exact fin _ 159 dX8_signAt_159
                            · have h := h2 e117_m1
                              refine j_tabOut (pc := 117) 447 ok dX8_signAt_117 hR.1 (by omega) (by decide) ?_
                              refine j_iload (pc := 447) 4 ok dX8_signAt_447 rfl ?_
                              refine jn_use (P := fun z22 => q_J D κ 9 0 0 [(a0, .inr (8, [.int (iI a0_refusal), .ref a0_text, .int (iI a0_textSize), .ref a0_now, .ref a0_trial, .ref a0_diary, .int (iI a0_acts), .ref a0_kept, .ref a0_isKept, .ref a0_clip, .ref a0_line, .int (iI a0_lineSize), .ref a0_read, .int (iI a0_readSize), .ref a0_opens, .ref a0_chains, .ref a0_factors, .ref a0_plains, .ref a0_belows, .ref a0_owned, .int (iI a0_deep), .ref a0_wides, .ref a0_highs, .ref a0_lows, .ref a0_itemWides, .ref a0_pile])), (a0_highs, .inl (cs.1, 512, .inl (aI a0_highsF))), (a0_itemWides, .inl (cs.1, 512, .inl (aI a0_itemWidesF))), (a0_lows, .inl (cs.1, 512, .inl (aI a0_lowsF))), (a0_wides, .inl (cs.1, 512, .inl (aI a0_widesF))), (a1, .inl (cs.1, a1N, .inl (aI a1F)))] [] 461 [.int (iI z22)]) h (fun z22 h => ?_) (fun k21 hk21 h => ?_)
                              · obtain rfl := Option.some.inj h
                                exact fin _ 461 dX8_signAt_461
                              · refine j_if_ne (pc := 449) 459 ok dX8_signAt_449 (by decide) h (fun h => ?_) (fun h => ?_)
                                · refine j_bipush (pc := 459) ok dX8_signAt_459 (by decide) ?_
                                  refine j_lv [] rfl ?_
                                  exact hk21 32 h
                                · refine j_aload_n (pc := 452) 2 ok dX8_signAt_452 rfl rfl ?_
                                  refine j_iload (pc := 453) 5 ok dX8_signAt_453 rfl ?_
                                  refine j_iald (pc := 455) 5 ok rfl dX8_signAt_455 h (fun h => ?_)
                                  refine j_goto (pc := 456) 461 ok dX8_signAt_456 (by decide) ?_
                                  refine j_lv [] rfl ?_
                                  exact hk21 (a1F z4.2.2.toNat) h
              · refine j_bipush (pc := 69) ok dX8_signAt_69 (by decide) ?_
                obtain rfl := Option.some.inj h
                exact fin _ 71 dX8_signAt_71
            · refine j_lv [] rfl ?_
              exact hk1 () h
def f_X8_signAt (a1N : Nat) (a0_highsF : (Nat → Int)) (a0_itemWidesF : (Nat → Int)) (a0_lowsF : (Nat → Int)) (a0_widesF : (Nat → Int)) (a1F : (Nat → Int)) (x2 : Int) (x3 : Int) : Option (Int) := f_X8_signAt_9 a1N a0_highsF a0_itemWidesF a0_lowsF a0_widesF a1F fuel 0 x2 x3
set_option maxRecDepth 100000 in
set_option maxHeartbeats 4000000 in
theorem k_X8_signAt {D : va_G} {cs : q_CS} {a0 a0_text a0_now a0_trial a0_diary a0_kept a0_isKept a0_clip a0_line a0_read a0_opens a0_chains a0_factors a0_plains a0_belows a0_owned a0_wides a0_highs a0_lows a0_itemWides a0_pile a1 : Nat} {a1N : Nat} {a0_refusal a0_textSize a0_acts a0_lineSize a0_readSize a0_deep : Int} {a0_highsF a0_itemWidesF a0_lowsF a0_widesF a1F : (Nat → Int)} {x2 x3 : Int} {r : (Int)} (h : f_X8_signAt a1N a0_highsF a0_itemWidesF a0_lowsF a0_widesF a1F x2 x3 = some r) : q_M D cs yX8_signAt cX8_signAt 9 (some .int) 3 64 [.ref a0, .ref a1, .int (iI x2), .int (iI x3)] [(a0, .inr (8, [.int (iI a0_refusal), .ref a0_text, .int (iI a0_textSize), .ref a0_now, .ref a0_trial, .ref a0_diary, .int (iI a0_acts), .ref a0_kept, .ref a0_isKept, .ref a0_clip, .ref a0_line, .int (iI a0_lineSize), .ref a0_read, .int (iI a0_readSize), .ref a0_opens, .ref a0_chains, .ref a0_factors, .ref a0_plains, .ref a0_belows, .ref a0_owned, .int (iI a0_deep), .ref a0_wides, .ref a0_highs, .ref a0_lows, .ref a0_itemWides, .ref a0_pile])), (a0_highs, .inl (cs.1, 512, .inl (aI a0_highsF))), (a0_itemWides, .inl (cs.1, 512, .inl (aI a0_itemWidesF))), (a0_lows, .inl (cs.1, 512, .inl (aI a0_lowsF))), (a0_wides, .inl (cs.1, 512, .inl (aI a0_widesF))), (a1, .inl (cs.1, a1N, .inl (aI a1F)))] (some (.int (iI r))) [(a0, .inr (8, [.int (iI a0_refusal), .ref a0_text, .int (iI a0_textSize), .ref a0_now, .ref a0_trial, .ref a0_diary, .int (iI a0_acts), .ref a0_kept, .ref a0_isKept, .ref a0_clip, .ref a0_line, .int (iI a0_lineSize), .ref a0_read, .int (iI a0_readSize), .ref a0_opens, .ref a0_chains, .ref a0_factors, .ref a0_plains, .ref a0_belows, .ref a0_owned, .int (iI a0_deep), .ref a0_wides, .ref a0_highs, .ref a0_lows, .ref a0_itemWides, .ref a0_pile])), (a0_highs, .inl (cs.1, 512, .inl (aI a0_highsF))), (a0_itemWides, .inl (cs.1, 512, .inl (aI a0_itemWidesF))), (a0_lows, .inl (cs.1, 512, .inl (aI a0_lowsF))), (a0_wides, .inl (cs.1, 512, .inl (aI a0_widesF))), (a1, .inl (cs.1, a1N, .inl (aI a1F)))] := by
  refine q_start_i [(0, .ref a0), (1, .ref a1), (2, .int (iI x2)), (3, .int (iI x3))] RX8 rfl (by decide +kernel) rfl (Nat.le_of_ble_eq_true rfl) rfl (fun κ ok fin => ?_)
  unfold f_X8_signAt at h
  refine j_iconst (pc := 0) ok dX8_signAt_0 ?_
  refine j_istore (pc := 1) (lv' := [(4, .int (iI 0)), (0, .ref a0), (1, .ref a1), (2, .int (iI x2)), (3, .int (iI x3))]) ok dX8_signAt_1 (by decide) rfl ?_
  refine j_iload_n (pc := 3) 3 ok dX8_signAt_3 rfl rfl ?_
  refine j_istore (pc := 4) (lv' := [(5, .int (iI x2)), (4, .int (iI 0)), (0, .ref a0), (1, .ref a1), (2, .int (iI x2)), (3, .int (iI x3))]) ok dX8_signAt_4 (by decide) rfl ?_
  refine j_iload_n (pc := 6) 5 ok dX8_signAt_6 rfl rfl ?_
  refine j_istore (pc := 7) (lv' := [(6, .int (iI x3)), (5, .int (iI x2)), (4, .int (iI 0)), (0, .ref a0), (1, .ref a1), (2, .int (iI x2)), (3, .int (iI x3))]) ok dX8_signAt_7 (by decide) rfl ?_
  refine j_lv [3, 4, 2, 1, 0] rfl ?_
  refine l_X8_signAt_9 ok fin fuel _ _ _ h
def f_X8_drawn (a0_refusal : Int) (a0_highsF : (Nat → Int)) (a0_itemWidesF : (Nat → Int)) (a0_lowsF : (Nat → Int)) (a0_nowF : (Nat → Int)) (a0_widesF : (Nat → Int)) (x1 : Int) (x2 : Int) : Option (Int × Int × (Nat → Int) × (Nat → Int) × (Nat → Int) × (Nat → Int)) := bd (f_X8_layBoxes 184 a0_highsF a0_itemWidesF a0_lowsF a0_widesF a0_nowF) (fun r1 => gR x1 (gIn 0 512 (gR ((r1.2.2.2 (0 : Int).toNat) - 1) (bd (f_X8_in x1 0 ((r1.2.2.2 (0 : Int).toNat) - 1)) (fun r2 => jn (fun (z7 : Int) => bd (f_X8_refused a0_refusal z7) (fun r8 => cEq r8.1 0 (gIn 0 512 (bd (f_X8_signAt 184 r1.1 r1.2.1 r1.2.2.1 r1.2.2.2 a0_nowF x1 (x2 - (r1.1 (0 : Int).toNat))) (fun r9 => some (r9, r8.2, r1.1, r1.2.1, r1.2.2.1, r1.2.2.2)))) (some (0, r8.2, r1.1, r1.2.1, r1.2.2.1, r1.2.2.2)))) (fun k4 => jn (fun (z6 : Unit) => k4 1) (fun k3 => cEq r2 0 (k3 ()) (gR x2 (gIn 0 512 (gIn 0 512 (gR ((r1.1 (0 : Int).toNat) + (r1.2.2.1 (0 : Int).toNat)) (bd (f_X8_in x2 0 ((r1.1 (0 : Int).toNat) + (r1.2.2.1 (0 : Int).toNat))) (fun r5 => cEq r5 0 (k3 ()) (k4 0))))))))))))))
set_option maxRecDepth 100000 in
set_option maxHeartbeats 4000000 in
theorem k_X8_drawn {D : va_G} {cs : q_CS} {a0 a0_text a0_now a0_trial a0_diary a0_kept a0_isKept a0_clip a0_line a0_read a0_opens a0_chains a0_factors a0_plains a0_belows a0_owned a0_wides a0_highs a0_lows a0_itemWides a0_pile : Nat} {a0_refusal a0_textSize a0_acts a0_lineSize a0_readSize a0_deep : Int} {a0_highsF a0_itemWidesF a0_lowsF a0_nowF a0_widesF : (Nat → Int)} {x1 x2 : Int} {r : (Int × Int × (Nat → Int) × (Nat → Int) × (Nat → Int) × (Nat → Int))} (h : f_X8_drawn a0_refusal a0_highsF a0_itemWidesF a0_lowsF a0_nowF a0_widesF x1 x2 = some r) : q_M D cs yX8_drawn cX8_drawn 3 (some .int) 5 116 [.ref a0, .int (iI x1), .int (iI x2)] [(a0, .inr (8, [.int (iI a0_refusal), .ref a0_text, .int (iI a0_textSize), .ref a0_now, .ref a0_trial, .ref a0_diary, .int (iI a0_acts), .ref a0_kept, .ref a0_isKept, .ref a0_clip, .ref a0_line, .int (iI a0_lineSize), .ref a0_read, .int (iI a0_readSize), .ref a0_opens, .ref a0_chains, .ref a0_factors, .ref a0_plains, .ref a0_belows, .ref a0_owned, .int (iI a0_deep), .ref a0_wides, .ref a0_highs, .ref a0_lows, .ref a0_itemWides, .ref a0_pile])), (a0_highs, .inl (cs.1, 512, .inl (aI a0_highsF))), (a0_itemWides, .inl (cs.1, 512, .inl (aI a0_itemWidesF))), (a0_lows, .inl (cs.1, 512, .inl (aI a0_lowsF))), (a0_now, .inl (cs.1, 184, .inl (aI a0_nowF))), (a0_wides, .inl (cs.1, 512, .inl (aI a0_widesF)))] (some (.int (iI r.1))) [(a0, .inr (8, [.int (iI r.2.1), .ref a0_text, .int (iI a0_textSize), .ref a0_now, .ref a0_trial, .ref a0_diary, .int (iI a0_acts), .ref a0_kept, .ref a0_isKept, .ref a0_clip, .ref a0_line, .int (iI a0_lineSize), .ref a0_read, .int (iI a0_readSize), .ref a0_opens, .ref a0_chains, .ref a0_factors, .ref a0_plains, .ref a0_belows, .ref a0_owned, .int (iI a0_deep), .ref a0_wides, .ref a0_highs, .ref a0_lows, .ref a0_itemWides, .ref a0_pile])), (a0_highs, .inl (cs.1, 512, .inl (aI r.2.2.1))), (a0_itemWides, .inl (cs.1, 512, .inl (aI r.2.2.2.1))), (a0_lows, .inl (cs.1, 512, .inl (aI r.2.2.2.2.1))), (a0_now, .inl (cs.1, 184, .inl (aI a0_nowF))), (a0_wides, .inl (cs.1, 512, .inl (aI r.2.2.2.2.2)))] := by
  refine q_start_i [(0, .ref a0), (1, .int (iI x1)), (2, .int (iI x2))] RX8 rfl (by decide +kernel) rfl (Nat.le_of_ble_eq_true rfl) rfl (fun κ ok fin => ?_)
  unfold f_X8_drawn at h
  refine j_aload_n (pc := 0) 0 ok dX8_drawn_0 rfl rfl ?_
  refine j_aload_n (pc := 1) 0 ok dX8_drawn_1 rfl rfl ?_
  refine gf_X8_13_8 (pc := 2) 0 ok rfl dX8_drawn_2 ?_
  obtain ⟨r1, hr1, h⟩ := bd_inv h
  refine j_callV (pc := 5) ok (k_X8_layBoxes (a0 := a0) (a0_text := a0_text) (a0_now := a0_now) (a0_trial := a0_trial) (a0_diary := a0_diary) (a0_kept := a0_kept) (a0_isKept := a0_isKept) (a0_clip := a0_clip) (a0_line := a0_line) (a0_read := a0_read) (a0_opens := a0_opens) (a0_chains := a0_chains) (a0_factors := a0_factors) (a0_plains := a0_plains) (a0_belows := a0_belows) (a0_owned := a0_owned) (a0_wides := a0_wides) (a0_highs := a0_highs) (a0_lows := a0_lows) (a0_itemWides := a0_itemWides) (a0_pile := a0_pile) (a1 := a0_now) (a1N := 184) (a0_refusal := a0_refusal) (a0_textSize := a0_textSize) (a0_acts := a0_acts) (a0_lineSize := a0_lineSize) (a0_readSize := a0_readSize) (a0_deep := a0_deep) (a0_highsF := a0_highsF) (a0_itemWidesF := a0_itemWidesF) (a0_lowsF := a0_lowsF) (a0_widesF := a0_widesF) (a1F := a0_nowF) hr1) gV_X8_249 ⟨rfl, hd_X8_layBoxes⟩ [0, 1, 2, 3, 5, 4] (by decide) rfl rfl 0 rfl rfl rfl rfl ⟨Nat.zero_le _, Nat.zero_le _⟩ (Nat.le_of_ble_eq_true rfl) dX8_drawn_5 rfl [(a0, .inr (8, [.int (iI a0_refusal), .ref a0_text, .int (iI a0_textSize), .ref a0_now, .ref a0_trial, .ref a0_diary, .int (iI a0_acts), .ref a0_kept, .ref a0_isKept, .ref a0_clip, .ref a0_line, .int (iI a0_lineSize), .ref a0_read, .int (iI a0_readSize), .ref a0_opens, .ref a0_chains, .ref a0_factors, .ref a0_plains, .ref a0_belows, .ref a0_owned, .int (iI a0_deep), .ref a0_wides, .ref a0_highs, .ref a0_lows, .ref a0_itemWides, .ref a0_pile])), (a0_highs, .inl (cs.1, 512, .inl (aI r1.1))), (a0_itemWides, .inl (cs.1, 512, .inl (aI r1.2.1))), (a0_lows, .inl (cs.1, 512, .inl (aI r1.2.2.1))), (a0_now, .inl (cs.1, 184, .inl (aI a0_nowF))), (a0_wides, .inl (cs.1, 512, .inl (aI r1.2.2.2)))] rfl ?_
  refine j_aload_n (pc := 8) 0 ok dX8_drawn_8 rfl rfl ?_
  refine j_iload_n (pc := 9) 1 ok dX8_drawn_9 rfl rfl ?_
  refine j_i2l (pc := 10) ok dX8_drawn_10 h (fun h => ?_)
  refine j_lconst (pc := 11) 0 ok dX8_drawn_11 (by decide) ?_
  refine j_aload_n (pc := 12) 0 ok dX8_drawn_12 rfl rfl ?_
  refine gf_X8_56_8 (pc := 13) 0 ok rfl dX8_drawn_13 ?_
  refine j_iconst (pc := 16) ok dX8_drawn_16 ?_
  refine j_iald (pc := 17) 5 ok rfl dX8_drawn_17 h (fun h => ?_)
  refine j_iconst (pc := 18) ok dX8_drawn_18 ?_
  refine j_isub (pc := 19) ok dX8_drawn_19 ?_
  refine j_i2l (pc := 20) ok dX8_drawn_20 h (fun h => ?_)
  obtain ⟨r2, hr2, h⟩ := bd_inv h
  refine j_callS (pc := 21) ok (k_X8_in (x0 := x1) (x1 := 0) (x2 := (r1.2.2.2 (0 : Int).toNat) - 1) hr2) gS_X8_79 hd_X8_in [] (by decide) rfl rfl rfl rfl ⟨Nat.zero_le _, Nat.zero_le _⟩ (Nat.le_of_ble_eq_true rfl) dX8_drawn_21 rfl [(a0, .inr (8, [.int (iI a0_refusal), .ref a0_text, .int (iI a0_textSize), .ref a0_now, .ref a0_trial, .ref a0_diary, .int (iI a0_acts), .ref a0_kept, .ref a0_isKept, .ref a0_clip, .ref a0_line, .int (iI a0_lineSize), .ref a0_read, .int (iI a0_readSize), .ref a0_opens, .ref a0_chains, .ref a0_factors, .ref a0_plains, .ref a0_belows, .ref a0_owned, .int (iI a0_deep), .ref a0_wides, .ref a0_highs, .ref a0_lows, .ref a0_itemWides, .ref a0_pile])), (a0_highs, .inl (cs.1, 512, .inl (aI r1.1))), (a0_itemWides, .inl (cs.1, 512, .inl (aI r1.2.1))), (a0_lows, .inl (cs.1, 512, .inl (aI r1.2.2.1))), (a0_now, .inl (cs.1, 184, .inl (aI a0_nowF))), (a0_wides, .inl (cs.1, 512, .inl (aI r1.2.2.2)))] rfl ?_
  refine jn_use (P := fun z7 => q_J D κ 3 0 0 [(a0, .inr (8, [.int (iI a0_refusal), .ref a0_text, .int (iI a0_textSize), .ref a0_now, .ref a0_trial, .ref a0_diary, .int (iI a0_acts), .ref a0_kept, .ref a0_isKept, .ref a0_clip, .ref a0_line, .int (iI a0_lineSize), .ref a0_read, .int (iI a0_readSize), .ref a0_opens, .ref a0_chains, .ref a0_factors, .ref a0_plains, .ref a0_belows, .ref a0_owned, .int (iI a0_deep), .ref a0_wides, .ref a0_highs, .ref a0_lows, .ref a0_itemWides, .ref a0_pile])), (a0_highs, .inl (cs.1, 512, .inl (aI r1.1))), (a0_itemWides, .inl (cs.1, 512, .inl (aI r1.2.1))), (a0_lows, .inl (cs.1, 512, .inl (aI r1.2.2.1))), (a0_now, .inl (cs.1, 184, .inl (aI a0_nowF))), (a0_wides, .inl (cs.1, 512, .inl (aI r1.2.2.2)))] [(0, .ref a0), (1, .int (iI x1)), (2, .int (iI x2))] 55 [.int (iI z7), .ref a0]) h (fun z7 h => ?_) (fun k4 hk4 h => ?_)
  · obtain ⟨r8, hr8, h⟩ := bd_inv h
    refine j_callV (pc := 55) ok (k_X8_refused (a0 := a0) (a0_text := a0_text) (a0_now := a0_now) (a0_trial := a0_trial) (a0_diary := a0_diary) (a0_kept := a0_kept) (a0_isKept := a0_isKept) (a0_clip := a0_clip) (a0_line := a0_line) (a0_read := a0_read) (a0_opens := a0_opens) (a0_chains := a0_chains) (a0_factors := a0_factors) (a0_plains := a0_plains) (a0_belows := a0_belows) (a0_owned := a0_owned) (a0_wides := a0_wides) (a0_highs := a0_highs) (a0_lows := a0_lows) (a0_itemWides := a0_itemWides) (a0_pile := a0_pile) (a0_refusal := a0_refusal) (a0_textSize := a0_textSize) (a0_acts := a0_acts) (a0_lineSize := a0_lineSize) (a0_readSize := a0_readSize) (a0_deep := a0_deep) (x1 := z7) hr8) gV_X8_150 ⟨rfl, hd_X8_refused⟩ [0] (by decide) rfl rfl 0 rfl rfl rfl rfl ⟨Nat.zero_le _, Nat.zero_le _⟩ (Nat.le_of_ble_eq_true rfl) dX8_drawn_55 rfl [(a0, .inr (8, [.int (iI r8.2), .ref a0_text, .int (iI a0_textSize), .ref a0_now, .ref a0_trial, .ref a0_diary, .int (iI a0_acts), .ref a0_kept, .ref a0_isKept, .ref a0_clip, .ref a0_line, .int (iI a0_lineSize), .ref a0_read, .int (iI a0_readSize), .ref a0_opens, .ref a0_chains, .ref a0_factors, .ref a0_plains, .ref a0_belows, .ref a0_owned, .int (iI a0_deep), .ref a0_wides, .ref a0_highs, .ref a0_lows, .ref a0_itemWides, .ref a0_pile])), (a0_highs, .inl (cs.1, 512, .inl (aI r1.1))), (a0_itemWides, .inl (cs.1, 512, .inl (aI r1.2.1))), (a0_lows, .inl (cs.1, 512, .inl (aI r1.2.2.1))), (a0_now, .inl (cs.1, 184, .inl (aI a0_nowF))), (a0_wides, .inl (cs.1, 512, .inl (aI r1.2.2.2)))] rfl ?_
    refine j_if_eq (pc := 58) 63 ok dX8_drawn_58 (by decide) h (fun h => ?_) (fun h => ?_)
    · refine j_aload_n (pc := 63) 0 ok dX8_drawn_63 rfl rfl ?_
      refine j_aload_n (pc := 64) 0 ok dX8_drawn_64 rfl rfl ?_
      refine gf_X8_13_8 (pc := 65) 0 ok rfl dX8_drawn_65 ?_
      refine j_iload_n (pc := 68) 1 ok dX8_drawn_68 rfl rfl ?_
      refine j_iload_n (pc := 69) 2 ok dX8_drawn_69 rfl rfl ?_
      refine j_aload_n (pc := 70) 0 ok dX8_drawn_70 rfl rfl ?_
      refine gf_X8_59_8 (pc := 71) 0 ok rfl dX8_drawn_71 ?_
      refine j_iconst (pc := 74) ok dX8_drawn_74 ?_
      refine j_iald (pc := 75) 1 ok rfl dX8_drawn_75 h (fun h => ?_)
      refine j_isub (pc := 76) ok dX8_drawn_76 ?_
      obtain ⟨r9, hr9, h⟩ := bd_inv h
      refine j_callV (pc := 77) ok (k_X8_signAt (a0 := a0) (a0_text := a0_text) (a0_now := a0_now) (a0_trial := a0_trial) (a0_diary := a0_diary) (a0_kept := a0_kept) (a0_isKept := a0_isKept) (a0_clip := a0_clip) (a0_line := a0_line) (a0_read := a0_read) (a0_opens := a0_opens) (a0_chains := a0_chains) (a0_factors := a0_factors) (a0_plains := a0_plains) (a0_belows := a0_belows) (a0_owned := a0_owned) (a0_wides := a0_wides) (a0_highs := a0_highs) (a0_lows := a0_lows) (a0_itemWides := a0_itemWides) (a0_pile := a0_pile) (a1 := a0_now) (a1N := 184) (a0_refusal := r8.2) (a0_textSize := a0_textSize) (a0_acts := a0_acts) (a0_lineSize := a0_lineSize) (a0_readSize := a0_readSize) (a0_deep := a0_deep) (a0_highsF := r1.1) (a0_itemWidesF := r1.2.1) (a0_lowsF := r1.2.2.1) (a0_widesF := r1.2.2.2) (a1F := a0_nowF) (x2 := x1) (x3 := x2 - (r1.1 (0 : Int).toNat)) hr9) gV_X8_252 ⟨rfl, hd_X8_signAt⟩ [0, 1, 2, 3, 5, 4] (by decide) rfl rfl 0 rfl rfl rfl rfl ⟨Nat.zero_le _, Nat.zero_le _⟩ (Nat.le_of_ble_eq_true rfl) dX8_drawn_77 rfl [(a0, .inr (8, [.int (iI r8.2), .ref a0_text, .int (iI a0_textSize), .ref a0_now, .ref a0_trial, .ref a0_diary, .int (iI a0_acts), .ref a0_kept, .ref a0_isKept, .ref a0_clip, .ref a0_line, .int (iI a0_lineSize), .ref a0_read, .int (iI a0_readSize), .ref a0_opens, .ref a0_chains, .ref a0_factors, .ref a0_plains, .ref a0_belows, .ref a0_owned, .int (iI a0_deep), .ref a0_wides, .ref a0_highs, .ref a0_lows, .ref a0_itemWides, .ref a0_pile])), (a0_highs, .inl (cs.1, 512, .inl (aI r1.1))), (a0_itemWides, .inl (cs.1, 512, .inl (aI r1.2.1))), (a0_lows, .inl (cs.1, 512, .inl (aI r1.2.2.1))), (a0_now, .inl (cs.1, 184, .inl (aI a0_nowF))), (a0_wides, .inl (cs.1, 512, .inl (aI r1.2.2.2)))] rfl ?_
      obtain rfl := Option.some.inj h
      exact fin _ 80 dX8_drawn_80
    · refine j_iconst (pc := 61) ok dX8_drawn_61 ?_
      obtain rfl := Option.some.inj h
      exact fin _ 62 dX8_drawn_62
  · refine jn_use (P := fun z6 => q_J D κ 3 0 0 [(a0, .inr (8, [.int (iI a0_refusal), .ref a0_text, .int (iI a0_textSize), .ref a0_now, .ref a0_trial, .ref a0_diary, .int (iI a0_acts), .ref a0_kept, .ref a0_isKept, .ref a0_clip, .ref a0_line, .int (iI a0_lineSize), .ref a0_read, .int (iI a0_readSize), .ref a0_opens, .ref a0_chains, .ref a0_factors, .ref a0_plains, .ref a0_belows, .ref a0_owned, .int (iI a0_deep), .ref a0_wides, .ref a0_highs, .ref a0_lows, .ref a0_itemWides, .ref a0_pile])), (a0_highs, .inl (cs.1, 512, .inl (aI r1.1))), (a0_itemWides, .inl (cs.1, 512, .inl (aI r1.2.1))), (a0_lows, .inl (cs.1, 512, .inl (aI r1.2.2.1))), (a0_now, .inl (cs.1, 184, .inl (aI a0_nowF))), (a0_wides, .inl (cs.1, 512, .inl (aI r1.2.2.2)))] [(0, .ref a0), (1, .int (iI x1)), (2, .int (iI x2))] 54 [.ref a0]) h (fun z6 h => ?_) (fun k3 hk3 h => ?_)
    · refine j_iconst (pc := 54) ok dX8_drawn_54 ?_
      exact hk4 1 h
    · refine j_if_eq (pc := 24) 54 ok dX8_drawn_24 (by decide) h (fun h => ?_) (fun h => ?_)
      · exact hk3 () h
      · refine j_iload_n (pc := 27) 2 ok dX8_drawn_27 rfl rfl ?_
        refine j_i2l (pc := 28) ok dX8_drawn_28 h (fun h => ?_)
        refine j_lconst (pc := 29) 0 ok dX8_drawn_29 (by decide) ?_
        refine j_aload_n (pc := 30) 0 ok dX8_drawn_30 rfl rfl ?_
        refine gf_X8_59_8 (pc := 31) 0 ok rfl dX8_drawn_31 ?_
        refine j_iconst (pc := 34) ok dX8_drawn_34 ?_
        refine j_iald (pc := 35) 1 ok rfl dX8_drawn_35 h (fun h => ?_)
        refine j_aload_n (pc := 36) 0 ok dX8_drawn_36 rfl rfl ?_
        refine gf_X8_62_8 (pc := 37) 0 ok rfl dX8_drawn_37 ?_
        refine j_iconst (pc := 40) ok dX8_drawn_40 ?_
        refine j_iald (pc := 41) 3 ok rfl dX8_drawn_41 h (fun h => ?_)
        refine j_iadd (pc := 42) ok dX8_drawn_42 ?_
        refine j_i2l (pc := 43) ok dX8_drawn_43 h (fun h => ?_)
        obtain ⟨r5, hr5, h⟩ := bd_inv h
        refine j_callS (pc := 44) ok (k_X8_in (x0 := x2) (x1 := 0) (x2 := (r1.1 (0 : Int).toNat) + (r1.2.2.1 (0 : Int).toNat)) hr5) gS_X8_79 hd_X8_in [] (by decide) rfl rfl rfl rfl ⟨Nat.zero_le _, Nat.zero_le _⟩ (Nat.le_of_ble_eq_true rfl) dX8_drawn_44 rfl [(a0, .inr (8, [.int (iI a0_refusal), .ref a0_text, .int (iI a0_textSize), .ref a0_now, .ref a0_trial, .ref a0_diary, .int (iI a0_acts), .ref a0_kept, .ref a0_isKept, .ref a0_clip, .ref a0_line, .int (iI a0_lineSize), .ref a0_read, .int (iI a0_readSize), .ref a0_opens, .ref a0_chains, .ref a0_factors, .ref a0_plains, .ref a0_belows, .ref a0_owned, .int (iI a0_deep), .ref a0_wides, .ref a0_highs, .ref a0_lows, .ref a0_itemWides, .ref a0_pile])), (a0_highs, .inl (cs.1, 512, .inl (aI r1.1))), (a0_itemWides, .inl (cs.1, 512, .inl (aI r1.2.1))), (a0_lows, .inl (cs.1, 512, .inl (aI r1.2.2.1))), (a0_now, .inl (cs.1, 184, .inl (aI a0_nowF))), (a0_wides, .inl (cs.1, 512, .inl (aI r1.2.2.2)))] rfl ?_
        refine j_if_eq (pc := 47) 54 ok dX8_drawn_47 (by decide) h (fun h => ?_) (fun h => ?_)
        · exact hk3 () h
        · refine j_iconst (pc := 50) ok dX8_drawn_50 ?_
          refine j_goto (pc := 51) 55 ok dX8_drawn_51 (by decide) ?_
          exact hk4 0 h
def f_X8_does (a0_highsF : (Nat → Int)) (a0_itemWidesF : (Nat → Int)) (a0_lowsF : (Nat → Int)) (a0_trialF : (Nat → Int)) (a0_widesF : (Nat → Int)) (x1 : Int) (x2 : Int) (x3 : Int) : Option (Int × (Nat → Int) × (Nat → Int) × (Nat → Int) × (Nat → Int) × (Nat → Int)) := jn (fun (z32 : Unit) => cEq x2 0 (jn (fun (z34 : Int) => bd (f_X8_moves 184 a0_trialF z34) (fun r35 => gB 1 (some (1, a0_highsF, a0_itemWidesF, a0_lowsF, r35, a0_widesF)))) (fun k33 => cEq x1 3 (k33 x3) (k33 (-x3)))) (gB 0 (some (0, a0_highsF, a0_itemWidesF, a0_lowsF, a0_trialF, a0_widesF)))) (fun k1 => cEq x1 1 (bd (f_X8_types 184 a0_trialF ((100 * x2) + x3)) (fun r2 => gB r2.1 (some (r2.1, a0_highsF, a0_itemWidesF, a0_lowsF, r2.2, a0_widesF)))) (cEq x1 2 (jn (fun (z7 : (Nat → Int) × Int) => gB z7.2 (some (z7.2, a0_highsF, a0_itemWidesF, a0_lowsF, z7.1, a0_widesF))) (fun k4 => jn (fun (z6 : (Nat → Int)) => k4 (z6, 0)) (fun k3 => cEq x2 0 (bd (f_X8_wraps 184 a0_trialF x3) (fun r5 => cEq r5.1 0 (k3 r5.2) (k4 (r5.2, 1)))) (k3 a0_trialF)))) (cEq x1 3 (k1 ()) (cEq x1 4 (k1 ()) (cEq x1 5 (jn (fun (z12 : (Nat → Int) × Int) => gB z12.2 (some (z12.2, a0_highsF, a0_itemWidesF, a0_lowsF, z12.1, a0_widesF))) (fun k9 => jn (fun (z11 : (Nat → Int)) => k9 (z11, 0)) (fun k8 => cEq x2 0 (cEq x3 0 (bd (f_X8_backs 184 a0_trialF) (fun r10 => cEq r10.1 0 (k8 r10.2) (k9 (r10.2, 1)))) (k8 a0_trialF)) (k8 a0_trialF)))) (cEq x1 6 (jn (fun (z17 : (Nat → Int) × Int) => gB z17.2 (some (z17.2, a0_highsF, a0_itemWidesF, a0_lowsF, z17.1, a0_widesF))) (fun k14 => jn (fun (z16 : (Nat → Int)) => k14 (z16, 0)) (fun k13 => cEq x2 0 (cEq x3 0 (bd (f_X8_grows 184 a0_trialF) (fun r15 => cEq r15.1 0 (k13 r15.2) (k14 (r15.2, 1)))) (k13 a0_trialF)) (k13 a0_trialF)))) (cEq x1 7 (jn (fun (z22 : Int) => gB z22 (some (z22, a0_highsF, a0_itemWidesF, a0_lowsF, a0_trialF, a0_widesF))) (fun k19 => jn (fun (z21 : Unit) => k19 0) (fun k18 => cEq x2 0 (gIn 180 184 (bd (f_X8_allIn 184 a0_trialF 0 (a0_trialF (180 : Int).toNat)) (fun r20 => cEq r20 x3 (k19 1) (k18 ())))) (k18 ())))) (cEq x1 8 (jn (fun (z26 : Int) => gB z26 (some (z26, a0_highsF, a0_itemWidesF, a0_lowsF, a0_trialF, a0_widesF))) (fun k24 => jn (fun (z25 : Unit) => k24 0) (fun k23 => cEq x2 0 (gIn 181 184 (cEq (a0_trialF (181 : Int).toNat) x3 (k24 1) (k23 ()))) (k23 ())))) (cEq x1 9 (bd (f_X8_layBoxes 184 a0_highsF a0_itemWidesF a0_lowsF a0_widesF a0_trialF) (fun r27 => jn (fun (z31 : Int) => gB z31 (some (z31, r27.1, r27.2.1, r27.2.2.1, a0_trialF, r27.2.2.2))) (fun k29 => jn (fun (z30 : Unit) => k29 0) (fun k28 => cEq x2 0 (gIn 0 512 (cEq (r27.2.2.2 (0 : Int).toNat) x3 (k29 1) (k28 ()))) (k28 ()))))) (gB 0 (some (0, a0_highsF, a0_itemWidesF, a0_lowsF, a0_trialF, a0_widesF))))))))))))
set_option maxRecDepth 100000 in
set_option maxHeartbeats 4000000 in
theorem k_X8_does {D : va_G} {cs : q_CS} {a0 a0_text a0_now a0_trial a0_diary a0_kept a0_isKept a0_clip a0_line a0_read a0_opens a0_chains a0_factors a0_plains a0_belows a0_owned a0_wides a0_highs a0_lows a0_itemWides a0_pile : Nat} {a0_refusal a0_textSize a0_acts a0_lineSize a0_readSize a0_deep : Int} {a0_highsF a0_itemWidesF a0_lowsF a0_trialF a0_widesF : (Nat → Int)} {x1 x2 x3 : Int} {r : (Int × (Nat → Int) × (Nat → Int) × (Nat → Int) × (Nat → Int) × (Nat → Int))} (h : f_X8_does a0_highsF a0_itemWidesF a0_lowsF a0_trialF a0_widesF x1 x2 x3 = some r) : q_M D cs yX8_does cX8_does 4 (some .boolean) 5 116 [.ref a0, .int (iI x1), .int (iI x2), .int (iI x3)] [(a0, .inr (8, [.int (iI a0_refusal), .ref a0_text, .int (iI a0_textSize), .ref a0_now, .ref a0_trial, .ref a0_diary, .int (iI a0_acts), .ref a0_kept, .ref a0_isKept, .ref a0_clip, .ref a0_line, .int (iI a0_lineSize), .ref a0_read, .int (iI a0_readSize), .ref a0_opens, .ref a0_chains, .ref a0_factors, .ref a0_plains, .ref a0_belows, .ref a0_owned, .int (iI a0_deep), .ref a0_wides, .ref a0_highs, .ref a0_lows, .ref a0_itemWides, .ref a0_pile])), (a0_highs, .inl (cs.1, 512, .inl (aI a0_highsF))), (a0_itemWides, .inl (cs.1, 512, .inl (aI a0_itemWidesF))), (a0_lows, .inl (cs.1, 512, .inl (aI a0_lowsF))), (a0_trial, .inl (cs.1, 184, .inl (aI a0_trialF))), (a0_wides, .inl (cs.1, 512, .inl (aI a0_widesF)))] (some (.int (iI r.1))) [(a0, .inr (8, [.int (iI a0_refusal), .ref a0_text, .int (iI a0_textSize), .ref a0_now, .ref a0_trial, .ref a0_diary, .int (iI a0_acts), .ref a0_kept, .ref a0_isKept, .ref a0_clip, .ref a0_line, .int (iI a0_lineSize), .ref a0_read, .int (iI a0_readSize), .ref a0_opens, .ref a0_chains, .ref a0_factors, .ref a0_plains, .ref a0_belows, .ref a0_owned, .int (iI a0_deep), .ref a0_wides, .ref a0_highs, .ref a0_lows, .ref a0_itemWides, .ref a0_pile])), (a0_highs, .inl (cs.1, 512, .inl (aI r.2.1))), (a0_itemWides, .inl (cs.1, 512, .inl (aI r.2.2.1))), (a0_lows, .inl (cs.1, 512, .inl (aI r.2.2.2.1))), (a0_trial, .inl (cs.1, 184, .inl (aI r.2.2.2.2.1))), (a0_wides, .inl (cs.1, 512, .inl (aI r.2.2.2.2.2)))] := by
  refine q_start_z [(0, .ref a0), (1, .int (iI x1)), (2, .int (iI x2)), (3, .int (iI x3))] RX8 rfl (by decide +kernel) rfl (Nat.le_of_ble_eq_true rfl) (fun κ ok fin => ?_)
  unfold f_X8_does at h
  refine j_iload_n (pc := 0) 1 ok dX8_does_0 rfl rfl ?_
  refine jn_use (P := fun z32 => q_J D κ 4 0 0 [(a0, .inr (8, [.int (iI a0_refusal), .ref a0_text, .int (iI a0_textSize), .ref a0_now, .ref a0_trial, .ref a0_diary, .int (iI a0_acts), .ref a0_kept, .ref a0_isKept, .ref a0_clip, .ref a0_line, .int (iI a0_lineSize), .ref a0_read, .int (iI a0_readSize), .ref a0_opens, .ref a0_chains, .ref a0_factors, .ref a0_plains, .ref a0_belows, .ref a0_owned, .int (iI a0_deep), .ref a0_wides, .ref a0_highs, .ref a0_lows, .ref a0_itemWides, .ref a0_pile])), (a0_highs, .inl (cs.1, 512, .inl (aI a0_highsF))), (a0_itemWides, .inl (cs.1, 512, .inl (aI a0_itemWidesF))), (a0_lows, .inl (cs.1, 512, .inl (aI a0_lowsF))), (a0_trial, .inl (cs.1, 184, .inl (aI a0_trialF))), (a0_wides, .inl (cs.1, 512, .inl (aI a0_widesF)))] [(0, .ref a0), (1, .int (iI x1)), (2, .int (iI x2)), (3, .int (iI x3))] 87 []) h (fun z32 h => ?_) (fun k1 hk1 h => ?_)
  · refine j_iload_n (pc := 87) 2 ok dX8_does_87 rfl rfl ?_
    refine j_if_eq (pc := 88) 93 ok dX8_does_88 (by decide) h (fun h => ?_) (fun h => ?_)
    · refine j_aload_n (pc := 93) 0 ok dX8_does_93 rfl rfl ?_
      refine gf_X8_16_8 (pc := 94) 0 ok rfl dX8_does_94 ?_
      refine j_iload_n (pc := 97) 1 ok dX8_does_97 rfl rfl ?_
      refine j_iconst (pc := 98) ok dX8_does_98 ?_
      refine jn_use (P := fun z34 => q_J D κ 4 0 0 [(a0, .inr (8, [.int (iI a0_refusal), .ref a0_text, .int (iI a0_textSize), .ref a0_now, .ref a0_trial, .ref a0_diary, .int (iI a0_acts), .ref a0_kept, .ref a0_isKept, .ref a0_clip, .ref a0_line, .int (iI a0_lineSize), .ref a0_read, .int (iI a0_readSize), .ref a0_opens, .ref a0_chains, .ref a0_factors, .ref a0_plains, .ref a0_belows, .ref a0_owned, .int (iI a0_deep), .ref a0_wides, .ref a0_highs, .ref a0_lows, .ref a0_itemWides, .ref a0_pile])), (a0_highs, .inl (cs.1, 512, .inl (aI a0_highsF))), (a0_itemWides, .inl (cs.1, 512, .inl (aI a0_itemWidesF))), (a0_lows, .inl (cs.1, 512, .inl (aI a0_lowsF))), (a0_trial, .inl (cs.1, 184, .inl (aI a0_trialF))), (a0_wides, .inl (cs.1, 512, .inl (aI a0_widesF)))] [] 108 [.int (iI z34), .ref a0_trial]) h (fun z34 h => ?_) (fun k33 hk33 h => ?_)
      · obtain ⟨r35, hr35, h⟩ := bd_inv h
        refine j_callS (pc := 108) ok (k_X8_moves (a0 := a0_trial) (a0N := 184) (a0F := a0_trialF) (x1 := z34) hr35) gS_X8_214 hd_X8_moves [4] (by decide) rfl rfl rfl rfl ⟨Nat.zero_le _, Nat.zero_le _⟩ (Nat.le_of_ble_eq_true rfl) dX8_does_108 rfl [(a0, .inr (8, [.int (iI a0_refusal), .ref a0_text, .int (iI a0_textSize), .ref a0_now, .ref a0_trial, .ref a0_diary, .int (iI a0_acts), .ref a0_kept, .ref a0_isKept, .ref a0_clip, .ref a0_line, .int (iI a0_lineSize), .ref a0_read, .int (iI a0_readSize), .ref a0_opens, .ref a0_chains, .ref a0_factors, .ref a0_plains, .ref a0_belows, .ref a0_owned, .int (iI a0_deep), .ref a0_wides, .ref a0_highs, .ref a0_lows, .ref a0_itemWides, .ref a0_pile])), (a0_highs, .inl (cs.1, 512, .inl (aI a0_highsF))), (a0_itemWides, .inl (cs.1, 512, .inl (aI a0_itemWidesF))), (a0_lows, .inl (cs.1, 512, .inl (aI a0_lowsF))), (a0_trial, .inl (cs.1, 184, .inl (aI r35))), (a0_wides, .inl (cs.1, 512, .inl (aI a0_widesF)))] rfl ?_
        refine j_iconst (pc := 111) ok dX8_does_111 ?_
        obtain ⟨hbo, h⟩ := gB_inv h
        obtain rfl := Option.some.inj h
        exact fin _ 112 hbo dX8_does_112
      · refine j_icmp_ne (pc := 99) 106 ok dX8_does_99 (by decide) h (fun h => ?_) (fun h => ?_)
        · refine j_iload_n (pc := 106) 3 ok dX8_does_106 rfl rfl ?_
          refine j_ineg (pc := 107) ok dX8_does_107 ?_
          refine j_lv [] rfl ?_
          exact hk33 (-x3) h
        · refine j_iload_n (pc := 102) 3 ok dX8_does_102 rfl rfl ?_
          refine j_goto (pc := 103) 108 ok dX8_does_103 (by decide) ?_
          refine j_lv [] rfl ?_
          exact hk33 x3 h
    · refine j_iconst (pc := 91) ok dX8_does_91 ?_
      obtain ⟨hbo, h⟩ := gB_inv h
      obtain rfl := Option.some.inj h
      exact fin _ 92 hbo dX8_does_92
  · obtain ⟨hR, h1, h2⟩ := cEq_inv h
    by_cases e1_1 : x1 = 1
    · have h := h1 e1_1
      refine j_tabIn (pc := 1) 1 52 ok dX8_does_1 hR.1 e1_1 (by decide) rfl (by decide) ?_
      refine j_aload_n (pc := 52) 0 ok dX8_does_52 rfl rfl ?_
      refine gf_X8_16_8 (pc := 53) 0 ok rfl dX8_does_53 ?_
      refine j_bipush (pc := 56) ok dX8_does_56 (by decide) ?_
      refine j_iload_n (pc := 58) 2 ok dX8_does_58 rfl rfl ?_
      refine j_imul (pc := 59) ok dX8_does_59 ?_
      refine j_iload_n (pc := 60) 3 ok dX8_does_60 rfl rfl ?_
      refine j_iadd (pc := 61) ok dX8_does_61 ?_
      obtain ⟨r2, hr2, h⟩ := bd_inv h
      refine j_callS (pc := 62) ok (k_X8_types (a0 := a0_trial) (a0N := 184) (a0F := a0_trialF) (x1 := (100 * x2) + x3) hr2) gS_X8_233 hd_X8_types [4] (by decide) rfl rfl rfl rfl ⟨Nat.zero_le _, Nat.zero_le _⟩ (Nat.le_of_ble_eq_true rfl) dX8_does_62 rfl [(a0, .inr (8, [.int (iI a0_refusal), .ref a0_text, .int (iI a0_textSize), .ref a0_now, .ref a0_trial, .ref a0_diary, .int (iI a0_acts), .ref a0_kept, .ref a0_isKept, .ref a0_clip, .ref a0_line, .int (iI a0_lineSize), .ref a0_read, .int (iI a0_readSize), .ref a0_opens, .ref a0_chains, .ref a0_factors, .ref a0_plains, .ref a0_belows, .ref a0_owned, .int (iI a0_deep), .ref a0_wides, .ref a0_highs, .ref a0_lows, .ref a0_itemWides, .ref a0_pile])), (a0_highs, .inl (cs.1, 512, .inl (aI a0_highsF))), (a0_itemWides, .inl (cs.1, 512, .inl (aI a0_itemWidesF))), (a0_lows, .inl (cs.1, 512, .inl (aI a0_lowsF))), (a0_trial, .inl (cs.1, 184, .inl (aI r2.2))), (a0_wides, .inl (cs.1, 512, .inl (aI a0_widesF)))] rfl ?_
      obtain ⟨hbo, h⟩ := gB_inv h
      obtain rfl := Option.some.inj h
      exact fin _ 65 hbo dX8_does_65
    · have h := h2 e1_1
      obtain ⟨hR, h1, h2⟩ := cEq_inv h
      by_cases e1_2 : x1 = 2
      · have h := h1 e1_2
        refine j_tabIn (pc := 1) 2 66 ok dX8_does_1 hR.1 e1_2 (by decide) rfl (by decide) ?_
        refine j_iload_n (pc := 66) 2 ok dX8_does_66 rfl rfl ?_
        refine jn_use (P := fun z7 => q_J D κ 4 0 0 [(a0, .inr (8, [.int (iI a0_refusal), .ref a0_text, .int (iI a0_textSize), .ref a0_now, .ref a0_trial, .ref a0_diary, .int (iI a0_acts), .ref a0_kept, .ref a0_isKept, .ref a0_clip, .ref a0_line, .int (iI a0_lineSize), .ref a0_read, .int (iI a0_readSize), .ref a0_opens, .ref a0_chains, .ref a0_factors, .ref a0_plains, .ref a0_belows, .ref a0_owned, .int (iI a0_deep), .ref a0_wides, .ref a0_highs, .ref a0_lows, .ref a0_itemWides, .ref a0_pile])), (a0_highs, .inl (cs.1, 512, .inl (aI a0_highsF))), (a0_itemWides, .inl (cs.1, 512, .inl (aI a0_itemWidesF))), (a0_lows, .inl (cs.1, 512, .inl (aI a0_lowsF))), (a0_trial, .inl (cs.1, 184, .inl (aI z7.1))), (a0_wides, .inl (cs.1, 512, .inl (aI a0_widesF)))] [] 86 [.int (iI z7.2)]) h (fun z7 h => ?_) (fun k4 hk4 h => ?_)
        · obtain ⟨hbo, h⟩ := gB_inv h
          obtain rfl := Option.some.inj h
          exact fin _ 86 hbo dX8_does_86
        · refine jn_use (P := fun z6 => q_J D κ 4 0 0 [(a0, .inr (8, [.int (iI a0_refusal), .ref a0_text, .int (iI a0_textSize), .ref a0_now, .ref a0_trial, .ref a0_diary, .int (iI a0_acts), .ref a0_kept, .ref a0_isKept, .ref a0_clip, .ref a0_line, .int (iI a0_lineSize), .ref a0_read, .int (iI a0_readSize), .ref a0_opens, .ref a0_chains, .ref a0_factors, .ref a0_plains, .ref a0_belows, .ref a0_owned, .int (iI a0_deep), .ref a0_wides, .ref a0_highs, .ref a0_lows, .ref a0_itemWides, .ref a0_pile])), (a0_highs, .inl (cs.1, 512, .inl (aI a0_highsF))), (a0_itemWides, .inl (cs.1, 512, .inl (aI a0_itemWidesF))), (a0_lows, .inl (cs.1, 512, .inl (aI a0_lowsF))), (a0_trial, .inl (cs.1, 184, .inl (aI z6))), (a0_wides, .inl (cs.1, 512, .inl (aI a0_widesF)))] [] 85 []) h (fun z6 h => ?_) (fun k3 hk3 h => ?_)
          · refine j_iconst (pc := 85) ok dX8_does_85 ?_
            exact hk4 (z6, 0) h
          · refine j_if_ne (pc := 67) 85 ok dX8_does_67 (by decide) h (fun h => ?_) (fun h => ?_)
            · refine j_lv [] rfl ?_
              exact hk3 a0_trialF h
            · refine j_aload_n (pc := 70) 0 ok dX8_does_70 rfl rfl ?_
              refine gf_X8_16_8 (pc := 71) 0 ok rfl dX8_does_71 ?_
              refine j_iload_n (pc := 74) 3 ok dX8_does_74 rfl rfl ?_
              obtain ⟨r5, hr5, h⟩ := bd_inv h
              refine j_callS (pc := 75) ok (k_X8_wraps (a0 := a0_trial) (a0N := 184) (a0F := a0_trialF) (x1 := x3) hr5) gS_X8_240 hd_X8_wraps [4] (by decide) rfl rfl rfl rfl ⟨Nat.zero_le _, Nat.zero_le _⟩ (Nat.le_of_ble_eq_true rfl) dX8_does_75 rfl [(a0, .inr (8, [.int (iI a0_refusal), .ref a0_text, .int (iI a0_textSize), .ref a0_now, .ref a0_trial, .ref a0_diary, .int (iI a0_acts), .ref a0_kept, .ref a0_isKept, .ref a0_clip, .ref a0_line, .int (iI a0_lineSize), .ref a0_read, .int (iI a0_readSize), .ref a0_opens, .ref a0_chains, .ref a0_factors, .ref a0_plains, .ref a0_belows, .ref a0_owned, .int (iI a0_deep), .ref a0_wides, .ref a0_highs, .ref a0_lows, .ref a0_itemWides, .ref a0_pile])), (a0_highs, .inl (cs.1, 512, .inl (aI a0_highsF))), (a0_itemWides, .inl (cs.1, 512, .inl (aI a0_itemWidesF))), (a0_lows, .inl (cs.1, 512, .inl (aI a0_lowsF))), (a0_trial, .inl (cs.1, 184, .inl (aI r5.2))), (a0_wides, .inl (cs.1, 512, .inl (aI a0_widesF)))] rfl ?_
              refine j_if_eq (pc := 78) 85 ok dX8_does_78 (by decide) h (fun h => ?_) (fun h => ?_)
              · refine j_lv [] rfl ?_
                exact hk3 r5.2 h
              · refine j_iconst (pc := 81) ok dX8_does_81 ?_
                refine j_goto (pc := 82) 86 ok dX8_does_82 (by decide) ?_
                refine j_lv [] rfl ?_
                exact hk4 (r5.2, 1) h
      · have h := h2 e1_2
        obtain ⟨hR, h1, h2⟩ := cEq_inv h
        by_cases e1_3 : x1 = 3
        · have h := h1 e1_3
          refine j_tabIn (pc := 1) 3 87 ok dX8_does_1 hR.1 e1_3 (by decide) rfl (by decide) ?_
          exact hk1 () h
        · have h := h2 e1_3
          obtain ⟨hR, h1, h2⟩ := cEq_inv h
          by_cases e1_4 : x1 = 4
          · have h := h1 e1_4
            refine j_tabIn (pc := 1) 4 87 ok dX8_does_1 hR.1 e1_4 (by decide) rfl (by decide) ?_
            exact hk1 () h
          · have h := h2 e1_4
            obtain ⟨hR, h1, h2⟩ := cEq_inv h
            by_cases e1_5 : x1 = 5
            · have h := h1 e1_5
              refine j_tabIn (pc := 1) 5 113 ok dX8_does_1 hR.1 e1_5 (by decide) rfl (by decide) ?_
              refine j_iload_n (pc := 113) 2 ok dX8_does_113 rfl rfl ?_
              refine jn_use (P := fun z12 => q_J D κ 4 0 0 [(a0, .inr (8, [.int (iI a0_refusal), .ref a0_text, .int (iI a0_textSize), .ref a0_now, .ref a0_trial, .ref a0_diary, .int (iI a0_acts), .ref a0_kept, .ref a0_isKept, .ref a0_clip, .ref a0_line, .int (iI a0_lineSize), .ref a0_read, .int (iI a0_readSize), .ref a0_opens, .ref a0_chains, .ref a0_factors, .ref a0_plains, .ref a0_belows, .ref a0_owned, .int (iI a0_deep), .ref a0_wides, .ref a0_highs, .ref a0_lows, .ref a0_itemWides, .ref a0_pile])), (a0_highs, .inl (cs.1, 512, .inl (aI a0_highsF))), (a0_itemWides, .inl (cs.1, 512, .inl (aI a0_itemWidesF))), (a0_lows, .inl (cs.1, 512, .inl (aI a0_lowsF))), (a0_trial, .inl (cs.1, 184, .inl (aI z12.1))), (a0_wides, .inl (cs.1, 512, .inl (aI a0_widesF)))] [] 136 [.int (iI z12.2)]) h (fun z12 h => ?_) (fun k9 hk9 h => ?_)
              · obtain ⟨hbo, h⟩ := gB_inv h
                obtain rfl := Option.some.inj h
                exact fin _ 136 hbo dX8_does_136
              · refine jn_use (P := fun z11 => q_J D κ 4 0 0 [(a0, .inr (8, [.int (iI a0_refusal), .ref a0_text, .int (iI a0_textSize), .ref a0_now, .ref a0_trial, .ref a0_diary, .int (iI a0_acts), .ref a0_kept, .ref a0_isKept, .ref a0_clip, .ref a0_line, .int (iI a0_lineSize), .ref a0_read, .int (iI a0_readSize), .ref a0_opens, .ref a0_chains, .ref a0_factors, .ref a0_plains, .ref a0_belows, .ref a0_owned, .int (iI a0_deep), .ref a0_wides, .ref a0_highs, .ref a0_lows, .ref a0_itemWides, .ref a0_pile])), (a0_highs, .inl (cs.1, 512, .inl (aI a0_highsF))), (a0_itemWides, .inl (cs.1, 512, .inl (aI a0_itemWidesF))), (a0_lows, .inl (cs.1, 512, .inl (aI a0_lowsF))), (a0_trial, .inl (cs.1, 184, .inl (aI z11))), (a0_wides, .inl (cs.1, 512, .inl (aI a0_widesF)))] [] 135 []) h (fun z11 h => ?_) (fun k8 hk8 h => ?_)
                · refine j_iconst (pc := 135) ok dX8_does_135 ?_
                  exact hk9 (z11, 0) h
                · refine j_if_ne (pc := 114) 135 ok dX8_does_114 (by decide) h (fun h => ?_) (fun h => ?_)
                  · refine j_lv [] rfl ?_
                    exact hk8 a0_trialF h
                  · refine j_iload_n (pc := 117) 3 ok dX8_does_117 rfl rfl ?_
                    refine j_if_ne (pc := 118) 135 ok dX8_does_118 (by decide) h (fun h => ?_) (fun h => ?_)
                    · refine j_lv [] rfl ?_
                      exact hk8 a0_trialF h
                    · refine j_aload_n (pc := 121) 0 ok dX8_does_121 rfl rfl ?_
                      refine gf_X8_16_8 (pc := 122) 0 ok rfl dX8_does_122 ?_
                      obtain ⟨r10, hr10, h⟩ := bd_inv h
                      refine j_callS (pc := 125) ok (k_X8_backs (a0 := a0_trial) (a0N := 184) (a0F := a0_trialF) hr10) gS_X8_243 hd_X8_backs [4] (by decide) rfl rfl rfl rfl ⟨Nat.zero_le _, Nat.zero_le _⟩ (Nat.le_of_ble_eq_true rfl) dX8_does_125 rfl [(a0, .inr (8, [.int (iI a0_refusal), .ref a0_text, .int (iI a0_textSize), .ref a0_now, .ref a0_trial, .ref a0_diary, .int (iI a0_acts), .ref a0_kept, .ref a0_isKept, .ref a0_clip, .ref a0_line, .int (iI a0_lineSize), .ref a0_read, .int (iI a0_readSize), .ref a0_opens, .ref a0_chains, .ref a0_factors, .ref a0_plains, .ref a0_belows, .ref a0_owned, .int (iI a0_deep), .ref a0_wides, .ref a0_highs, .ref a0_lows, .ref a0_itemWides, .ref a0_pile])), (a0_highs, .inl (cs.1, 512, .inl (aI a0_highsF))), (a0_itemWides, .inl (cs.1, 512, .inl (aI a0_itemWidesF))), (a0_lows, .inl (cs.1, 512, .inl (aI a0_lowsF))), (a0_trial, .inl (cs.1, 184, .inl (aI r10.2))), (a0_wides, .inl (cs.1, 512, .inl (aI a0_widesF)))] rfl ?_
                      refine j_if_eq (pc := 128) 135 ok dX8_does_128 (by decide) h (fun h => ?_) (fun h => ?_)
                      · refine j_lv [] rfl ?_
                        exact hk8 r10.2 h
                      · refine j_iconst (pc := 131) ok dX8_does_131 ?_
                        refine j_goto (pc := 132) 136 ok dX8_does_132 (by decide) ?_
                        refine j_lv [] rfl ?_
                        exact hk9 (r10.2, 1) h
            · have h := h2 e1_5
              obtain ⟨hR, h1, h2⟩ := cEq_inv h
              by_cases e1_6 : x1 = 6
              · have h := h1 e1_6
                refine j_tabIn (pc := 1) 6 137 ok dX8_does_1 hR.1 e1_6 (by decide) rfl (by decide) ?_
                refine j_iload_n (pc := 137) 2 ok dX8_does_137 rfl rfl ?_
                refine jn_use (P := fun z17 => q_J D κ 4 0 0 [(a0, .inr (8, [.int (iI a0_refusal), .ref a0_text, .int (iI a0_textSize), .ref a0_now, .ref a0_trial, .ref a0_diary, .int (iI a0_acts), .ref a0_kept, .ref a0_isKept, .ref a0_clip, .ref a0_line, .int (iI a0_lineSize), .ref a0_read, .int (iI a0_readSize), .ref a0_opens, .ref a0_chains, .ref a0_factors, .ref a0_plains, .ref a0_belows, .ref a0_owned, .int (iI a0_deep), .ref a0_wides, .ref a0_highs, .ref a0_lows, .ref a0_itemWides, .ref a0_pile])), (a0_highs, .inl (cs.1, 512, .inl (aI a0_highsF))), (a0_itemWides, .inl (cs.1, 512, .inl (aI a0_itemWidesF))), (a0_lows, .inl (cs.1, 512, .inl (aI a0_lowsF))), (a0_trial, .inl (cs.1, 184, .inl (aI z17.1))), (a0_wides, .inl (cs.1, 512, .inl (aI a0_widesF)))] [] 160 [.int (iI z17.2)]) h (fun z17 h => ?_) (fun k14 hk14 h => ?_)
                · obtain ⟨hbo, h⟩ := gB_inv h
                  obtain rfl := Option.some.inj h
                  exact fin _ 160 hbo dX8_does_160
                · refine jn_use (P := fun z16 => q_J D κ 4 0 0 [(a0, .inr (8, [.int (iI a0_refusal), .ref a0_text, .int (iI a0_textSize), .ref a0_now, .ref a0_trial, .ref a0_diary, .int (iI a0_acts), .ref a0_kept, .ref a0_isKept, .ref a0_clip, .ref a0_line, .int (iI a0_lineSize), .ref a0_read, .int (iI a0_readSize), .ref a0_opens, .ref a0_chains, .ref a0_factors, .ref a0_plains, .ref a0_belows, .ref a0_owned, .int (iI a0_deep), .ref a0_wides, .ref a0_highs, .ref a0_lows, .ref a0_itemWides, .ref a0_pile])), (a0_highs, .inl (cs.1, 512, .inl (aI a0_highsF))), (a0_itemWides, .inl (cs.1, 512, .inl (aI a0_itemWidesF))), (a0_lows, .inl (cs.1, 512, .inl (aI a0_lowsF))), (a0_trial, .inl (cs.1, 184, .inl (aI z16))), (a0_wides, .inl (cs.1, 512, .inl (aI a0_widesF)))] [] 159 []) h (fun z16 h => ?_) (fun k13 hk13 h => ?_)
                  · refine j_iconst (pc := 159) ok dX8_does_159 ?_
                    exact hk14 (z16, 0) h
                  · refine j_if_ne (pc := 138) 159 ok dX8_does_138 (by decide) h (fun h => ?_) (fun h => ?_)
                    · refine j_lv [] rfl ?_
                      exact hk13 a0_trialF h
                    · refine j_iload_n (pc := 141) 3 ok dX8_does_141 rfl rfl ?_
                      refine j_if_ne (pc := 142) 159 ok dX8_does_142 (by decide) h (fun h => ?_) (fun h => ?_)
                      · refine j_lv [] rfl ?_
                        exact hk13 a0_trialF h
                      · refine j_aload_n (pc := 145) 0 ok dX8_does_145 rfl rfl ?_
                        refine gf_X8_16_8 (pc := 146) 0 ok rfl dX8_does_146 ?_
                        obtain ⟨r15, hr15, h⟩ := bd_inv h
                        refine j_callS (pc := 149) ok (k_X8_grows (a0 := a0_trial) (a0N := 184) (a0F := a0_trialF) hr15) gS_X8_222 hd_X8_grows [4] (by decide) rfl rfl rfl rfl ⟨Nat.zero_le _, Nat.zero_le _⟩ (Nat.le_of_ble_eq_true rfl) dX8_does_149 rfl [(a0, .inr (8, [.int (iI a0_refusal), .ref a0_text, .int (iI a0_textSize), .ref a0_now, .ref a0_trial, .ref a0_diary, .int (iI a0_acts), .ref a0_kept, .ref a0_isKept, .ref a0_clip, .ref a0_line, .int (iI a0_lineSize), .ref a0_read, .int (iI a0_readSize), .ref a0_opens, .ref a0_chains, .ref a0_factors, .ref a0_plains, .ref a0_belows, .ref a0_owned, .int (iI a0_deep), .ref a0_wides, .ref a0_highs, .ref a0_lows, .ref a0_itemWides, .ref a0_pile])), (a0_highs, .inl (cs.1, 512, .inl (aI a0_highsF))), (a0_itemWides, .inl (cs.1, 512, .inl (aI a0_itemWidesF))), (a0_lows, .inl (cs.1, 512, .inl (aI a0_lowsF))), (a0_trial, .inl (cs.1, 184, .inl (aI r15.2))), (a0_wides, .inl (cs.1, 512, .inl (aI a0_widesF)))] rfl ?_
                        refine j_if_eq (pc := 152) 159 ok dX8_does_152 (by decide) h (fun h => ?_) (fun h => ?_)
                        · refine j_lv [] rfl ?_
                          exact hk13 r15.2 h
                        · refine j_iconst (pc := 155) ok dX8_does_155 ?_
                          refine j_goto (pc := 156) 160 ok dX8_does_156 (by decide) ?_
                          refine j_lv [] rfl ?_
                          exact hk14 (r15.2, 1) h
              · have h := h2 e1_6
                obtain ⟨hR, h1, h2⟩ := cEq_inv h
                by_cases e1_7 : x1 = 7
                · have h := h1 e1_7
                  refine j_tabIn (pc := 1) 7 161 ok dX8_does_1 hR.1 e1_7 (by decide) rfl (by decide) ?_
                  refine j_iload_n (pc := 161) 2 ok dX8_does_161 rfl rfl ?_
                  refine jn_use (P := fun z22 => q_J D κ 4 0 0 [(a0, .inr (8, [.int (iI a0_refusal), .ref a0_text, .int (iI a0_textSize), .ref a0_now, .ref a0_trial, .ref a0_diary, .int (iI a0_acts), .ref a0_kept, .ref a0_isKept, .ref a0_clip, .ref a0_line, .int (iI a0_lineSize), .ref a0_read, .int (iI a0_readSize), .ref a0_opens, .ref a0_chains, .ref a0_factors, .ref a0_plains, .ref a0_belows, .ref a0_owned, .int (iI a0_deep), .ref a0_wides, .ref a0_highs, .ref a0_lows, .ref a0_itemWides, .ref a0_pile])), (a0_highs, .inl (cs.1, 512, .inl (aI a0_highsF))), (a0_itemWides, .inl (cs.1, 512, .inl (aI a0_itemWidesF))), (a0_lows, .inl (cs.1, 512, .inl (aI a0_lowsF))), (a0_trial, .inl (cs.1, 184, .inl (aI a0_trialF))), (a0_wides, .inl (cs.1, 512, .inl (aI a0_widesF)))] [] 190 [.int (iI z22)]) h (fun z22 h => ?_) (fun k19 hk19 h => ?_)
                  · obtain ⟨hbo, h⟩ := gB_inv h
                    obtain rfl := Option.some.inj h
                    exact fin _ 190 hbo dX8_does_190
                  · refine jn_use (P := fun z21 => q_J D κ 4 0 0 [(a0, .inr (8, [.int (iI a0_refusal), .ref a0_text, .int (iI a0_textSize), .ref a0_now, .ref a0_trial, .ref a0_diary, .int (iI a0_acts), .ref a0_kept, .ref a0_isKept, .ref a0_clip, .ref a0_line, .int (iI a0_lineSize), .ref a0_read, .int (iI a0_readSize), .ref a0_opens, .ref a0_chains, .ref a0_factors, .ref a0_plains, .ref a0_belows, .ref a0_owned, .int (iI a0_deep), .ref a0_wides, .ref a0_highs, .ref a0_lows, .ref a0_itemWides, .ref a0_pile])), (a0_highs, .inl (cs.1, 512, .inl (aI a0_highsF))), (a0_itemWides, .inl (cs.1, 512, .inl (aI a0_itemWidesF))), (a0_lows, .inl (cs.1, 512, .inl (aI a0_lowsF))), (a0_trial, .inl (cs.1, 184, .inl (aI a0_trialF))), (a0_wides, .inl (cs.1, 512, .inl (aI a0_widesF)))] [] 189 []) h (fun z21 h => ?_) (fun k18 hk18 h => ?_)
                    · refine j_iconst (pc := 189) ok dX8_does_189 ?_
                      exact hk19 0 h
                    · refine j_if_ne (pc := 162) 189 ok dX8_does_162 (by decide) h (fun h => ?_) (fun h => ?_)
                      · refine j_lv [] rfl ?_
                        exact hk18 () h
                      · refine j_aload_n (pc := 165) 0 ok dX8_does_165 rfl rfl ?_
                        refine gf_X8_16_8 (pc := 166) 0 ok rfl dX8_does_166 ?_
                        refine j_iconst (pc := 169) ok dX8_does_169 ?_
                        refine j_aload_n (pc := 170) 0 ok dX8_does_170 rfl rfl ?_
                        refine gf_X8_16_8 (pc := 171) 0 ok rfl dX8_does_171 ?_
                        refine j_sipush (pc := 174) ok dX8_does_174 (by decide) ?_
                        refine j_iald (pc := 177) 4 ok rfl dX8_does_177 h (fun h => ?_)
                        obtain ⟨r20, hr20, h⟩ := bd_inv h
                        refine j_callS (pc := 178) ok (k_X8_allIn (a0 := a0_trial) (a0N := 184) (a0F := a0_trialF) (x1 := 0) (x2 := a0_trialF (180 : Int).toNat) hr20) gS_X8_114 hd_X8_allIn [4] (by decide) rfl rfl rfl rfl ⟨Nat.zero_le _, Nat.zero_le _⟩ (Nat.le_of_ble_eq_true rfl) dX8_does_178 rfl [(a0, .inr (8, [.int (iI a0_refusal), .ref a0_text, .int (iI a0_textSize), .ref a0_now, .ref a0_trial, .ref a0_diary, .int (iI a0_acts), .ref a0_kept, .ref a0_isKept, .ref a0_clip, .ref a0_line, .int (iI a0_lineSize), .ref a0_read, .int (iI a0_readSize), .ref a0_opens, .ref a0_chains, .ref a0_factors, .ref a0_plains, .ref a0_belows, .ref a0_owned, .int (iI a0_deep), .ref a0_wides, .ref a0_highs, .ref a0_lows, .ref a0_itemWides, .ref a0_pile])), (a0_highs, .inl (cs.1, 512, .inl (aI a0_highsF))), (a0_itemWides, .inl (cs.1, 512, .inl (aI a0_itemWidesF))), (a0_lows, .inl (cs.1, 512, .inl (aI a0_lowsF))), (a0_trial, .inl (cs.1, 184, .inl (aI a0_trialF))), (a0_wides, .inl (cs.1, 512, .inl (aI a0_widesF)))] rfl ?_
                        refine j_iload_n (pc := 181) 3 ok dX8_does_181 rfl rfl ?_
                        refine j_icmp_ne (pc := 182) 189 ok dX8_does_182 (by decide) h (fun h => ?_) (fun h => ?_)
                        · refine j_lv [] rfl ?_
                          exact hk18 () h
                        · refine j_iconst (pc := 185) ok dX8_does_185 ?_
                          refine j_goto (pc := 186) 190 ok dX8_does_186 (by decide) ?_
                          refine j_lv [] rfl ?_
                          exact hk19 1 h
                · have h := h2 e1_7
                  obtain ⟨hR, h1, h2⟩ := cEq_inv h
                  by_cases e1_8 : x1 = 8
                  · have h := h1 e1_8
                    refine j_tabIn (pc := 1) 8 191 ok dX8_does_1 hR.1 e1_8 (by decide) rfl (by decide) ?_
                    refine j_iload_n (pc := 191) 2 ok dX8_does_191 rfl rfl ?_
                    refine jn_use (P := fun z26 => q_J D κ 4 0 0 [(a0, .inr (8, [.int (iI a0_refusal), .ref a0_text, .int (iI a0_textSize), .ref a0_now, .ref a0_trial, .ref a0_diary, .int (iI a0_acts), .ref a0_kept, .ref a0_isKept, .ref a0_clip, .ref a0_line, .int (iI a0_lineSize), .ref a0_read, .int (iI a0_readSize), .ref a0_opens, .ref a0_chains, .ref a0_factors, .ref a0_plains, .ref a0_belows, .ref a0_owned, .int (iI a0_deep), .ref a0_wides, .ref a0_highs, .ref a0_lows, .ref a0_itemWides, .ref a0_pile])), (a0_highs, .inl (cs.1, 512, .inl (aI a0_highsF))), (a0_itemWides, .inl (cs.1, 512, .inl (aI a0_itemWidesF))), (a0_lows, .inl (cs.1, 512, .inl (aI a0_lowsF))), (a0_trial, .inl (cs.1, 184, .inl (aI a0_trialF))), (a0_wides, .inl (cs.1, 512, .inl (aI a0_widesF)))] [] 212 [.int (iI z26)]) h (fun z26 h => ?_) (fun k24 hk24 h => ?_)
                    · obtain ⟨hbo, h⟩ := gB_inv h
                      obtain rfl := Option.some.inj h
                      exact fin _ 212 hbo dX8_does_212
                    · refine jn_use (P := fun z25 => q_J D κ 4 0 0 [(a0, .inr (8, [.int (iI a0_refusal), .ref a0_text, .int (iI a0_textSize), .ref a0_now, .ref a0_trial, .ref a0_diary, .int (iI a0_acts), .ref a0_kept, .ref a0_isKept, .ref a0_clip, .ref a0_line, .int (iI a0_lineSize), .ref a0_read, .int (iI a0_readSize), .ref a0_opens, .ref a0_chains, .ref a0_factors, .ref a0_plains, .ref a0_belows, .ref a0_owned, .int (iI a0_deep), .ref a0_wides, .ref a0_highs, .ref a0_lows, .ref a0_itemWides, .ref a0_pile])), (a0_highs, .inl (cs.1, 512, .inl (aI a0_highsF))), (a0_itemWides, .inl (cs.1, 512, .inl (aI a0_itemWidesF))), (a0_lows, .inl (cs.1, 512, .inl (aI a0_lowsF))), (a0_trial, .inl (cs.1, 184, .inl (aI a0_trialF))), (a0_wides, .inl (cs.1, 512, .inl (aI a0_widesF)))] [] 211 []) h (fun z25 h => ?_) (fun k23 hk23 h => ?_)
                      · refine j_iconst (pc := 211) ok dX8_does_211 ?_
                        exact hk24 0 h
                      · refine j_if_ne (pc := 192) 211 ok dX8_does_192 (by decide) h (fun h => ?_) (fun h => ?_)
                        · refine j_lv [] rfl ?_
                          exact hk23 () h
                        · refine j_aload_n (pc := 195) 0 ok dX8_does_195 rfl rfl ?_
                          refine gf_X8_16_8 (pc := 196) 0 ok rfl dX8_does_196 ?_
                          refine j_sipush (pc := 199) ok dX8_does_199 (by decide) ?_
                          refine j_iald (pc := 202) 4 ok rfl dX8_does_202 h (fun h => ?_)
                          refine j_iload_n (pc := 203) 3 ok dX8_does_203 rfl rfl ?_
                          refine j_icmp_ne (pc := 204) 211 ok dX8_does_204 (by decide) h (fun h => ?_) (fun h => ?_)
                          · refine j_lv [] rfl ?_
                            exact hk23 () h
                          · refine j_iconst (pc := 207) ok dX8_does_207 ?_
                            refine j_goto (pc := 208) 212 ok dX8_does_208 (by decide) ?_
                            refine j_lv [] rfl ?_
                            exact hk24 1 h
                  · have h := h2 e1_8
                    obtain ⟨hR, h1, h2⟩ := cEq_inv h
                    by_cases e1_9 : x1 = 9
                    · have h := h1 e1_9
                      refine j_tabIn (pc := 1) 9 213 ok dX8_does_1 hR.1 e1_9 (by decide) rfl (by decide) ?_
                      refine j_aload_n (pc := 213) 0 ok dX8_does_213 rfl rfl ?_
                      refine j_aload_n (pc := 214) 0 ok dX8_does_214 rfl rfl ?_
                      refine gf_X8_16_8 (pc := 215) 0 ok rfl dX8_does_215 ?_
                      obtain ⟨r27, hr27, h⟩ := bd_inv h
                      refine j_callV (pc := 218) ok (k_X8_layBoxes (a0 := a0) (a0_text := a0_text) (a0_now := a0_now) (a0_trial := a0_trial) (a0_diary := a0_diary) (a0_kept := a0_kept) (a0_isKept := a0_isKept) (a0_clip := a0_clip) (a0_line := a0_line) (a0_read := a0_read) (a0_opens := a0_opens) (a0_chains := a0_chains) (a0_factors := a0_factors) (a0_plains := a0_plains) (a0_belows := a0_belows) (a0_owned := a0_owned) (a0_wides := a0_wides) (a0_highs := a0_highs) (a0_lows := a0_lows) (a0_itemWides := a0_itemWides) (a0_pile := a0_pile) (a1 := a0_trial) (a1N := 184) (a0_refusal := a0_refusal) (a0_textSize := a0_textSize) (a0_acts := a0_acts) (a0_lineSize := a0_lineSize) (a0_readSize := a0_readSize) (a0_deep := a0_deep) (a0_highsF := a0_highsF) (a0_itemWidesF := a0_itemWidesF) (a0_lowsF := a0_lowsF) (a0_widesF := a0_widesF) (a1F := a0_trialF) hr27) gV_X8_249 ⟨rfl, hd_X8_layBoxes⟩ [0, 1, 2, 3, 5, 4] (by decide) rfl rfl 0 rfl rfl rfl rfl ⟨Nat.zero_le _, Nat.zero_le _⟩ (Nat.le_of_ble_eq_true rfl) dX8_does_218 rfl [(a0, .inr (8, [.int (iI a0_refusal), .ref a0_text, .int (iI a0_textSize), .ref a0_now, .ref a0_trial, .ref a0_diary, .int (iI a0_acts), .ref a0_kept, .ref a0_isKept, .ref a0_clip, .ref a0_line, .int (iI a0_lineSize), .ref a0_read, .int (iI a0_readSize), .ref a0_opens, .ref a0_chains, .ref a0_factors, .ref a0_plains, .ref a0_belows, .ref a0_owned, .int (iI a0_deep), .ref a0_wides, .ref a0_highs, .ref a0_lows, .ref a0_itemWides, .ref a0_pile])), (a0_highs, .inl (cs.1, 512, .inl (aI r27.1))), (a0_itemWides, .inl (cs.1, 512, .inl (aI r27.2.1))), (a0_lows, .inl (cs.1, 512, .inl (aI r27.2.2.1))), (a0_trial, .inl (cs.1, 184, .inl (aI a0_trialF))), (a0_wides, .inl (cs.1, 512, .inl (aI r27.2.2.2)))] rfl ?_
                      refine j_iload_n (pc := 221) 2 ok dX8_does_221 rfl rfl ?_
                      refine jn_use (P := fun z31 => q_J D κ 4 0 0 [(a0, .inr (8, [.int (iI a0_refusal), .ref a0_text, .int (iI a0_textSize), .ref a0_now, .ref a0_trial, .ref a0_diary, .int (iI a0_acts), .ref a0_kept, .ref a0_isKept, .ref a0_clip, .ref a0_line, .int (iI a0_lineSize), .ref a0_read, .int (iI a0_readSize), .ref a0_opens, .ref a0_chains, .ref a0_factors, .ref a0_plains, .ref a0_belows, .ref a0_owned, .int (iI a0_deep), .ref a0_wides, .ref a0_highs, .ref a0_lows, .ref a0_itemWides, .ref a0_pile])), (a0_highs, .inl (cs.1, 512, .inl (aI r27.1))), (a0_itemWides, .inl (cs.1, 512, .inl (aI r27.2.1))), (a0_lows, .inl (cs.1, 512, .inl (aI r27.2.2.1))), (a0_trial, .inl (cs.1, 184, .inl (aI a0_trialF))), (a0_wides, .inl (cs.1, 512, .inl (aI r27.2.2.2)))] [] 240 [.int (iI z31)]) h (fun z31 h => ?_) (fun k29 hk29 h => ?_)
                      · obtain ⟨hbo, h⟩ := gB_inv h
                        obtain rfl := Option.some.inj h
                        exact fin _ 240 hbo dX8_does_240
                      · refine jn_use (P := fun z30 => q_J D κ 4 0 0 [(a0, .inr (8, [.int (iI a0_refusal), .ref a0_text, .int (iI a0_textSize), .ref a0_now, .ref a0_trial, .ref a0_diary, .int (iI a0_acts), .ref a0_kept, .ref a0_isKept, .ref a0_clip, .ref a0_line, .int (iI a0_lineSize), .ref a0_read, .int (iI a0_readSize), .ref a0_opens, .ref a0_chains, .ref a0_factors, .ref a0_plains, .ref a0_belows, .ref a0_owned, .int (iI a0_deep), .ref a0_wides, .ref a0_highs, .ref a0_lows, .ref a0_itemWides, .ref a0_pile])), (a0_highs, .inl (cs.1, 512, .inl (aI r27.1))), (a0_itemWides, .inl (cs.1, 512, .inl (aI r27.2.1))), (a0_lows, .inl (cs.1, 512, .inl (aI r27.2.2.1))), (a0_trial, .inl (cs.1, 184, .inl (aI a0_trialF))), (a0_wides, .inl (cs.1, 512, .inl (aI r27.2.2.2)))] [] 239 []) h (fun z30 h => ?_) (fun k28 hk28 h => ?_)
                        · refine j_iconst (pc := 239) ok dX8_does_239 ?_
                          exact hk29 0 h
                        · refine j_if_ne (pc := 222) 239 ok dX8_does_222 (by decide) h (fun h => ?_) (fun h => ?_)
                          · refine j_lv [] rfl ?_
                            exact hk28 () h
                          · refine j_aload_n (pc := 225) 0 ok dX8_does_225 rfl rfl ?_
                            refine gf_X8_56_8 (pc := 226) 0 ok rfl dX8_does_226 ?_
                            refine j_iconst (pc := 229) ok dX8_does_229 ?_
                            refine j_iald (pc := 230) 5 ok rfl dX8_does_230 h (fun h => ?_)
                            refine j_iload_n (pc := 231) 3 ok dX8_does_231 rfl rfl ?_
                            refine j_icmp_ne (pc := 232) 239 ok dX8_does_232 (by decide) h (fun h => ?_) (fun h => ?_)
                            · refine j_lv [] rfl ?_
                              exact hk28 () h
                            · refine j_iconst (pc := 235) ok dX8_does_235 ?_
                              refine j_goto (pc := 236) 240 ok dX8_does_236 (by decide) ?_
                              refine j_lv [] rfl ?_
                              exact hk29 1 h
                    · have h := h2 e1_9
                      refine j_tabOut (pc := 1) 241 ok dX8_does_1 hR.1 (by omega) (by decide) ?_
                      refine j_iconst (pc := 241) ok dX8_does_241 ?_
                      obtain ⟨hbo, h⟩ := gB_inv h
                      obtain rfl := Option.some.inj h
                      exact fin _ 242 hbo dX8_does_242
def f_X8_tenTo_4 (y0 : Int) (e4_21 : Int × Int → Option (Int)) : Nat → Int → Int → Option (Int)
  | 0, _, _ => none
  | n + 1, y1, y3 => cLt y3 y0 (f_X8_tenTo_4 y0 e4_21 n (y1 * 10) (y3 + 1)) (e4_21 (y1, y3))
set_option maxRecDepth 100000 in
theorem l_X8_tenTo_4 {D : va_G} {cs : q_CS} {κ : q_X}  {y0 : Int} {r : (Int)} {e4_21 : Int × Int → Option (Int)} (ok : q_ok D cs κ cX8_tenTo 4 RX8 (q_rm 0 0)) (fin : ∀ (lv : List (Nat × Value)) (pc : Nat), decode cX8_tenTo pc = .ok (.lreturn, 1) → q_J D κ 4 0 0 [] lv pc [.long (iL r)]) (he4_21 : ∀ x : Int × Int, e4_21 x = some r → q_J D κ 4 0 0 [] [(1, .long (iL x.1))] 21 []) : ∀ (n : Nat) (y1 : Int) (y3 : Int), f_X8_tenTo_4 y0 e4_21 n y1 y3 = some r → q_J D κ 4 0 0 [] [(0, .int (iI y0)), (1, .long (iL y1)), (3, .int (iI y3))] 4 [] := by
  intro n
  induction n with
  | zero =>
    intro y1 y3 h
    exact absurd h (by unfold f_X8_tenTo_4; exact fun z => by cases z)
  | succ n ih =>
    intro y1 y3 h
    unfold f_X8_tenTo_4 at h
    refine j_iload_n (pc := 4) 2 ok dX8_tenTo_4 rfl rfl ?_
    refine j_iload_n (pc := 5) 0 ok dX8_tenTo_5 rfl rfl ?_
    refine j_icmp_ge (pc := 6) 21 ok dX8_tenTo_6 (by decide) h (fun h => ?_) (fun h => ?_)
    · refine j_lv [1] rfl ?_
      exact he4_21 (y1, y3) h
    · refine j_lload_n (pc := 9) 1 ok dX8_tenTo_9 rfl rfl ?_
      refine j_ldc2 (pc := 10) 10 ok dX8_tenTo_10 (q_in 1489 (by decide +kernel) (by decide +kernel)) ?_
      refine j_lmul (pc := 13) ok dX8_tenTo_13 ?_
      refine j_lstore_n (pc := 14) (lv' := [(1, .long (iL (y1 * 10))), (0, .int (iI y0)), (3, .int (iI y3))]) ok dX8_tenTo_14 rfl (by decide) rfl ?_
      refine j_iinc (pc := 15) (lv' := [(3, .int (iI (y3 + 1))), (1, .long (iL (y1 * 10))), (0, .int (iI y0))]) 2 ok dX8_tenTo_15 rfl (by decide) rfl ?_
      refine j_goto (pc := 18) 4 ok dX8_tenTo_18 (by decide) ?_
      refine j_lv [2, 1, 0] rfl ?_
      exact ih _ _ h
def f_X8_tenTo (x0 : Int) : Option (Int) := f_X8_tenTo_4 x0 (fun (z1 : Int × Int) => some z1.1) fuel 1 0
set_option maxRecDepth 100000 in
set_option maxHeartbeats 4000000 in
theorem k_X8_tenTo {D : va_G} {cs : q_CS} {x0 : Int} {r : (Int)} (h : f_X8_tenTo x0 = some r) : q_M D cs yX8_tenTo cX8_tenTo 4 (some .long) 0 0 [.int (iI x0)] [] (some (.long (iL r))) [] := by
  refine q_start_l [(0, .int (iI x0))] RX8 rfl (by decide +kernel) rfl (Nat.le_of_ble_eq_true rfl) (fun κ ok fin => ?_)
  unfold f_X8_tenTo at h
  refine j_lconst (pc := 0) 1 ok dX8_tenTo_0 (by decide) ?_
  refine j_lstore_n (pc := 1) (lv' := [(1, .long (iL 1)), (0, .int (iI x0))]) ok dX8_tenTo_1 rfl (by decide) rfl ?_
  refine j_iconst (pc := 2) ok dX8_tenTo_2 ?_
  refine j_istore_n (pc := 3) (lv' := [(3, .int (iI 0)), (1, .long (iL 1)), (0, .int (iI x0))]) ok dX8_tenTo_3 rfl (by decide) rfl ?_
  refine j_lv [2, 1, 0] rfl ?_
  refine l_X8_tenTo_4 ok fin (fun z1 h => ?_) fuel _ _ h
  · refine j_lload_n (pc := 21) 0 ok dX8_tenTo_21 rfl rfl ?_
    obtain rfl := Option.some.inj h
    exact fin _ 22 dX8_tenTo_22
def f_X8_runScript_58 (a0_nowF : (Nat → Int)) (y1 : Int) (y2 : Int) (e58_119 : Int × (Nat → Int) × (Nat → Int) × (Nat → Int) × (Nat → Int) × (Nat → Int) × Int → Option (Int × Int × (Nat → Int) × (Nat → Int) × (Nat → Int) × (Nat → Int) × (Nat → Int))) : Nat → Int → (Nat → Int) → (Nat → Int) → (Nat → Int) → (Nat → Int) → (Nat → Int) → Int → Option (Int × Int × (Nat → Int) × (Nat → Int) × (Nat → Int) × (Nat → Int) × (Nat → Int))
  | 0, _, _, _, _, _, _, _ => none
  | n + 1, a0_refusal, a0_highsF, a0_itemWidesF, a0_lowsF, a0_trialF, a0_widesF, y4 => cLt y4 y1 (bd (f_X8_tenTo (4 * ((y1 - 1) - y4))) (fun r10 => gL y2 (gL r10 (if r10 = 0 then none else (gL (y2.tdiv r10) (gL 10000 (if 10000 = 0 then none else (gR ((y2.tdiv r10).tmod 10000) (gR ((y2.tdiv r10).tmod 10000) (gR (((y2.tdiv r10).tmod 10000).tdiv 100) (gR ((y2.tdiv r10).tmod 10000) (bd (f_X8_does a0_highsF a0_itemWidesF a0_lowsF a0_trialF a0_widesF (((y2.tdiv r10).tmod 10000).tdiv 1000) ((((y2.tdiv r10).tmod 10000).tdiv 100).tmod 10) (((y2.tdiv r10).tmod 10000).tmod 100)) (fun r11 => cEq r11.1 0 (some (y4, a0_refusal, r11.2.1, r11.2.2.1, r11.2.2.2.1, r11.2.2.2.2.1, r11.2.2.2.2.2)) (f_X8_runScript_58 a0_nowF y1 y2 e58_119 n a0_refusal r11.2.1 r11.2.2.1 r11.2.2.2.1 r11.2.2.2.2.1 r11.2.2.2.2.2 (y4 + 1))))))))))))))) (e58_119 (a0_refusal, a0_highsF, a0_itemWidesF, a0_lowsF, a0_trialF, a0_widesF, y4))
set_option maxRecDepth 100000 in
theorem l_X8_runScript_58 {D : va_G} {cs : q_CS} {κ : q_X} {a0 a0_text a0_now a0_trial a0_diary a0_kept a0_isKept a0_clip a0_line a0_read a0_opens a0_chains a0_factors a0_plains a0_belows a0_owned a0_wides a0_highs a0_lows a0_itemWides a0_pile : Nat} {a0_textSize a0_acts a0_lineSize a0_readSize a0_deep : Int} {a0_nowF : (Nat → Int)} {y1 y2 : Int} {r : (Int × Int × (Nat → Int) × (Nat → Int) × (Nat → Int) × (Nat → Int) × (Nat → Int))} {e58_119 : Int × (Nat → Int) × (Nat → Int) × (Nat → Int) × (Nat → Int) × (Nat → Int) × Int → Option (Int × Int × (Nat → Int) × (Nat → Int) × (Nat → Int) × (Nat → Int) × (Nat → Int))} (ok : q_ok D cs κ cX8_runScript 6 RX8 (q_rm 6 139)) (fin : ∀ (lv : List (Nat × Value)) (pc : Nat), decode cX8_runScript pc = .ok (.ireturn, 1) → q_J D κ 6 0 0 [(a0, .inr (8, [.int (iI r.2.1), .ref a0_text, .int (iI a0_textSize), .ref a0_now, .ref a0_trial, .ref a0_diary, .int (iI a0_acts), .ref a0_kept, .ref a0_isKept, .ref a0_clip, .ref a0_line, .int (iI a0_lineSize), .ref a0_read, .int (iI a0_readSize), .ref a0_opens, .ref a0_chains, .ref a0_factors, .ref a0_plains, .ref a0_belows, .ref a0_owned, .int (iI a0_deep), .ref a0_wides, .ref a0_highs, .ref a0_lows, .ref a0_itemWides, .ref a0_pile])), (a0_highs, .inl (cs.1, 512, .inl (aI r.2.2.1))), (a0_itemWides, .inl (cs.1, 512, .inl (aI r.2.2.2.1))), (a0_lows, .inl (cs.1, 512, .inl (aI r.2.2.2.2.1))), (a0_now, .inl (cs.1, 184, .inl (aI a0_nowF))), (a0_trial, .inl (cs.1, 184, .inl (aI r.2.2.2.2.2.1))), (a0_wides, .inl (cs.1, 512, .inl (aI r.2.2.2.2.2.2)))] lv pc [.int (iI r.1)]) (he58_119 : ∀ x : Int × (Nat → Int) × (Nat → Int) × (Nat → Int) × (Nat → Int) × (Nat → Int) × Int, e58_119 x = some r → q_J D κ 6 0 0 [(a0, .inr (8, [.int (iI x.1), .ref a0_text, .int (iI a0_textSize), .ref a0_now, .ref a0_trial, .ref a0_diary, .int (iI a0_acts), .ref a0_kept, .ref a0_isKept, .ref a0_clip, .ref a0_line, .int (iI a0_lineSize), .ref a0_read, .int (iI a0_readSize), .ref a0_opens, .ref a0_chains, .ref a0_factors, .ref a0_plains, .ref a0_belows, .ref a0_owned, .int (iI a0_deep), .ref a0_wides, .ref a0_highs, .ref a0_lows, .ref a0_itemWides, .ref a0_pile])), (a0_highs, .inl (cs.1, 512, .inl (aI x.2.1))), (a0_itemWides, .inl (cs.1, 512, .inl (aI x.2.2.1))), (a0_lows, .inl (cs.1, 512, .inl (aI x.2.2.2.1))), (a0_now, .inl (cs.1, 184, .inl (aI a0_nowF))), (a0_trial, .inl (cs.1, 184, .inl (aI x.2.2.2.2.1))), (a0_wides, .inl (cs.1, 512, .inl (aI x.2.2.2.2.2.1)))] [] 119 []) : ∀ (n : Nat) (a0_refusal : Int) (a0_highsF : (Nat → Int)) (a0_itemWidesF : (Nat → Int)) (a0_lowsF : (Nat → Int)) (a0_trialF : (Nat → Int)) (a0_widesF : (Nat → Int)) (y4 : Int), f_X8_runScript_58 a0_nowF y1 y2 e58_119 n a0_refusal a0_highsF a0_itemWidesF a0_lowsF a0_trialF a0_widesF y4 = some r → q_J D κ 6 0 0 [(a0, .inr (8, [.int (iI a0_refusal), .ref a0_text, .int (iI a0_textSize), .ref a0_now, .ref a0_trial, .ref a0_diary, .int (iI a0_acts), .ref a0_kept, .ref a0_isKept, .ref a0_clip, .ref a0_line, .int (iI a0_lineSize), .ref a0_read, .int (iI a0_readSize), .ref a0_opens, .ref a0_chains, .ref a0_factors, .ref a0_plains, .ref a0_belows, .ref a0_owned, .int (iI a0_deep), .ref a0_wides, .ref a0_highs, .ref a0_lows, .ref a0_itemWides, .ref a0_pile])), (a0_highs, .inl (cs.1, 512, .inl (aI a0_highsF))), (a0_itemWides, .inl (cs.1, 512, .inl (aI a0_itemWidesF))), (a0_lows, .inl (cs.1, 512, .inl (aI a0_lowsF))), (a0_now, .inl (cs.1, 184, .inl (aI a0_nowF))), (a0_trial, .inl (cs.1, 184, .inl (aI a0_trialF))), (a0_wides, .inl (cs.1, 512, .inl (aI a0_widesF)))] [(0, .ref a0), (1, .int (iI y1)), (2, .long (iL y2)), (4, .int (iI y4))] 58 [] := by
  intro n
  induction n with
  | zero =>
    intro a0_refusal a0_highsF a0_itemWidesF a0_lowsF a0_trialF a0_widesF y4 h
    exact absurd h (by unfold f_X8_runScript_58; exact fun z => by cases z)
  | succ n ih =>
    intro a0_refusal a0_highsF a0_itemWidesF a0_lowsF a0_trialF a0_widesF y4 h
    unfold f_X8_runScript_58 at h
    refine j_iload (pc := 58) 3 ok dX8_runScript_58 rfl ?_
    refine j_iload_n (pc := 60) 1 ok dX8_runScript_60 rfl rfl ?_
    refine j_icmp_ge (pc := 61) 119 ok dX8_runScript_61 (by decide) h (fun h => ?_) (fun h => ?_)
    · refine j_lv [] rfl ?_
      exact he58_119 (a0_refusal, a0_highsF, a0_itemWidesF, a0_lowsF, a0_trialF, a0_widesF, y4) h
    · refine j_lload_n (pc := 64) 2 ok dX8_runScript_64 rfl rfl ?_
      refine j_iconst (pc := 65) ok dX8_runScript_65 ?_
      refine j_iload_n (pc := 66) 1 ok dX8_runScript_66 rfl rfl ?_
      refine j_iconst (pc := 67) ok dX8_runScript_67 ?_
      refine j_isub (pc := 68) ok dX8_runScript_68 ?_
      refine j_iload (pc := 69) 3 ok dX8_runScript_69 rfl ?_
      refine j_isub (pc := 71) ok dX8_runScript_71 ?_
      refine j_imul (pc := 72) ok dX8_runScript_72 ?_
      obtain ⟨r10, hr10, h⟩ := bd_inv h
      refine j_callS (pc := 73) ok (k_X8_tenTo (x0 := 4 * ((y1 - 1) - y4)) hr10) gS_X8_259 hd_X8_tenTo [] (by decide) rfl rfl rfl rfl ⟨Nat.zero_le _, Nat.zero_le _⟩ (Nat.le_of_ble_eq_true rfl) dX8_runScript_73 rfl [(a0, .inr (8, [.int (iI a0_refusal), .ref a0_text, .int (iI a0_textSize), .ref a0_now, .ref a0_trial, .ref a0_diary, .int (iI a0_acts), .ref a0_kept, .ref a0_isKept, .ref a0_clip, .ref a0_line, .int (iI a0_lineSize), .ref a0_read, .int (iI a0_readSize), .ref a0_opens, .ref a0_chains, .ref a0_factors, .ref a0_plains, .ref a0_belows, .ref a0_owned, .int (iI a0_deep), .ref a0_wides, .ref a0_highs, .ref a0_lows, .ref a0_itemWides, .ref a0_pile])), (a0_highs, .inl (cs.1, 512, .inl (aI a0_highsF))), (a0_itemWides, .inl (cs.1, 512, .inl (aI a0_itemWidesF))), (a0_lows, .inl (cs.1, 512, .inl (aI a0_lowsF))), (a0_now, .inl (cs.1, 184, .inl (aI a0_nowF))), (a0_trial, .inl (cs.1, 184, .inl (aI a0_trialF))), (a0_wides, .inl (cs.1, 512, .inl (aI a0_widesF)))] rfl ?_
      refine j_ldiv (pc := 76) ok dX8_runScript_76 h (fun _ h => ?_)
      refine j_ldc2 (pc := 77) 10000 ok dX8_runScript_77 (q_in 1490 (by decide +kernel) (by decide +kernel)) ?_
      refine j_lrem (pc := 80) ok dX8_runScript_80 h (fun _ h => ?_)
      refine j_l2i (pc := 81) ok dX8_runScript_81 ?_
      refine j_istore (pc := 82) (lv' := [(5, .int (iI ((y2.tdiv r10).tmod 10000))), (0, .ref a0), (1, .int (iI y1)), (2, .long (iL y2)), (4, .int (iI y4))]) ok dX8_runScript_82 (by decide) rfl ?_
      refine j_aload_n (pc := 84) 1 ok dX8_runScript_84 rfl rfl ?_
      refine j_iload (pc := 85) 0 ok dX8_runScript_85 rfl ?_
      refine j_sipush (pc := 87) ok dX8_runScript_87 (by decide) ?_
      refine j_idiv (pc := 90) ok dX8_runScript_90 (by decide) (by decide) h (fun h => ?_)
      refine j_iload (pc := 91) 0 ok dX8_runScript_91 rfl ?_
      refine j_bipush (pc := 93) ok dX8_runScript_93 (by decide) ?_
      refine j_idiv (pc := 95) ok dX8_runScript_95 (by decide) (by decide) h (fun h => ?_)
      refine j_bipush (pc := 96) ok dX8_runScript_96 (by decide) ?_
      refine j_irem (pc := 98) ok dX8_runScript_98 (by decide) (by decide) h (fun h => ?_)
      refine j_iload (pc := 99) 0 ok dX8_runScript_99 rfl ?_
      refine j_bipush (pc := 101) ok dX8_runScript_101 (by decide) ?_
      refine j_irem (pc := 103) ok dX8_runScript_103 (by decide) (by decide) h (fun h => ?_)
      obtain ⟨r11, hr11, h⟩ := bd_inv h
      refine j_callV (pc := 104) ok (k_X8_does (a0 := a0) (a0_text := a0_text) (a0_now := a0_now) (a0_trial := a0_trial) (a0_diary := a0_diary) (a0_kept := a0_kept) (a0_isKept := a0_isKept) (a0_clip := a0_clip) (a0_line := a0_line) (a0_read := a0_read) (a0_opens := a0_opens) (a0_chains := a0_chains) (a0_factors := a0_factors) (a0_plains := a0_plains) (a0_belows := a0_belows) (a0_owned := a0_owned) (a0_wides := a0_wides) (a0_highs := a0_highs) (a0_lows := a0_lows) (a0_itemWides := a0_itemWides) (a0_pile := a0_pile) (a0_refusal := a0_refusal) (a0_textSize := a0_textSize) (a0_acts := a0_acts) (a0_lineSize := a0_lineSize) (a0_readSize := a0_readSize) (a0_deep := a0_deep) (a0_highsF := a0_highsF) (a0_itemWidesF := a0_itemWidesF) (a0_lowsF := a0_lowsF) (a0_trialF := a0_trialF) (a0_widesF := a0_widesF) (x1 := ((y2.tdiv r10).tmod 10000).tdiv 1000) (x2 := (((y2.tdiv r10).tmod 10000).tdiv 100).tmod 10) (x3 := ((y2.tdiv r10).tmod 10000).tmod 100) hr11) gV_X8_265 ⟨rfl, hd_X8_does⟩ [0, 1, 2, 3, 5, 6] (by decide) rfl rfl 0 rfl rfl rfl rfl ⟨Nat.zero_le _, Nat.zero_le _⟩ (Nat.le_of_ble_eq_true rfl) dX8_runScript_104 rfl [(a0, .inr (8, [.int (iI a0_refusal), .ref a0_text, .int (iI a0_textSize), .ref a0_now, .ref a0_trial, .ref a0_diary, .int (iI a0_acts), .ref a0_kept, .ref a0_isKept, .ref a0_clip, .ref a0_line, .int (iI a0_lineSize), .ref a0_read, .int (iI a0_readSize), .ref a0_opens, .ref a0_chains, .ref a0_factors, .ref a0_plains, .ref a0_belows, .ref a0_owned, .int (iI a0_deep), .ref a0_wides, .ref a0_highs, .ref a0_lows, .ref a0_itemWides, .ref a0_pile])), (a0_highs, .inl (cs.1, 512, .inl (aI r11.2.1))), (a0_itemWides, .inl (cs.1, 512, .inl (aI r11.2.2.1))), (a0_lows, .inl (cs.1, 512, .inl (aI r11.2.2.2.1))), (a0_now, .inl (cs.1, 184, .inl (aI a0_nowF))), (a0_trial, .inl (cs.1, 184, .inl (aI r11.2.2.2.2.1))), (a0_wides, .inl (cs.1, 512, .inl (aI r11.2.2.2.2.2)))] rfl ?_
      refine j_if_ne (pc := 107) 113 ok dX8_runScript_107 (by decide) h (fun h => ?_) (fun h => ?_)
      · refine j_iinc (pc := 113) (lv' := [(4, .int (iI (y4 + 1))), (5, .int (iI ((y2.tdiv r10).tmod 10000))), (0, .ref a0), (1, .int (iI y1)), (2, .long (iL y2))]) 4 ok dX8_runScript_113 rfl (by decide) rfl ?_
        refine j_goto (pc := 116) 58 ok dX8_runScript_116 (by decide) ?_
        refine j_lv [2, 3, 4, 0] rfl ?_
        exact ih _ _ _ _ _ _ _ h
      · refine j_iload (pc := 110) 4 ok dX8_runScript_110 rfl ?_
        obtain rfl := Option.some.inj h
        exact fin _ 112 dX8_runScript_112
def f_X8_runScript (a0_refusal : Int) (a0_highsF : (Nat → Int)) (a0_itemWidesF : (Nat → Int)) (a0_lowsF : (Nat → Int)) (a0_nowF : (Nat → Int)) (a0_trialF : (Nat → Int)) (a0_widesF : (Nat → Int)) (x1 : Int) (x2 : Int) : Option (Int × Int × (Nat → Int) × (Nat → Int) × (Nat → Int) × (Nat → Int) × (Nat → Int)) := gR x1 (bd (f_X8_in x1 1 4) (fun r1 => jn (fun (z7 : Int) => bd (f_X8_refused a0_refusal z7) (fun r8 => cEq r8.1 0 (bd (f_X8_copyPage 184 184 a0_nowF a0_trialF 0 0) (fun r9 => f_X8_runScript_58 a0_nowF x1 x2 (fun (z12 : Int × (Nat → Int) × (Nat → Int) × (Nat → Int) × (Nat → Int) × (Nat → Int) × Int) => some ((-9), z12.1, z12.2.1, z12.2.2.1, z12.2.2.2.1, z12.2.2.2.2.1, z12.2.2.2.2.2.1)) fuel r8.2 a0_highsF a0_itemWidesF a0_lowsF r9 a0_widesF 0)) (some (0, r8.2, a0_highsF, a0_itemWidesF, a0_lowsF, a0_trialF, a0_widesF)))) (fun k3 => jn (fun (z6 : Unit) => k3 1) (fun k2 => cEq r1 0 (k2 ()) (bd (f_X8_tenTo (4 * x1)) (fun r4 => bd (f_X8_in x2 0 (r4 - 1)) (fun r5 => cEq r5 0 (k2 ()) (k3 0))))))))
set_option maxRecDepth 100000 in
set_option maxHeartbeats 4000000 in
theorem k_X8_runScript {D : va_G} {cs : q_CS} {a0 a0_text a0_now a0_trial a0_diary a0_kept a0_isKept a0_clip a0_line a0_read a0_opens a0_chains a0_factors a0_plains a0_belows a0_owned a0_wides a0_highs a0_lows a0_itemWides a0_pile : Nat} {a0_refusal a0_textSize a0_acts a0_lineSize a0_readSize a0_deep : Int} {a0_highsF a0_itemWidesF a0_lowsF a0_nowF a0_trialF a0_widesF : (Nat → Int)} {x1 x2 : Int} {r : (Int × Int × (Nat → Int) × (Nat → Int) × (Nat → Int) × (Nat → Int) × (Nat → Int))} (h : f_X8_runScript a0_refusal a0_highsF a0_itemWidesF a0_lowsF a0_nowF a0_trialF a0_widesF x1 x2 = some r) : q_M D cs yX8_runScript cX8_runScript 6 (some .int) 6 139 [.ref a0, .int (iI x1), .long (iL x2)] [(a0, .inr (8, [.int (iI a0_refusal), .ref a0_text, .int (iI a0_textSize), .ref a0_now, .ref a0_trial, .ref a0_diary, .int (iI a0_acts), .ref a0_kept, .ref a0_isKept, .ref a0_clip, .ref a0_line, .int (iI a0_lineSize), .ref a0_read, .int (iI a0_readSize), .ref a0_opens, .ref a0_chains, .ref a0_factors, .ref a0_plains, .ref a0_belows, .ref a0_owned, .int (iI a0_deep), .ref a0_wides, .ref a0_highs, .ref a0_lows, .ref a0_itemWides, .ref a0_pile])), (a0_highs, .inl (cs.1, 512, .inl (aI a0_highsF))), (a0_itemWides, .inl (cs.1, 512, .inl (aI a0_itemWidesF))), (a0_lows, .inl (cs.1, 512, .inl (aI a0_lowsF))), (a0_now, .inl (cs.1, 184, .inl (aI a0_nowF))), (a0_trial, .inl (cs.1, 184, .inl (aI a0_trialF))), (a0_wides, .inl (cs.1, 512, .inl (aI a0_widesF)))] (some (.int (iI r.1))) [(a0, .inr (8, [.int (iI r.2.1), .ref a0_text, .int (iI a0_textSize), .ref a0_now, .ref a0_trial, .ref a0_diary, .int (iI a0_acts), .ref a0_kept, .ref a0_isKept, .ref a0_clip, .ref a0_line, .int (iI a0_lineSize), .ref a0_read, .int (iI a0_readSize), .ref a0_opens, .ref a0_chains, .ref a0_factors, .ref a0_plains, .ref a0_belows, .ref a0_owned, .int (iI a0_deep), .ref a0_wides, .ref a0_highs, .ref a0_lows, .ref a0_itemWides, .ref a0_pile])), (a0_highs, .inl (cs.1, 512, .inl (aI r.2.2.1))), (a0_itemWides, .inl (cs.1, 512, .inl (aI r.2.2.2.1))), (a0_lows, .inl (cs.1, 512, .inl (aI r.2.2.2.2.1))), (a0_now, .inl (cs.1, 184, .inl (aI a0_nowF))), (a0_trial, .inl (cs.1, 184, .inl (aI r.2.2.2.2.2.1))), (a0_wides, .inl (cs.1, 512, .inl (aI r.2.2.2.2.2.2)))] := by
  refine q_start_i [(0, .ref a0), (1, .int (iI x1)), (2, .long (iL x2))] RX8 rfl (by decide +kernel) rfl (Nat.le_of_ble_eq_true rfl) rfl (fun κ ok fin => ?_)
  unfold f_X8_runScript at h
  refine j_aload_n (pc := 0) 0 ok dX8_runScript_0 rfl rfl ?_
  refine j_iload_n (pc := 1) 1 ok dX8_runScript_1 rfl rfl ?_
  refine j_i2l (pc := 2) ok dX8_runScript_2 h (fun h => ?_)
  refine j_lconst (pc := 3) 1 ok dX8_runScript_3 (by decide) ?_
  refine j_ldc2 (pc := 4) 4 ok dX8_runScript_4 (q_in 1485 (by decide +kernel) (by decide +kernel)) ?_
  obtain ⟨r1, hr1, h⟩ := bd_inv h
  refine j_callS (pc := 7) ok (k_X8_in (x0 := x1) (x1 := 1) (x2 := 4) hr1) gS_X8_79 hd_X8_in [] (by decide) rfl rfl rfl rfl ⟨Nat.zero_le _, Nat.zero_le _⟩ (Nat.le_of_ble_eq_true rfl) dX8_runScript_7 rfl [(a0, .inr (8, [.int (iI a0_refusal), .ref a0_text, .int (iI a0_textSize), .ref a0_now, .ref a0_trial, .ref a0_diary, .int (iI a0_acts), .ref a0_kept, .ref a0_isKept, .ref a0_clip, .ref a0_line, .int (iI a0_lineSize), .ref a0_read, .int (iI a0_readSize), .ref a0_opens, .ref a0_chains, .ref a0_factors, .ref a0_plains, .ref a0_belows, .ref a0_owned, .int (iI a0_deep), .ref a0_wides, .ref a0_highs, .ref a0_lows, .ref a0_itemWides, .ref a0_pile])), (a0_highs, .inl (cs.1, 512, .inl (aI a0_highsF))), (a0_itemWides, .inl (cs.1, 512, .inl (aI a0_itemWidesF))), (a0_lows, .inl (cs.1, 512, .inl (aI a0_lowsF))), (a0_now, .inl (cs.1, 184, .inl (aI a0_nowF))), (a0_trial, .inl (cs.1, 184, .inl (aI a0_trialF))), (a0_wides, .inl (cs.1, 512, .inl (aI a0_widesF)))] rfl ?_
  refine jn_use (P := fun z7 => q_J D κ 6 0 0 [(a0, .inr (8, [.int (iI a0_refusal), .ref a0_text, .int (iI a0_textSize), .ref a0_now, .ref a0_trial, .ref a0_diary, .int (iI a0_acts), .ref a0_kept, .ref a0_isKept, .ref a0_clip, .ref a0_line, .int (iI a0_lineSize), .ref a0_read, .int (iI a0_readSize), .ref a0_opens, .ref a0_chains, .ref a0_factors, .ref a0_plains, .ref a0_belows, .ref a0_owned, .int (iI a0_deep), .ref a0_wides, .ref a0_highs, .ref a0_lows, .ref a0_itemWides, .ref a0_pile])), (a0_highs, .inl (cs.1, 512, .inl (aI a0_highsF))), (a0_itemWides, .inl (cs.1, 512, .inl (aI a0_itemWidesF))), (a0_lows, .inl (cs.1, 512, .inl (aI a0_lowsF))), (a0_now, .inl (cs.1, 184, .inl (aI a0_nowF))), (a0_trial, .inl (cs.1, 184, .inl (aI a0_trialF))), (a0_wides, .inl (cs.1, 512, .inl (aI a0_widesF)))] [(0, .ref a0), (1, .int (iI x1)), (2, .long (iL x2))] 34 [.int (iI z7), .ref a0]) h (fun z7 h => ?_) (fun k3 hk3 h => ?_)
  · obtain ⟨r8, hr8, h⟩ := bd_inv h
    refine j_callV (pc := 34) ok (k_X8_refused (a0 := a0) (a0_text := a0_text) (a0_now := a0_now) (a0_trial := a0_trial) (a0_diary := a0_diary) (a0_kept := a0_kept) (a0_isKept := a0_isKept) (a0_clip := a0_clip) (a0_line := a0_line) (a0_read := a0_read) (a0_opens := a0_opens) (a0_chains := a0_chains) (a0_factors := a0_factors) (a0_plains := a0_plains) (a0_belows := a0_belows) (a0_owned := a0_owned) (a0_wides := a0_wides) (a0_highs := a0_highs) (a0_lows := a0_lows) (a0_itemWides := a0_itemWides) (a0_pile := a0_pile) (a0_refusal := a0_refusal) (a0_textSize := a0_textSize) (a0_acts := a0_acts) (a0_lineSize := a0_lineSize) (a0_readSize := a0_readSize) (a0_deep := a0_deep) (x1 := z7) hr8) gV_X8_150 ⟨rfl, hd_X8_refused⟩ [0] (by decide) rfl rfl 0 rfl rfl rfl rfl ⟨Nat.zero_le _, Nat.zero_le _⟩ (Nat.le_of_ble_eq_true rfl) dX8_runScript_34 rfl [(a0, .inr (8, [.int (iI r8.2), .ref a0_text, .int (iI a0_textSize), .ref a0_now, .ref a0_trial, .ref a0_diary, .int (iI a0_acts), .ref a0_kept, .ref a0_isKept, .ref a0_clip, .ref a0_line, .int (iI a0_lineSize), .ref a0_read, .int (iI a0_readSize), .ref a0_opens, .ref a0_chains, .ref a0_factors, .ref a0_plains, .ref a0_belows, .ref a0_owned, .int (iI a0_deep), .ref a0_wides, .ref a0_highs, .ref a0_lows, .ref a0_itemWides, .ref a0_pile])), (a0_highs, .inl (cs.1, 512, .inl (aI a0_highsF))), (a0_itemWides, .inl (cs.1, 512, .inl (aI a0_itemWidesF))), (a0_lows, .inl (cs.1, 512, .inl (aI a0_lowsF))), (a0_now, .inl (cs.1, 184, .inl (aI a0_nowF))), (a0_trial, .inl (cs.1, 184, .inl (aI a0_trialF))), (a0_wides, .inl (cs.1, 512, .inl (aI a0_widesF)))] rfl ?_
    refine j_if_eq (pc := 37) 42 ok dX8_runScript_37 (by decide) h (fun h => ?_) (fun h => ?_)
    · refine j_aload_n (pc := 42) 0 ok dX8_runScript_42 rfl rfl ?_
      refine gf_X8_13_8 (pc := 43) 0 ok rfl dX8_runScript_43 ?_
      refine j_iconst (pc := 46) ok dX8_runScript_46 ?_
      refine j_aload_n (pc := 47) 0 ok dX8_runScript_47 rfl rfl ?_
      refine gf_X8_16_8 (pc := 48) 0 ok rfl dX8_runScript_48 ?_
      refine j_iconst (pc := 51) ok dX8_runScript_51 ?_
      obtain ⟨r9, hr9, h⟩ := bd_inv h
      refine j_callS (pc := 52) ok (k_X8_copyPage (a0 := a0_now) (a0N := 184) (a2 := a0_trial) (a2N := 184) (a0F := a0_nowF) (a2F := a0_trialF) (x1 := 0) (x3 := 0) hr9) gS_X8_226 hd_X8_copyPage [4, 5] (by decide) rfl rfl rfl rfl ⟨Nat.zero_le _, Nat.zero_le _⟩ (Nat.le_of_ble_eq_true rfl) dX8_runScript_52 rfl [(a0, .inr (8, [.int (iI r8.2), .ref a0_text, .int (iI a0_textSize), .ref a0_now, .ref a0_trial, .ref a0_diary, .int (iI a0_acts), .ref a0_kept, .ref a0_isKept, .ref a0_clip, .ref a0_line, .int (iI a0_lineSize), .ref a0_read, .int (iI a0_readSize), .ref a0_opens, .ref a0_chains, .ref a0_factors, .ref a0_plains, .ref a0_belows, .ref a0_owned, .int (iI a0_deep), .ref a0_wides, .ref a0_highs, .ref a0_lows, .ref a0_itemWides, .ref a0_pile])), (a0_highs, .inl (cs.1, 512, .inl (aI a0_highsF))), (a0_itemWides, .inl (cs.1, 512, .inl (aI a0_itemWidesF))), (a0_lows, .inl (cs.1, 512, .inl (aI a0_lowsF))), (a0_now, .inl (cs.1, 184, .inl (aI a0_nowF))), (a0_trial, .inl (cs.1, 184, .inl (aI r9))), (a0_wides, .inl (cs.1, 512, .inl (aI a0_widesF)))] rfl ?_
      refine j_iconst (pc := 55) ok dX8_runScript_55 ?_
      refine j_istore (pc := 56) (lv' := [(4, .int (iI 0)), (0, .ref a0), (1, .int (iI x1)), (2, .long (iL x2))]) ok dX8_runScript_56 (by decide) rfl ?_
      refine j_lv [1, 2, 3, 0] rfl ?_
      refine l_X8_runScript_58 ok fin (fun z12 h => ?_) fuel _ _ _ _ _ _ _ h
      · refine j_bipush (pc := 119) ok dX8_runScript_119 (by decide) ?_
        obtain rfl := Option.some.inj h
        exact fin _ 121 dX8_runScript_121
    · refine j_iconst (pc := 40) ok dX8_runScript_40 ?_
      obtain rfl := Option.some.inj h
      exact fin _ 41 dX8_runScript_41
  · refine jn_use (P := fun z6 => q_J D κ 6 0 0 [(a0, .inr (8, [.int (iI a0_refusal), .ref a0_text, .int (iI a0_textSize), .ref a0_now, .ref a0_trial, .ref a0_diary, .int (iI a0_acts), .ref a0_kept, .ref a0_isKept, .ref a0_clip, .ref a0_line, .int (iI a0_lineSize), .ref a0_read, .int (iI a0_readSize), .ref a0_opens, .ref a0_chains, .ref a0_factors, .ref a0_plains, .ref a0_belows, .ref a0_owned, .int (iI a0_deep), .ref a0_wides, .ref a0_highs, .ref a0_lows, .ref a0_itemWides, .ref a0_pile])), (a0_highs, .inl (cs.1, 512, .inl (aI a0_highsF))), (a0_itemWides, .inl (cs.1, 512, .inl (aI a0_itemWidesF))), (a0_lows, .inl (cs.1, 512, .inl (aI a0_lowsF))), (a0_now, .inl (cs.1, 184, .inl (aI a0_nowF))), (a0_trial, .inl (cs.1, 184, .inl (aI a0_trialF))), (a0_wides, .inl (cs.1, 512, .inl (aI a0_widesF)))] [(0, .ref a0), (1, .int (iI x1)), (2, .long (iL x2))] 33 [.ref a0]) h (fun z6 h => ?_) (fun k2 hk2 h => ?_)
    · refine j_iconst (pc := 33) ok dX8_runScript_33 ?_
      exact hk3 1 h
    · refine j_if_eq (pc := 10) 33 ok dX8_runScript_10 (by decide) h (fun h => ?_) (fun h => ?_)
      · exact hk2 () h
      · refine j_lload_n (pc := 13) 2 ok dX8_runScript_13 rfl rfl ?_
        refine j_lconst (pc := 14) 0 ok dX8_runScript_14 (by decide) ?_
        refine j_iconst (pc := 15) ok dX8_runScript_15 ?_
        refine j_iload_n (pc := 16) 1 ok dX8_runScript_16 rfl rfl ?_
        refine j_imul (pc := 17) ok dX8_runScript_17 ?_
        obtain ⟨r4, hr4, h⟩ := bd_inv h
        refine j_callS (pc := 18) ok (k_X8_tenTo (x0 := 4 * x1) hr4) gS_X8_259 hd_X8_tenTo [] (by decide) rfl rfl rfl rfl ⟨Nat.zero_le _, Nat.zero_le _⟩ (Nat.le_of_ble_eq_true rfl) dX8_runScript_18 rfl [(a0, .inr (8, [.int (iI a0_refusal), .ref a0_text, .int (iI a0_textSize), .ref a0_now, .ref a0_trial, .ref a0_diary, .int (iI a0_acts), .ref a0_kept, .ref a0_isKept, .ref a0_clip, .ref a0_line, .int (iI a0_lineSize), .ref a0_read, .int (iI a0_readSize), .ref a0_opens, .ref a0_chains, .ref a0_factors, .ref a0_plains, .ref a0_belows, .ref a0_owned, .int (iI a0_deep), .ref a0_wides, .ref a0_highs, .ref a0_lows, .ref a0_itemWides, .ref a0_pile])), (a0_highs, .inl (cs.1, 512, .inl (aI a0_highsF))), (a0_itemWides, .inl (cs.1, 512, .inl (aI a0_itemWidesF))), (a0_lows, .inl (cs.1, 512, .inl (aI a0_lowsF))), (a0_now, .inl (cs.1, 184, .inl (aI a0_nowF))), (a0_trial, .inl (cs.1, 184, .inl (aI a0_trialF))), (a0_wides, .inl (cs.1, 512, .inl (aI a0_widesF)))] rfl ?_
        refine j_lconst (pc := 21) 1 ok dX8_runScript_21 (by decide) ?_
        refine j_lsub (pc := 22) ok dX8_runScript_22 ?_
        obtain ⟨r5, hr5, h⟩ := bd_inv h
        refine j_callS (pc := 23) ok (k_X8_in (x0 := x2) (x1 := 0) (x2 := r4 - 1) hr5) gS_X8_79 hd_X8_in [] (by decide) rfl rfl rfl rfl ⟨Nat.zero_le _, Nat.zero_le _⟩ (Nat.le_of_ble_eq_true rfl) dX8_runScript_23 rfl [(a0, .inr (8, [.int (iI a0_refusal), .ref a0_text, .int (iI a0_textSize), .ref a0_now, .ref a0_trial, .ref a0_diary, .int (iI a0_acts), .ref a0_kept, .ref a0_isKept, .ref a0_clip, .ref a0_line, .int (iI a0_lineSize), .ref a0_read, .int (iI a0_readSize), .ref a0_opens, .ref a0_chains, .ref a0_factors, .ref a0_plains, .ref a0_belows, .ref a0_owned, .int (iI a0_deep), .ref a0_wides, .ref a0_highs, .ref a0_lows, .ref a0_itemWides, .ref a0_pile])), (a0_highs, .inl (cs.1, 512, .inl (aI a0_highsF))), (a0_itemWides, .inl (cs.1, 512, .inl (aI a0_itemWidesF))), (a0_lows, .inl (cs.1, 512, .inl (aI a0_lowsF))), (a0_now, .inl (cs.1, 184, .inl (aI a0_nowF))), (a0_trial, .inl (cs.1, 184, .inl (aI a0_trialF))), (a0_wides, .inl (cs.1, 512, .inl (aI a0_widesF)))] rfl ?_
        refine j_if_eq (pc := 26) 33 ok dX8_runScript_26 (by decide) h (fun h => ?_) (fun h => ?_)
        · exact hk2 () h
        · refine j_iconst (pc := 29) ok dX8_runScript_29 ?_
          refine j_goto (pc := 30) 34 ok dX8_runScript_30 (by decide) ?_
          exact hk3 0 h
