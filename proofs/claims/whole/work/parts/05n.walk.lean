def f_X8_does (a0_highsF : (Nat → Int)) (a0_itemWidesF : (Nat → Int)) (a0_lowsF : (Nat → Int)) (a0_trialF : (Nat → Int)) (a0_widesF : (Nat → Int)) (x1 : Int) (x2 : Int) (x3 : Int) : Option (Int × (Nat → Int) × (Nat → Int) × (Nat → Int) × (Nat → Int) × (Nat → Int)) := jn (fun (z32 : Unit) => cEq x2 0 (jn (fun (z34 : Int) => bd (f_X8_moves 184 a0_trialF z34) (fun r35 => gB 1 (some (1, a0_highsF, a0_itemWidesF, a0_lowsF, r35, a0_widesF)))) (fun k33 => cEq x1 3 (k33 x3) (k33 (-x3)))) (gB 0 (some (0, a0_highsF, a0_itemWidesF, a0_lowsF, a0_trialF, a0_widesF)))) (fun k1 => cEq x1 1 (bd (f_X8_types 184 a0_trialF ((100 * x2) + x3)) (fun r2 => gB r2.1 (some (r2.1, a0_highsF, a0_itemWidesF, a0_lowsF, r2.2, a0_widesF)))) (cEq x1 2 (jn (fun (z7 : (Nat → Int) × Int) => gB z7.2 (some (z7.2, a0_highsF, a0_itemWidesF, a0_lowsF, z7.1, a0_widesF))) (fun k4 => jn (fun (z6 : (Nat → Int)) => k4 (z6, 0)) (fun k3 => cEq x2 0 (bd (f_X8_wraps 184 a0_trialF x3) (fun r5 => cEq r5.1 0 (k3 r5.2) (k4 (r5.2, 1)))) (k3 a0_trialF)))) (cEq x1 3 (k1 ()) (cEq x1 4 (k1 ()) (cEq x1 5 (jn (fun (z12 : (Nat → Int) × Int) => gB z12.2 (some (z12.2, a0_highsF, a0_itemWidesF, a0_lowsF, z12.1, a0_widesF))) (fun k9 => jn (fun (z11 : (Nat → Int)) => k9 (z11, 0)) (fun k8 => cEq x2 0 (cEq x3 0 (bd (f_X8_backs 184 a0_trialF) (fun r10 => cEq r10.1 0 (k8 r10.2) (k9 (r10.2, 1)))) (k8 a0_trialF)) (k8 a0_trialF)))) (cEq x1 6 (jn (fun (z17 : (Nat → Int) × Int) => gB z17.2 (some (z17.2, a0_highsF, a0_itemWidesF, a0_lowsF, z17.1, a0_widesF))) (fun k14 => jn (fun (z16 : (Nat → Int)) => k14 (z16, 0)) (fun k13 => cEq x2 0 (cEq x3 0 (bd (f_X8_grows 184 a0_trialF) (fun r15 => cEq r15.1 0 (k13 r15.2) (k14 (r15.2, 1)))) (k13 a0_trialF)) (k13 a0_trialF)))) (cEq x1 7 (jn (fun (z22 : Int) => gB z22 (some (z22, a0_highsF, a0_itemWidesF, a0_lowsF, a0_trialF, a0_widesF))) (fun k19 => jn (fun (z21 : Unit) => k19 0) (fun k18 => cEq x2 0 (gIn 180 184 (bd (f_X8_allIn 184 a0_trialF 0 (a0_trialF (180 : Int).toNat)) (fun r20 => cEq r20 x3 (k19 1) (k18 ())))) (k18 ())))) (cEq x1 8 (jn (fun (z26 : Int) => gB z26 (some (z26, a0_highsF, a0_itemWidesF, a0_lowsF, a0_trialF, a0_widesF))) (fun k24 => jn (fun (z25 : Unit) => k24 0) (fun k23 => cEq x2 0 (gIn 181 184 (cEq (a0_trialF (181 : Int).toNat) x3 (k24 1) (k23 ()))) (k23 ())))) (cEq x1 9 (bd (f_X8_layBoxes 184 a0_highsF a0_itemWidesF a0_lowsF a0_widesF a0_trialF) (fun r27 => jn (fun (z31 : Int) => gB z31 (some (z31, r27.1, r27.2.1, r27.2.2.1, a0_trialF, r27.2.2.2))) (fun k29 => jn (fun (z30 : Unit) => k29 0) (fun k28 => cEq x2 0 (gIn 0 512 (cEq (r27.2.2.2 (0 : Int).toNat) x3 (k29 1) (k28 ()))) (k28 ()))))) (gB 0 (some (0, a0_highsF, a0_itemWidesF, a0_lowsF, a0_trialF, a0_widesF))))))))))))
set_option maxRecDepth 100000 in
set_option maxHeartbeats 4000000 in
theorem k_X8_does {D : va_G} {cs : q_CS} {a0 a0_text a0_now a0_trial a0_diary a0_kept a0_isKept a0_clip a0_line a0_read a0_opens a0_chains a0_factors a0_plains a0_belows a0_owned a0_wides a0_highs a0_lows a0_itemWides a0_pile : Nat} {a0_refusal a0_textSize a0_acts a0_lineSize a0_readSize a0_deep : Int} {a0_highsF a0_itemWidesF a0_lowsF a0_trialF a0_widesF : Nat → Int} {x1 x2 x3 : Int} {r : (Int × (Nat → Int) × (Nat → Int) × (Nat → Int) × (Nat → Int) × (Nat → Int))} (h : f_X8_does a0_highsF a0_itemWidesF a0_lowsF a0_trialF a0_widesF x1 x2 x3 = some r) : q_M D cs yX8_does cX8_does 4 (some .boolean) 5 116 [.ref a0, .int (iI x1), .int (iI x2), .int (iI x3)] [(a0, .inr (8, [.int (iI a0_refusal), .ref a0_text, .int (iI a0_textSize), .ref a0_now, .ref a0_trial, .ref a0_diary, .int (iI a0_acts), .ref a0_kept, .ref a0_isKept, .ref a0_clip, .ref a0_line, .int (iI a0_lineSize), .ref a0_read, .int (iI a0_readSize), .ref a0_opens, .ref a0_chains, .ref a0_factors, .ref a0_plains, .ref a0_belows, .ref a0_owned, .int (iI a0_deep), .ref a0_wides, .ref a0_highs, .ref a0_lows, .ref a0_itemWides, .ref a0_pile])), (a0_highs, .inl (cs.1, 512, .inl (aI a0_highsF))), (a0_itemWides, .inl (cs.1, 512, .inl (aI a0_itemWidesF))), (a0_lows, .inl (cs.1, 512, .inl (aI a0_lowsF))), (a0_trial, .inl (cs.1, 184, .inl (aI a0_trialF))), (a0_wides, .inl (cs.1, 512, .inl (aI a0_widesF)))] (some (.int (iI r.1))) [(a0, .inr (8, [.int (iI a0_refusal), .ref a0_text, .int (iI a0_textSize), .ref a0_now, .ref a0_trial, .ref a0_diary, .int (iI a0_acts), .ref a0_kept, .ref a0_isKept, .ref a0_clip, .ref a0_line, .int (iI a0_lineSize), .ref a0_read, .int (iI a0_readSize), .ref a0_opens, .ref a0_chains, .ref a0_factors, .ref a0_plains, .ref a0_belows, .ref a0_owned, .int (iI a0_deep), .ref a0_wides, .ref a0_highs, .ref a0_lows, .ref a0_itemWides, .ref a0_pile])), (a0_highs, .inl (cs.1, 512, .inl (aI r.2.1))), (a0_itemWides, .inl (cs.1, 512, .inl (aI r.2.2.1))), (a0_lows, .inl (cs.1, 512, .inl (aI r.2.2.2.1))), (a0_trial, .inl (cs.1, 184, .inl (aI r.2.2.2.2.1))), (a0_wides, .inl (cs.1, 512, .inl (aI r.2.2.2.2.2)))] := by
  refine q_start_z [(0, .ref a0), (1, .int (iI x1)), (2, .int (iI x2)), (3, .int (iI x3))] RX8 rfl (by decide +kernel) rfl (Nat.le_of_ble_eq_true rfl) (fun κ ok fin => ?_)
  unfold f_X8_does at h
  refine j_iload_n (pc := 0) 1 ok dX8_does_0 rfl rfl ?_
  refine jn_use (P := fun z32 => q_J D κ 4 0 0 [(a0, .inr (8, [.int (iI a0_refusal), .ref a0_text, .int (iI a0_textSize), .ref a0_now, .ref a0_trial, .ref a0_diary, .int (iI a0_acts), .ref a0_kept, .ref a0_isKept, .ref a0_clip, .ref a0_line, .int (iI a0_lineSize), .ref a0_read, .int (iI a0_readSize), .ref a0_opens, .ref a0_chains, .ref a0_factors, .ref a0_plains, .ref a0_belows, .ref a0_owned, .int (iI a0_deep), .ref a0_wides, .ref a0_highs, .ref a0_lows, .ref a0_itemWides, .ref a0_pile])), (a0_highs, .inl (cs.1, 512, .inl (aI a0_highsF))), (a0_itemWides, .inl (cs.1, 512, .inl (aI a0_itemWidesF))), (a0_lows, .inl (cs.1, 512, .inl (aI a0_lowsF))), (a0_trial, .inl (cs.1, 184, .inl (aI a0_trialF))), (a0_wides, .inl (cs.1, 512, .inl (aI a0_widesF)))] [(0, .ref a0), (1, .int (iI x1)), (2, .int (iI x2)), (3, .int (iI x3))] 87 []) h (fun z32 h => ?_) (fun k1 hk1 h => ?_)
  · refine j_iload_n (pc := 87) 2 ok dX8_does_87 rfl rfl ?_
    refine j_if_eq (pc := 88) 93 ok dX8_does_88 (by decide) h (fun h => ?_) (fun h => ?_)
    · refine j_aload_n (pc := 93) 0 ok dX8_does_93 rfl rfl ?_
      refine gf_X8_16_8 (pc := 94) 0 ok rfl dX8_does_94 ?_
      refine j_iload_n (pc := 97) 1 ok dX8_does_97 rfl rfl ?_
      refine j_iconst (pc := 98) ok dX8_does_98 ?_
      refine jn_use (P := fun z34 => q_J D κ 4 0 0 [(a0, .inr (8, [.int (iI a0_refusal), .ref a0_text, .int (iI a0_textSize), .ref a0_now, .ref a0_trial, .ref a0_diary, .int (iI a0_acts), .ref a0_kept, .ref a0_isKept, .ref a0_clip, .ref a0_line, .int (iI a0_lineSize), .ref a0_read, .int (iI a0_readSize), .ref a0_opens, .ref a0_chains, .ref a0_factors, .ref a0_plains, .ref a0_belows, .ref a0_owned, .int (iI a0_deep), .ref a0_wides, .ref a0_highs, .ref a0_lows, .ref a0_itemWides, .ref a0_pile])), (a0_highs, .inl (cs.1, 512, .inl (aI a0_highsF))), (a0_itemWides, .inl (cs.1, 512, .inl (aI a0_itemWidesF))), (a0_lows, .inl (cs.1, 512, .inl (aI a0_lowsF))), (a0_trial, .inl (cs.1, 184, .inl (aI a0_trialF))), (a0_wides, .inl (cs.1, 512, .inl (aI a0_widesF)))] [] 108 [.int (iI z34), .ref a0_trial]) h (fun z34 h => ?_) (fun k33 hk33 h => ?_)
      · obtain ⟨r35, hr35, h⟩ := bd_inv h
        refine j_callS (pc := 108) ok (k_X8_moves (a0 := a0_trial) (a0N := 184) (a0F := a0_trialF) (x1 := z34) hr35) gS_X8_214 hd_X8_moves [4] (by decide) rfl rfl rfl rfl ⟨Nat.zero_le _, Nat.zero_le _⟩ (Nat.le_of_ble_eq_true rfl) dX8_does_108 rfl [(a0, .inr (8, [.int (iI a0_refusal), .ref a0_text, .int (iI a0_textSize), .ref a0_now, .ref a0_trial, .ref a0_diary, .int (iI a0_acts), .ref a0_kept, .ref a0_isKept, .ref a0_clip, .ref a0_line, .int (iI a0_lineSize), .ref a0_read, .int (iI a0_readSize), .ref a0_opens, .ref a0_chains, .ref a0_factors, .ref a0_plains, .ref a0_belows, .ref a0_owned, .int (iI a0_deep), .ref a0_wides, .ref a0_highs, .ref a0_lows, .ref a0_itemWides, .ref a0_pile])), (a0_highs, .inl (cs.1, 512, .inl (aI a0_highsF))), (a0_itemWides, .inl (cs.1, 512, .inl (aI a0_itemWidesF))), (a0_lows, .inl (cs.1, 512, .inl (aI a0_lowsF))), (a0_trial, .inl (cs.1, 184, .inl (aI r35))), (a0_wides, .inl (cs.1, 512, .inl (aI a0_widesF)))] rfl ?_
        refine j_iconst (pc := 111) ok dX8_does_111 ?_
        obtain ⟨hbo, h⟩ := gB_inv h
        obtain rfl := Option.some.inj h
        exact fin _ 112 hbo dX8_does_112
      · refine j_icmp_ne (pc := 99) 106 ok dX8_does_99 (by decide) h (fun h => ?_) (fun h => ?_)
        · refine j_iload_n (pc := 106) 3 ok dX8_does_106 rfl rfl ?_
          refine j_ineg (pc := 107) ok dX8_does_107 ?_
          refine j_lv [] rfl ?_
          exact hk33 (-x3) h
        · refine j_iload_n (pc := 102) 3 ok dX8_does_102 rfl rfl ?_
          refine j_goto (pc := 103) 108 ok dX8_does_103 (by decide) ?_
          refine j_lv [] rfl ?_
          exact hk33 x3 h
    · refine j_iconst (pc := 91) ok dX8_does_91 ?_
      obtain ⟨hbo, h⟩ := gB_inv h
      obtain rfl := Option.some.inj h
      exact fin _ 92 hbo dX8_does_92
  · obtain ⟨hR, h1, h2⟩ := cEq_inv h
    by_cases e1_1 : x1 = 1
    · have h := h1 e1_1
      refine j_tabIn (pc := 1) 1 52 ok dX8_does_1 hR.1 e1_1 (by decide) rfl (by decide) ?_
      refine j_aload_n (pc := 52) 0 ok dX8_does_52 rfl rfl ?_
      refine gf_X8_16_8 (pc := 53) 0 ok rfl dX8_does_53 ?_
      refine j_bipush (pc := 56) ok dX8_does_56 (by decide) ?_
      refine j_iload_n (pc := 58) 2 ok dX8_does_58 rfl rfl ?_
      refine j_imul (pc := 59) ok dX8_does_59 ?_
      refine j_iload_n (pc := 60) 3 ok dX8_does_60 rfl rfl ?_
      refine j_iadd (pc := 61) ok dX8_does_61 ?_
      obtain ⟨r2, hr2, h⟩ := bd_inv h
      refine j_callS (pc := 62) ok (k_X8_types (a0 := a0_trial) (a0N := 184) (a0F := a0_trialF) (x1 := (100 * x2) + x3) hr2) gS_X8_233 hd_X8_types [4] (by decide) rfl rfl rfl rfl ⟨Nat.zero_le _, Nat.zero_le _⟩ (Nat.le_of_ble_eq_true rfl) dX8_does_62 rfl [(a0, .inr (8, [.int (iI a0_refusal), .ref a0_text, .int (iI a0_textSize), .ref a0_now, .ref a0_trial, .ref a0_diary, .int (iI a0_acts), .ref a0_kept, .ref a0_isKept, .ref a0_clip, .ref a0_line, .int (iI a0_lineSize), .ref a0_read, .int (iI a0_readSize), .ref a0_opens, .ref a0_chains, .ref a0_factors, .ref a0_plains, .ref a0_belows, .ref a0_owned, .int (iI a0_deep), .ref a0_wides, .ref a0_highs, .ref a0_lows, .ref a0_itemWides, .ref a0_pile])), (a0_highs, .inl (cs.1, 512, .inl (aI a0_highsF))), (a0_itemWides, .inl (cs.1, 512, .inl (aI a0_itemWidesF))), (a0_lows, .inl (cs.1, 512, .inl (aI a0_lowsF))), (a0_trial, .inl (cs.1, 184, .inl (aI r2.2))), (a0_wides, .inl (cs.1, 512, .inl (aI a0_widesF)))] rfl ?_
      obtain ⟨hbo, h⟩ := gB_inv h
      obtain rfl := Option.some.inj h
      exact fin _ 65 hbo dX8_does_65
    · have h := h2 e1_1
      obtain ⟨hR, h1, h2⟩ := cEq_inv h
      by_cases e1_2 : x1 = 2
      · have h := h1 e1_2
        refine j_tabIn (pc := 1) 2 66 ok dX8_does_1 hR.1 e1_2 (by decide) rfl (by decide) ?_
        refine j_iload_n (pc := 66) 2 ok dX8_does_66 rfl rfl ?_
        refine jn_use (P := fun z7 => q_J D κ 4 0 0 [(a0, .inr (8, [.int (iI a0_refusal), .ref a0_text, .int (iI a0_textSize), .ref a0_now, .ref a0_trial, .ref a0_diary, .int (iI a0_acts), .ref a0_kept, .ref a0_isKept, .ref a0_clip, .ref a0_line, .int (iI a0_lineSize), .ref a0_read, .int (iI a0_readSize), .ref a0_opens, .ref a0_chains, .ref a0_factors, .ref a0_plains, .ref a0_belows, .ref a0_owned, .int (iI a0_deep), .ref a0_wides, .ref a0_highs, .ref a0_lows, .ref a0_itemWides, .ref a0_pile])), (a0_highs, .inl (cs.1, 512, .inl (aI a0_highsF))), (a0_itemWides, .inl (cs.1, 512, .inl (aI a0_itemWidesF))), (a0_lows, .inl (cs.1, 512, .inl (aI a0_lowsF))), (a0_trial, .inl (cs.1, 184, .inl (aI z7.1))), (a0_wides, .inl (cs.1, 512, .inl (aI a0_widesF)))] [] 86 [.int (iI z7.2)]) h (fun z7 h => ?_) (fun k4 hk4 h => ?_)
        · obtain ⟨hbo, h⟩ := gB_inv h
          obtain rfl := Option.some.inj h
          exact fin _ 86 hbo dX8_does_86
        · refine jn_use (P := fun z6 => q_J D κ 4 0 0 [(a0, .inr (8, [.int (iI a0_refusal), .ref a0_text, .int (iI a0_textSize), .ref a0_now, .ref a0_trial, .ref a0_diary, .int (iI a0_acts), .ref a0_kept, .ref a0_isKept, .ref a0_clip, .ref a0_line, .int (iI a0_lineSize), .ref a0_read, .int (iI a0_readSize), .ref a0_opens, .ref a0_chains, .ref a0_factors, .ref a0_plains, .ref a0_belows, .ref a0_owned, .int (iI a0_deep), .ref a0_wides, .ref a0_highs, .ref a0_lows, .ref a0_itemWides, .ref a0_pile])), (a0_highs, .inl (cs.1, 512, .inl (aI a0_highsF))), (a0_itemWides, .inl (cs.1, 512, .inl (aI a0_itemWidesF))), (a0_lows, .inl (cs.1, 512, .inl (aI a0_lowsF))), (a0_trial, .inl (cs.1, 184, .inl (aI z6))), (a0_wides, .inl (cs.1, 512, .inl (aI a0_widesF)))] [] 85 []) h (fun z6 h => ?_) (fun k3 hk3 h => ?_)
          · refine j_iconst (pc := 85) ok dX8_does_85 ?_
            exact hk4 (z6, 0) h
          · refine j_if_ne (pc := 67) 85 ok dX8_does_67 (by decide) h (fun h => ?_) (fun h => ?_)
            · refine j_lv [] rfl ?_
              exact hk3 a0_trialF h
            · refine j_aload_n (pc := 70) 0 ok dX8_does_70 rfl rfl ?_
              refine gf_X8_16_8 (pc := 71) 0 ok rfl dX8_does_71 ?_
              refine j_iload_n (pc := 74) 3 ok dX8_does_74 rfl rfl ?_
              obtain ⟨r5, hr5, h⟩ := bd_inv h
              refine j_callS (pc := 75) ok (k_X8_wraps (a0 := a0_trial) (a0N := 184) (a0F := a0_trialF) (x1 := x3) hr5) gS_X8_240 hd_X8_wraps [4] (by decide) rfl rfl rfl rfl ⟨Nat.zero_le _, Nat.zero_le _⟩ (Nat.le_of_ble_eq_true rfl) dX8_does_75 rfl [(a0, .inr (8, [.int (iI a0_refusal), .ref a0_text, .int (iI a0_textSize), .ref a0_now, .ref a0_trial, .ref a0_diary, .int (iI a0_acts), .ref a0_kept, .ref a0_isKept, .ref a0_clip, .ref a0_line, .int (iI a0_lineSize), .ref a0_read, .int (iI a0_readSize), .ref a0_opens, .ref a0_chains, .ref a0_factors, .ref a0_plains, .ref a0_belows, .ref a0_owned, .int (iI a0_deep), .ref a0_wides, .ref a0_highs, .ref a0_lows, .ref a0_itemWides, .ref a0_pile])), (a0_highs, .inl (cs.1, 512, .inl (aI a0_highsF))), (a0_itemWides, .inl (cs.1, 512, .inl (aI a0_itemWidesF))), (a0_lows, .inl (cs.1, 512, .inl (aI a0_lowsF))), (a0_trial, .inl (cs.1, 184, .inl (aI r5.2))), (a0_wides, .inl (cs.1, 512, .inl (aI a0_widesF)))] rfl ?_
              refine j_if_eq (pc := 78) 85 ok dX8_does_78 (by decide) h (fun h => ?_) (fun h => ?_)
              · refine j_lv [] rfl ?_
                exact hk3 r5.2 h
              · refine j_iconst (pc := 81) ok dX8_does_81 ?_
                refine j_goto (pc := 82) 86 ok dX8_does_82 (by decide) ?_
                refine j_lv [] rfl ?_
                exact hk4 (r5.2, 1) h
      · have h := h2 e1_2
        obtain ⟨hR, h1, h2⟩ := cEq_inv h
        by_cases e1_3 : x1 = 3
        · have h := h1 e1_3
          refine j_tabIn (pc := 1) 3 87 ok dX8_does_1 hR.1 e1_3 (by decide) rfl (by decide) ?_
          exact hk1 () h
        · have h := h2 e1_3
          obtain ⟨hR, h1, h2⟩ := cEq_inv h
          by_cases e1_4 : x1 = 4
          · have h := h1 e1_4
            refine j_tabIn (pc := 1) 4 87 ok dX8_does_1 hR.1 e1_4 (by decide) rfl (by decide) ?_
            exact hk1 () h
          · have h := h2 e1_4
            obtain ⟨hR, h1, h2⟩ := cEq_inv h
            by_cases e1_5 : x1 = 5
            · have h := h1 e1_5
              refine j_tabIn (pc := 1) 5 113 ok dX8_does_1 hR.1 e1_5 (by decide) rfl (by decide) ?_
              refine j_iload_n (pc := 113) 2 ok dX8_does_113 rfl rfl ?_
              refine jn_use (P := fun z12 => q_J D κ 4 0 0 [(a0, .inr (8, [.int (iI a0_refusal), .ref a0_text, .int (iI a0_textSize), .ref a0_now, .ref a0_trial, .ref a0_diary, .int (iI a0_acts), .ref a0_kept, .ref a0_isKept, .ref a0_clip, .ref a0_line, .int (iI a0_lineSize), .ref a0_read, .int (iI a0_readSize), .ref a0_opens, .ref a0_chains, .ref a0_factors, .ref a0_plains, .ref a0_belows, .ref a0_owned, .int (iI a0_deep), .ref a0_wides, .ref a0_highs, .ref a0_lows, .ref a0_itemWides, .ref a0_pile])), (a0_highs, .inl (cs.1, 512, .inl (aI a0_highsF))), (a0_itemWides, .inl (cs.1, 512, .inl (aI a0_itemWidesF))), (a0_lows, .inl (cs.1, 512, .inl (aI a0_lowsF))), (a0_trial, .inl (cs.1, 184, .inl (aI z12.1))), (a0_wides, .inl (cs.1, 512, .inl (aI a0_widesF)))] [] 136 [.int (iI z12.2)]) h (fun z12 h => ?_) (fun k9 hk9 h => ?_)
              · obtain ⟨hbo, h⟩ := gB_inv h
                obtain rfl := Option.some.inj h
                exact fin _ 136 hbo dX8_does_136
              · refine jn_use (P := fun z11 => q_J D κ 4 0 0 [(a0, .inr (8, [.int (iI a0_refusal), .ref a0_text, .int (iI a0_textSize), .ref a0_now, .ref a0_trial, .ref a0_diary, .int (iI a0_acts), .ref a0_kept, .ref a0_isKept, .ref a0_clip, .ref a0_line, .int (iI a0_lineSize), .ref a0_read, .int (iI a0_readSize), .ref a0_opens, .ref a0_chains, .ref a0_factors, .ref a0_plains, .ref a0_belows, .ref a0_owned, .int (iI a0_deep), .ref a0_wides, .ref a0_highs, .ref a0_lows, .ref a0_itemWides, .ref a0_pile])), (a0_highs, .inl (cs.1, 512, .inl (aI a0_highsF))), (a0_itemWides, .inl (cs.1, 512, .inl (aI a0_itemWidesF))), (a0_lows, .inl (cs.1, 512, .inl (aI a0_lowsF))), (a0_trial, .inl (cs.1, 184, .inl (aI z11))), (a0_wides, .inl (cs.1, 512, .inl (aI a0_widesF)))] [] 135 []) h (fun z11 h => ?_) (fun k8 hk8 h => ?_)
                · refine j_iconst (pc := 135) ok dX8_does_135 ?_
                  exact hk9 (z11, 0) h
                · refine j_if_ne (pc := 114) 135 ok dX8_does_114 (by decide) h (fun h => ?_) (fun h => ?_)
                  · refine j_lv [] rfl ?_
                    exact hk8 a0_trialF h
                  · refine j_iload_n (pc := 117) 3 ok dX8_does_117 rfl rfl ?_
                    refine j_if_ne (pc := 118) 135 ok dX8_does_118 (by decide) h (fun h => ?_) (fun h => ?_)
                    · refine j_lv [] rfl ?_
                      exact hk8 a0_trialF h
                    · refine j_aload_n (pc := 121) 0 ok dX8_does_121 rfl rfl ?_
                      refine gf_X8_16_8 (pc := 122) 0 ok rfl dX8_does_122 ?_
                      obtain ⟨r10, hr10, h⟩ := bd_inv h
                      refine j_callS (pc := 125) ok (k_X8_backs (a0 := a0_trial) (a0N := 184) (a0F := a0_trialF) hr10) gS_X8_243 hd_X8_backs [4] (by decide) rfl rfl rfl rfl ⟨Nat.zero_le _, Nat.zero_le _⟩ (Nat.le_of_ble_eq_true rfl) dX8_does_125 rfl [(a0, .inr (8, [.int (iI a0_refusal), .ref a0_text, .int (iI a0_textSize), .ref a0_now, .ref a0_trial, .ref a0_diary, .int (iI a0_acts), .ref a0_kept, .ref a0_isKept, .ref a0_clip, .ref a0_line, .int (iI a0_lineSize), .ref a0_read, .int (iI a0_readSize), .ref a0_opens, .ref a0_chains, .ref a0_factors, .ref a0_plains, .ref a0_belows, .ref a0_owned, .int (iI a0_deep), .ref a0_wides, .ref a0_highs, .ref a0_lows, .ref a0_itemWides, .ref a0_pile])), (a0_highs, .inl (cs.1, 512, .inl (aI a0_highsF))), (a0_itemWides, .inl (cs.1, 512, .inl (aI a0_itemWidesF))), (a0_lows, .inl (cs.1, 512, .inl (aI a0_lowsF))), (a0_trial, .inl (cs.1, 184, .inl (aI r10.2))), (a0_wides, .inl (cs.1, 512, .inl (aI a0_widesF)))] rfl ?_
                      refine j_if_eq (pc := 128) 135 ok dX8_does_128 (by decide) h (fun h => ?_) (fun h => ?_)
                      · refine j_lv [] rfl ?_
                        exact hk8 r10.2 h
                      · refine j_iconst (pc := 131) ok dX8_does_131 ?_
                        refine j_goto (pc := 132) 136 ok dX8_does_132 (by decide) ?_
                        refine j_lv [] rfl ?_
                        exact hk9 (r10.2, 1) h
            · have h := h2 e1_5
              obtain ⟨hR, h1, h2⟩ := cEq_inv h
              by_cases e1_6 : x1 = 6
              · have h := h1 e1_6
                refine j_tabIn (pc := 1) 6 137 ok dX8_does_1 hR.1 e1_6 (by decide) rfl (by decide) ?_
                refine j_iload_n (pc := 137) 2 ok dX8_does_137 rfl rfl ?_
                refine jn_use (P := fun z17 => q_J D κ 4 0 0 [(a0, .inr (8, [.int (iI a0_refusal), .ref a0_text, .int (iI a0_textSize), .ref a0_now, .ref a0_trial, .ref a0_diary, .int (iI a0_acts), .ref a0_kept, .ref a0_isKept, .ref a0_clip, .ref a0_line, .int (iI a0_lineSize), .ref a0_read, .int (iI a0_readSize), .ref a0_opens, .ref a0_chains, .ref a0_factors, .ref a0_plains, .ref a0_belows, .ref a0_owned, .int (iI a0_deep), .ref a0_wides, .ref a0_highs, .ref a0_lows, .ref a0_itemWides, .ref a0_pile])), (a0_highs, .inl (cs.1, 512, .inl (aI a0_highsF))), (a0_itemWides, .inl (cs.1, 512, .inl (aI a0_itemWidesF))), (a0_lows, .inl (cs.1, 512, .inl (aI a0_lowsF))), (a0_trial, .inl (cs.1, 184, .inl (aI z17.1))), (a0_wides, .inl (cs.1, 512, .inl (aI a0_widesF)))] [] 160 [.int (iI z17.2)]) h (fun z17 h => ?_) (fun k14 hk14 h => ?_)
                · obtain ⟨hbo, h⟩ := gB_inv h
                  obtain rfl := Option.some.inj h
                  exact fin _ 160 hbo dX8_does_160
                · refine jn_use (P := fun z16 => q_J D κ 4 0 0 [(a0, .inr (8, [.int (iI a0_refusal), .ref a0_text, .int (iI a0_textSize), .ref a0_now, .ref a0_trial, .ref a0_diary, .int (iI a0_acts), .ref a0_kept, .ref a0_isKept, .ref a0_clip, .ref a0_line, .int (iI a0_lineSize), .ref a0_read, .int (iI a0_readSize), .ref a0_opens, .ref a0_chains, .ref a0_factors, .ref a0_plains, .ref a0_belows, .ref a0_owned, .int (iI a0_deep), .ref a0_wides, .ref a0_highs, .ref a0_lows, .ref a0_itemWides, .ref a0_pile])), (a0_highs, .inl (cs.1, 512, .inl (aI a0_highsF))), (a0_itemWides, .inl (cs.1, 512, .inl (aI a0_itemWidesF))), (a0_lows, .inl (cs.1, 512, .inl (aI a0_lowsF))), (a0_trial, .inl (cs.1, 184, .inl (aI z16))), (a0_wides, .inl (cs.1, 512, .inl (aI a0_widesF)))] [] 159 []) h (fun z16 h => ?_) (fun k13 hk13 h => ?_)
                  · refine j_iconst (pc := 159) ok dX8_does_159 ?_
                    exact hk14 (z16, 0) h
                  · refine j_if_ne (pc := 138) 159 ok dX8_does_138 (by decide) h (fun h => ?_) (fun h => ?_)
                    · refine j_lv [] rfl ?_
                      exact hk13 a0_trialF h
                    · refine j_iload_n (pc := 141) 3 ok dX8_does_141 rfl rfl ?_
                      refine j_if_ne (pc := 142) 159 ok dX8_does_142 (by decide) h (fun h => ?_) (fun h => ?_)
                      · refine j_lv [] rfl ?_
                        exact hk13 a0_trialF h
                      · refine j_aload_n (pc := 145) 0 ok dX8_does_145 rfl rfl ?_
                        refine gf_X8_16_8 (pc := 146) 0 ok rfl dX8_does_146 ?_
                        obtain ⟨r15, hr15, h⟩ := bd_inv h
                        refine j_callS (pc := 149) ok (k_X8_grows (a0 := a0_trial) (a0N := 184) (a0F := a0_trialF) hr15) gS_X8_222 hd_X8_grows [4] (by decide) rfl rfl rfl rfl ⟨Nat.zero_le _, Nat.zero_le _⟩ (Nat.le_of_ble_eq_true rfl) dX8_does_149 rfl [(a0, .inr (8, [.int (iI a0_refusal), .ref a0_text, .int (iI a0_textSize), .ref a0_now, .ref a0_trial, .ref a0_diary, .int (iI a0_acts), .ref a0_kept, .ref a0_isKept, .ref a0_clip, .ref a0_line, .int (iI a0_lineSize), .ref a0_read, .int (iI a0_readSize), .ref a0_opens, .ref a0_chains, .ref a0_factors, .ref a0_plains, .ref a0_belows, .ref a0_owned, .int (iI a0_deep), .ref a0_wides, .ref a0_highs, .ref a0_lows, .ref a0_itemWides, .ref a0_pile])), (a0_highs, .inl (cs.1, 512, .inl (aI a0_highsF))), (a0_itemWides, .inl (cs.1, 512, .inl (aI a0_itemWidesF))), (a0_lows, .inl (cs.1, 512, .inl (aI a0_lowsF))), (a0_trial, .inl (cs.1, 184, .inl (aI r15.2))), (a0_wides, .inl (cs.1, 512, .inl (aI a0_widesF)))] rfl ?_
                        refine j_if_eq (pc := 152) 159 ok dX8_does_152 (by decide) h (fun h => ?_) (fun h => ?_)
                        · refine j_lv [] rfl ?_
                          exact hk13 r15.2 h
                        · refine j_iconst (pc := 155) ok dX8_does_155 ?_
                          refine j_goto (pc := 156) 160 ok dX8_does_156 (by decide) ?_
                          refine j_lv [] rfl ?_
                          exact hk14 (r15.2, 1) h
              · have h := h2 e1_6
                obtain ⟨hR, h1, h2⟩ := cEq_inv h
                by_cases e1_7 : x1 = 7
                · have h := h1 e1_7
                  refine j_tabIn (pc := 1) 7 161 ok dX8_does_1 hR.1 e1_7 (by decide) rfl (by decide) ?_
                  refine j_iload_n (pc := 161) 2 ok dX8_does_161 rfl rfl ?_
                  refine jn_use (P := fun z22 => q_J D κ 4 0 0 [(a0, .inr (8, [.int (iI a0_refusal), .ref a0_text, .int (iI a0_textSize), .ref a0_now, .ref a0_trial, .ref a0_diary, .int (iI a0_acts), .ref a0_kept, .ref a0_isKept, .ref a0_clip, .ref a0_line, .int (iI a0_lineSize), .ref a0_read, .int (iI a0_readSize), .ref a0_opens, .ref a0_chains, .ref a0_factors, .ref a0_plains, .ref a0_belows, .ref a0_owned, .int (iI a0_deep), .ref a0_wides, .ref a0_highs, .ref a0_lows, .ref a0_itemWides, .ref a0_pile])), (a0_highs, .inl (cs.1, 512, .inl (aI a0_highsF))), (a0_itemWides, .inl (cs.1, 512, .inl (aI a0_itemWidesF))), (a0_lows, .inl (cs.1, 512, .inl (aI a0_lowsF))), (a0_trial, .inl (cs.1, 184, .inl (aI a0_trialF))), (a0_wides, .inl (cs.1, 512, .inl (aI a0_widesF)))] [] 190 [.int (iI z22)]) h (fun z22 h => ?_) (fun k19 hk19 h => ?_)
                  · obtain ⟨hbo, h⟩ := gB_inv h
                    obtain rfl := Option.some.inj h
                    exact fin _ 190 hbo dX8_does_190
                  · refine jn_use (P := fun z21 => q_J D κ 4 0 0 [(a0, .inr (8, [.int (iI a0_refusal), .ref a0_text, .int (iI a0_textSize), .ref a0_now, .ref a0_trial, .ref a0_diary, .int (iI a0_acts), .ref a0_kept, .ref a0_isKept, .ref a0_clip, .ref a0_line, .int (iI a0_lineSize), .ref a0_read, .int (iI a0_readSize), .ref a0_opens, .ref a0_chains, .ref a0_factors, .ref a0_plains, .ref a0_belows, .ref a0_owned, .int (iI a0_deep), .ref a0_wides, .ref a0_highs, .ref a0_lows, .ref a0_itemWides, .ref a0_pile])), (a0_highs, .inl (cs.1, 512, .inl (aI a0_highsF))), (a0_itemWides, .inl (cs.1, 512, .inl (aI a0_itemWidesF))), (a0_lows, .inl (cs.1, 512, .inl (aI a0_lowsF))), (a0_trial, .inl (cs.1, 184, .inl (aI a0_trialF))), (a0_wides, .inl (cs.1, 512, .inl (aI a0_widesF)))] [] 189 []) h (fun z21 h => ?_) (fun k18 hk18 h => ?_)
                    · refine j_iconst (pc := 189) ok dX8_does_189 ?_
                      exact hk19 0 h
                    · refine j_if_ne (pc := 162) 189 ok dX8_does_162 (by decide) h (fun h => ?_) (fun h => ?_)
                      · refine j_lv [] rfl ?_
                        exact hk18 () h
                      · refine j_aload_n (pc := 165) 0 ok dX8_does_165 rfl rfl ?_
                        refine gf_X8_16_8 (pc := 166) 0 ok rfl dX8_does_166 ?_
                        refine j_iconst (pc := 169) ok dX8_does_169 ?_
                        refine j_aload_n (pc := 170) 0 ok dX8_does_170 rfl rfl ?_
                        refine gf_X8_16_8 (pc := 171) 0 ok rfl dX8_does_171 ?_
                        refine j_sipush (pc := 174) ok dX8_does_174 (by decide) ?_
                        refine j_iald (pc := 177) 4 ok rfl dX8_does_177 h (fun h => ?_)
                        obtain ⟨r20, hr20, h⟩ := bd_inv h
                        refine j_callS (pc := 178) ok (k_X8_allIn (a0 := a0_trial) (a0N := 184) (a0F := a0_trialF) (x1 := 0) (x2 := a0_trialF (180 : Int).toNat) hr20) gS_X8_114 hd_X8_allIn [4] (by decide) rfl rfl rfl rfl ⟨Nat.zero_le _, Nat.zero_le _⟩ (Nat.le_of_ble_eq_true rfl) dX8_does_178 rfl [(a0, .inr (8, [.int (iI a0_refusal), .ref a0_text, .int (iI a0_textSize), .ref a0_now, .ref a0_trial, .ref a0_diary, .int (iI a0_acts), .ref a0_kept, .ref a0_isKept, .ref a0_clip, .ref a0_line, .int (iI a0_lineSize), .ref a0_read, .int (iI a0_readSize), .ref a0_opens, .ref a0_chains, .ref a0_factors, .ref a0_plains, .ref a0_belows, .ref a0_owned, .int (iI a0_deep), .ref a0_wides, .ref a0_highs, .ref a0_lows, .ref a0_itemWides, .ref a0_pile])), (a0_highs, .inl (cs.1, 512, .inl (aI a0_highsF))), (a0_itemWides, .inl (cs.1, 512, .inl (aI a0_itemWidesF))), (a0_lows, .inl (cs.1, 512, .inl (aI a0_lowsF))), (a0_trial, .inl (cs.1, 184, .inl (aI a0_trialF))), (a0_wides, .inl (cs.1, 512, .inl (aI a0_widesF)))] rfl ?_
                        refine j_iload_n (pc := 181) 3 ok dX8_does_181 rfl rfl ?_
                        refine j_icmp_ne (pc := 182) 189 ok dX8_does_182 (by decide) h (fun h => ?_) (fun h => ?_)
                        · refine j_lv [] rfl ?_
                          exact hk18 () h
                        · refine j_iconst (pc := 185) ok dX8_does_185 ?_
                          refine j_goto (pc := 186) 190 ok dX8_does_186 (by decide) ?_
                          refine j_lv [] rfl ?_
                          exact hk19 1 h
                · have h := h2 e1_7
                  obtain ⟨hR, h1, h2⟩ := cEq_inv h
                  by_cases e1_8 : x1 = 8
                  · have h := h1 e1_8
                    refine j_tabIn (pc := 1) 8 191 ok dX8_does_1 hR.1 e1_8 (by decide) rfl (by decide) ?_
                    refine j_iload_n (pc := 191) 2 ok dX8_does_191 rfl rfl ?_
                    refine jn_use (P := fun z26 => q_J D κ 4 0 0 [(a0, .inr (8, [.int (iI a0_refusal), .ref a0_text, .int (iI a0_textSize), .ref a0_now, .ref a0_trial, .ref a0_diary, .int (iI a0_acts), .ref a0_kept, .ref a0_isKept, .ref a0_clip, .ref a0_line, .int (iI a0_lineSize), .ref a0_read, .int (iI a0_readSize), .ref a0_opens, .ref a0_chains, .ref a0_factors, .ref a0_plains, .ref a0_belows, .ref a0_owned, .int (iI a0_deep), .ref a0_wides, .ref a0_highs, .ref a0_lows, .ref a0_itemWides, .ref a0_pile])), (a0_highs, .inl (cs.1, 512, .inl (aI a0_highsF))), (a0_itemWides, .inl (cs.1, 512, .inl (aI a0_itemWidesF))), (a0_lows, .inl (cs.1, 512, .inl (aI a0_lowsF))), (a0_trial, .inl (cs.1, 184, .inl (aI a0_trialF))), (a0_wides, .inl (cs.1, 512, .inl (aI a0_widesF)))] [] 212 [.int (iI z26)]) h (fun z26 h => ?_) (fun k24 hk24 h => ?_)
                    · obtain ⟨hbo, h⟩ := gB_inv h
                      obtain rfl := Option.some.inj h
                      exact fin _ 212 hbo dX8_does_212
                    · refine jn_use (P := fun z25 => q_J D κ 4 0 0 [(a0, .inr (8, [.int (iI a0_refusal), .ref a0_text, .int (iI a0_textSize), .ref a0_now, .ref a0_trial, .ref a0_diary, .int (iI a0_acts), .ref a0_kept, .ref a0_isKept, .ref a0_clip, .ref a0_line, .int (iI a0_lineSize), .ref a0_read, .int (iI a0_readSize), .ref a0_opens, .ref a0_chains, .ref a0_factors, .ref a0_plains, .ref a0_belows, .ref a0_owned, .int (iI a0_deep), .ref a0_wides, .ref a0_highs, .ref a0_lows, .ref a0_itemWides, .ref a0_pile])), (a0_highs, .inl (cs.1, 512, .inl (aI a0_highsF))), (a0_itemWides, .inl (cs.1, 512, .inl (aI a0_itemWidesF))), (a0_lows, .inl (cs.1, 512, .inl (aI a0_lowsF))), (a0_trial, .inl (cs.1, 184, .inl (aI a0_trialF))), (a0_wides, .inl (cs.1, 512, .inl (aI a0_widesF)))] [] 211 []) h (fun z25 h => ?_) (fun k23 hk23 h => ?_)
                      · refine j_iconst (pc := 211) ok dX8_does_211 ?_
                        exact hk24 0 h
                      · refine j_if_ne (pc := 192) 211 ok dX8_does_192 (by decide) h (fun h => ?_) (fun h => ?_)
                        · refine j_lv [] rfl ?_
                          exact hk23 () h
                        · refine j_aload_n (pc := 195) 0 ok dX8_does_195 rfl rfl ?_
                          refine gf_X8_16_8 (pc := 196) 0 ok rfl dX8_does_196 ?_
                          refine j_sipush (pc := 199) ok dX8_does_199 (by decide) ?_
                          refine j_iald (pc := 202) 4 ok rfl dX8_does_202 h (fun h => ?_)
                          refine j_iload_n (pc := 203) 3 ok dX8_does_203 rfl rfl ?_
                          refine j_icmp_ne (pc := 204) 211 ok dX8_does_204 (by decide) h (fun h => ?_) (fun h => ?_)
                          · refine j_lv [] rfl ?_
                            exact hk23 () h
                          · refine j_iconst (pc := 207) ok dX8_does_207 ?_
                            refine j_goto (pc := 208) 212 ok dX8_does_208 (by decide) ?_
                            refine j_lv [] rfl ?_
                            exact hk24 1 h
                  · have h := h2 e1_8
                    obtain ⟨hR, h1, h2⟩ := cEq_inv h
                    by_cases e1_9 : x1 = 9
                    · have h := h1 e1_9
                      refine j_tabIn (pc := 1) 9 213 ok dX8_does_1 hR.1 e1_9 (by decide) rfl (by decide) ?_
                      refine j_aload_n (pc := 213) 0 ok dX8_does_213 rfl rfl ?_
                      refine j_aload_n (pc := 214) 0 ok dX8_does_214 rfl rfl ?_
                      refine gf_X8_16_8 (pc := 215) 0 ok rfl dX8_does_215 ?_
                      obtain ⟨r27, hr27, h⟩ := bd_inv h
                      refine j_callV (pc := 218) ok (k_X8_layBoxes (a0 := a0) (a0_text := a0_text) (a0_now := a0_now) (a0_trial := a0_trial) (a0_diary := a0_diary) (a0_kept := a0_kept) (a0_isKept := a0_isKept) (a0_clip := a0_clip) (a0_line := a0_line) (a0_read := a0_read) (a0_opens := a0_opens) (a0_chains := a0_chains) (a0_factors := a0_factors) (a0_plains := a0_plains) (a0_belows := a0_belows) (a0_owned := a0_owned) (a0_wides := a0_wides) (a0_highs := a0_highs) (a0_lows := a0_lows) (a0_itemWides := a0_itemWides) (a0_pile := a0_pile) (a1 := a0_trial) (a1N := 184) (a0_refusal := a0_refusal) (a0_textSize := a0_textSize) (a0_acts := a0_acts) (a0_lineSize := a0_lineSize) (a0_readSize := a0_readSize) (a0_deep := a0_deep) (a0_highsF := a0_highsF) (a0_itemWidesF := a0_itemWidesF) (a0_lowsF := a0_lowsF) (a0_widesF := a0_widesF) (a1F := a0_trialF) hr27) gV_X8_249 ⟨rfl, hd_X8_layBoxes⟩ [0, 1, 2, 3, 5, 4] (by decide) rfl rfl 0 rfl rfl rfl rfl ⟨Nat.zero_le _, Nat.zero_le _⟩ (Nat.le_of_ble_eq_true rfl) dX8_does_218 rfl [(a0, .inr (8, [.int (iI a0_refusal), .ref a0_text, .int (iI a0_textSize), .ref a0_now, .ref a0_trial, .ref a0_diary, .int (iI a0_acts), .ref a0_kept, .ref a0_isKept, .ref a0_clip, .ref a0_line, .int (iI a0_lineSize), .ref a0_read, .int (iI a0_readSize), .ref a0_opens, .ref a0_chains, .ref a0_factors, .ref a0_plains, .ref a0_belows, .ref a0_owned, .int (iI a0_deep), .ref a0_wides, .ref a0_highs, .ref a0_lows, .ref a0_itemWides, .ref a0_pile])), (a0_highs, .inl (cs.1, 512, .inl (aI r27.1))), (a0_itemWides, .inl (cs.1, 512, .inl (aI r27.2.1))), (a0_lows, .inl (cs.1, 512, .inl (aI r27.2.2.1))), (a0_trial, .inl (cs.1, 184, .inl (aI a0_trialF))), (a0_wides, .inl (cs.1, 512, .inl (aI r27.2.2.2)))] rfl ?_
                      refine j_iload_n (pc := 221) 2 ok dX8_does_221 rfl rfl ?_
                      refine jn_use (P := fun z31 => q_J D κ 4 0 0 [(a0, .inr (8, [.int (iI a0_refusal), .ref a0_text, .int (iI a0_textSize), .ref a0_now, .ref a0_trial, .ref a0_diary, .int (iI a0_acts), .ref a0_kept, .ref a0_isKept, .ref a0_clip, .ref a0_line, .int (iI a0_lineSize), .ref a0_read, .int (iI a0_readSize), .ref a0_opens, .ref a0_chains, .ref a0_factors, .ref a0_plains, .ref a0_belows, .ref a0_owned, .int (iI a0_deep), .ref a0_wides, .ref a0_highs, .ref a0_lows, .ref a0_itemWides, .ref a0_pile])), (a0_highs, .inl (cs.1, 512, .inl (aI r27.1))), (a0_itemWides, .inl (cs.1, 512, .inl (aI r27.2.1))), (a0_lows, .inl (cs.1, 512, .inl (aI r27.2.2.1))), (a0_trial, .inl (cs.1, 184, .inl (aI a0_trialF))), (a0_wides, .inl (cs.1, 512, .inl (aI r27.2.2.2)))] [] 240 [.int (iI z31)]) h (fun z31 h => ?_) (fun k29 hk29 h => ?_)
                      · obtain ⟨hbo, h⟩ := gB_inv h
                        obtain rfl := Option.some.inj h
                        exact fin _ 240 hbo dX8_does_240
                      · refine jn_use (P := fun z30 => q_J D κ 4 0 0 [(a0, .inr (8, [.int (iI a0_refusal), .ref a0_text, .int (iI a0_textSize), .ref a0_now, .ref a0_trial, .ref a0_diary, .int (iI a0_acts), .ref a0_kept, .ref a0_isKept, .ref a0_clip, .ref a0_line, .int (iI a0_lineSize), .ref a0_read, .int (iI a0_readSize), .ref a0_opens, .ref a0_chains, .ref a0_factors, .ref a0_plains, .ref a0_belows, .ref a0_owned, .int (iI a0_deep), .ref a0_wides, .ref a0_highs, .ref a0_lows, .ref a0_itemWides, .ref a0_pile])), (a0_highs, .inl (cs.1, 512, .inl (aI r27.1))), (a0_itemWides, .inl (cs.1, 512, .inl (aI r27.2.1))), (a0_lows, .inl (cs.1, 512, .inl (aI r27.2.2.1))), (a0_trial, .inl (cs.1, 184, .inl (aI a0_trialF))), (a0_wides, .inl (cs.1, 512, .inl (aI r27.2.2.2)))] [] 239 []) h (fun z30 h => ?_) (fun k28 hk28 h => ?_)
                        · refine j_iconst (pc := 239) ok dX8_does_239 ?_
                          exact hk29 0 h
                        · refine j_if_ne (pc := 222) 239 ok dX8_does_222 (by decide) h (fun h => ?_) (fun h => ?_)
                          · refine j_lv [] rfl ?_
                            exact hk28 () h
                          · refine j_aload_n (pc := 225) 0 ok dX8_does_225 rfl rfl ?_
                            refine gf_X8_56_8 (pc := 226) 0 ok rfl dX8_does_226 ?_
                            refine j_iconst (pc := 229) ok dX8_does_229 ?_
                            refine j_iald (pc := 230) 5 ok rfl dX8_does_230 h (fun h => ?_)
                            refine j_iload_n (pc := 231) 3 ok dX8_does_231 rfl rfl ?_
                            refine j_icmp_ne (pc := 232) 239 ok dX8_does_232 (by decide) h (fun h => ?_) (fun h => ?_)
                            · refine j_lv [] rfl ?_
                              exact hk28 () h
                            · refine j_iconst (pc := 235) ok dX8_does_235 ?_
                              refine j_goto (pc := 236) 240 ok dX8_does_236 (by decide) ?_
                              refine j_lv [] rfl ?_
                              exact hk29 1 h
                    · have h := h2 e1_9
                      refine j_tabOut (pc := 1) 241 ok dX8_does_1 hR.1 (by omega) (by decide) ?_
                      refine j_iconst (pc := 241) ok dX8_does_241 ?_
                      obtain ⟨hbo, h⟩ := gB_inv h
                      obtain rfl := Option.some.inj h
                      exact fin _ 242 hbo dX8_does_242
def f_X8_tenTo_4 (y0 : Int) (e4_21 : Int × Int → Option (Int)) : Nat → Int → Int → Option (Int)
  | 0, _, _ => none
  | n + 1, y1, y3 => cLt y3 y0 (f_X8_tenTo_4 y0 e4_21 n (y1 * 10) (y3 + 1)) (e4_21 (y1, y3))
set_option maxRecDepth 100000 in
theorem l_X8_tenTo_4 {D : va_G} {cs : q_CS} {κ : q_X} { : Nat} {y0 : Int} {r : (Int)} {e4_21 : Int × Int → Option (Int)} (ok : q_ok D cs κ cX8_tenTo 4 RX8 (q_rm 0 0)) (fin : ∀ (lv : List (Nat × Value)) (pc : Nat), decode cX8_tenTo pc = .ok (.lreturn, 1) → q_J D κ 4 0 0 [] lv pc [.long (iL r)]) (he4_21 : ∀ x : Int × Int, e4_21 x = some r → q_J D κ 4 0 0 [] [(1, .long (iL x.1))] 21 []) : ∀ (n : Nat) (y1 : Int) (y3 : Int), f_X8_tenTo_4 y0 e4_21 n y1 y3 = some r → q_J D κ 4 0 0 [] [(0, .int (iI y0)), (1, .long (iL y1)), (3, .int (iI y3))] 4 [] := by
  intro n
  induction n with
  | zero =>
    intro y1 y3 h
    exact absurd h (by unfold f_X8_tenTo_4; exact fun z => by cases z)
  | succ n ih =>
    intro y1 y3 h
    unfold f_X8_tenTo_4 at h
    refine j_iload_n (pc := 4) 2 ok dX8_tenTo_4 rfl rfl ?_
    refine j_iload_n (pc := 5) 0 ok dX8_tenTo_5 rfl rfl ?_
    refine j_icmp_ge (pc := 6) 21 ok dX8_tenTo_6 (by decide) h (fun h => ?_) (fun h => ?_)
    · refine j_lv [1] rfl ?_
      exact he4_21 (y1, y3) h
    · refine j_lload_n (pc := 9) 1 ok dX8_tenTo_9 rfl rfl ?_
      refine j_ldc2 (pc := 10) 10 ok dX8_tenTo_10 (q_in 1489 (by decide +kernel) (by decide +kernel)) ?_
      refine j_lmul (pc := 13) ok dX8_tenTo_13 ?_
      refine j_lstore_n (pc := 14) (lv' := [(1, .long (iL (y1 * 10))), (0, .int (iI y0)), (3, .int (iI y3))]) ok dX8_tenTo_14 rfl (by decide) rfl ?_
      refine j_iinc (pc := 15) (lv' := [(3, .int (iI (y3 + 1))), (1, .long (iL (y1 * 10))), (0, .int (iI y0))]) 2 ok dX8_tenTo_15 rfl (by decide) rfl ?_
      refine j_goto (pc := 18) 4 ok dX8_tenTo_18 (by decide) ?_
      refine j_lv [2, 1, 0] rfl ?_
      exact ih _ _ h
def f_X8_tenTo (x0 : Int) : Option (Int) := f_X8_tenTo_4 x0 (fun (z1 : Int × Int) => some z1.1) fuel 1 0
set_option maxRecDepth 100000 in
set_option maxHeartbeats 4000000 in
theorem k_X8_tenTo {D : va_G} {cs : q_CS} {x0 : Int} {r : (Int)} (h : f_X8_tenTo x0 = some r) : q_M D cs yX8_tenTo cX8_tenTo 4 (some .long) 0 0 [.int (iI x0)] [] (some (.long (iL r))) [] := by
  refine q_start_l [(0, .int (iI x0))] RX8 rfl (by decide +kernel) rfl (Nat.le_of_ble_eq_true rfl) (fun κ ok fin => ?_)
  unfold f_X8_tenTo at h
  refine j_lconst (pc := 0) 1 ok dX8_tenTo_0 (by decide) ?_
  refine j_lstore_n (pc := 1) (lv' := [(1, .long (iL 1)), (0, .int (iI x0))]) ok dX8_tenTo_1 rfl (by decide) rfl ?_
  refine j_iconst (pc := 2) ok dX8_tenTo_2 ?_
  refine j_istore_n (pc := 3) (lv' := [(3, .int (iI 0)), (1, .long (iL 1)), (0, .int (iI x0))]) ok dX8_tenTo_3 rfl (by decide) rfl ?_
  refine j_lv [2, 1, 0] rfl ?_
  refine l_X8_tenTo_4 ok fin (fun z1 h => ?_) fuel _ _ h
  · refine j_lload_n (pc := 21) 0 ok dX8_tenTo_21 rfl rfl ?_
    obtain rfl := Option.some.inj h
    exact fin _ 22 dX8_tenTo_22
def f_X8_runScript_58 (a0_nowF : (Nat → Int)) (y1 : Int) (y2 : Int) (e58_119 : Int × (Nat → Int) × (Nat → Int) × (Nat → Int) × (Nat → Int) × (Nat → Int) × Int → Option (Int × Int × (Nat → Int) × (Nat → Int) × (Nat → Int) × (Nat → Int) × (Nat → Int))) : Nat → Int → (Nat → Int) → (Nat → Int) → (Nat → Int) → (Nat → Int) → (Nat → Int) → Int → Option (Int × Int × (Nat → Int) × (Nat → Int) × (Nat → Int) × (Nat → Int) × (Nat → Int))
  | 0, _, _, _, _, _, _, _ => none
  | n + 1, a0_refusal, a0_highsF, a0_itemWidesF, a0_lowsF, a0_trialF, a0_widesF, y4 => cLt y4 y1 (bd (f_X8_tenTo (4 * ((y1 - 1) - y4))) (fun r10 => gL y2 (gL r10 (if r10 = 0 then none else (gL (y2.tdiv r10) (gL 10000 (if 10000 = 0 then none else (gR ((y2.tdiv r10).tmod 10000) (gR ((y2.tdiv r10).tmod 10000) (gR (((y2.tdiv r10).tmod 10000).tdiv 100) (gR ((y2.tdiv r10).tmod 10000) (bd (f_X8_does a0_highsF a0_itemWidesF a0_lowsF a0_trialF a0_widesF (((y2.tdiv r10).tmod 10000).tdiv 1000) ((((y2.tdiv r10).tmod 10000).tdiv 100).tmod 10) (((y2.tdiv r10).tmod 10000).tmod 100)) (fun r11 => cEq r11.1 0 (some (y4, a0_refusal, r11.2.1, r11.2.2.1, r11.2.2.2.1, r11.2.2.2.2.1, r11.2.2.2.2.2)) (f_X8_runScript_58 a0_nowF y1 y2 e58_119 n a0_refusal r11.2.1 r11.2.2.1 r11.2.2.2.1 r11.2.2.2.2.1 r11.2.2.2.2.2 (y4 + 1))))))))))))))) (e58_119 (a0_refusal, a0_highsF, a0_itemWidesF, a0_lowsF, a0_trialF, a0_widesF, y4))
set_option maxRecDepth 100000 in
theorem l_X8_runScript_58 {D : va_G} {cs : q_CS} {κ : q_X} {a0 a0_text a0_now a0_trial a0_diary a0_kept a0_isKept a0_clip a0_line a0_read a0_opens a0_chains a0_factors a0_plains a0_belows a0_owned a0_wides a0_highs a0_lows a0_itemWides a0_pile : Nat} {a0_textSize a0_acts a0_lineSize a0_readSize a0_deep : Int} {a0_nowF : Nat → Int} {y1 y2 : Int} {r : (Int × Int × (Nat → Int) × (Nat → Int) × (Nat → Int) × (Nat → Int) × (Nat → Int))} {e58_119 : Int × (Nat → Int) × (Nat → Int) × (Nat → Int) × (Nat → Int) × (Nat → Int) × Int → Option (Int × Int × (Nat → Int) × (Nat → Int) × (Nat → Int) × (Nat → Int) × (Nat → Int))} (ok : q_ok D cs κ cX8_runScript 6 RX8 (q_rm 6 139)) (fin : ∀ (lv : List (Nat × Value)) (pc : Nat), decode cX8_runScript pc = .ok (.ireturn, 1) → q_J D κ 6 0 0 [(a0, .inr (8, [.int (iI r.2.1), .ref a0_text, .int (iI a0_textSize), .ref a0_now, .ref a0_trial, .ref a0_diary, .int (iI a0_acts), .ref a0_kept, .ref a0_isKept, .ref a0_clip, .ref a0_line, .int (iI a0_lineSize), .ref a0_read, .int (iI a0_readSize), .ref a0_opens, .ref a0_chains, .ref a0_factors, .ref a0_plains, .ref a0_belows, .ref a0_owned, .int (iI a0_deep), .ref a0_wides, .ref a0_highs, .ref a0_lows, .ref a0_itemWides, .ref a0_pile])), (a0_highs, .inl (cs.1, 512, .inl (aI r.2.2.1))), (a0_itemWides, .inl (cs.1, 512, .inl (aI r.2.2.2.1))), (a0_lows, .inl (cs.1, 512, .inl (aI r.2.2.2.2.1))), (a0_now, .inl (cs.1, 184, .inl (aI a0_nowF))), (a0_trial, .inl (cs.1, 184, .inl (aI r.2.2.2.2.2.1))), (a0_wides, .inl (cs.1, 512, .inl (aI r.2.2.2.2.2.2)))] lv pc [.int (iI r.1)]) (he58_119 : ∀ x : Int × (Nat → Int) × (Nat → Int) × (Nat → Int) × (Nat → Int) × (Nat → Int) × Int, e58_119 x = some r → q_J D κ 6 0 0 [(a0, .inr (8, [.int (iI x.1), .ref a0_text, .int (iI a0_textSize), .ref a0_now, .ref a0_trial, .ref a0_diary, .int (iI a0_acts), .ref a0_kept, .ref a0_isKept, .ref a0_clip, .ref a0_line, .int (iI a0_lineSize), .ref a0_read, .int (iI a0_readSize), .ref a0_opens, .ref a0_chains, .ref a0_factors, .ref a0_plains, .ref a0_belows, .ref a0_owned, .int (iI a0_deep), .ref a0_wides, .ref a0_highs, .ref a0_lows, .ref a0_itemWides, .ref a0_pile])), (a0_highs, .inl (cs.1, 512, .inl (aI x.2.1))), (a0_itemWides, .inl (cs.1, 512, .inl (aI x.2.2.1))), (a0_lows, .inl (cs.1, 512, .inl (aI x.2.2.2.1))), (a0_now, .inl (cs.1, 184, .inl (aI a0_nowF))), (a0_trial, .inl (cs.1, 184, .inl (aI x.2.2.2.2.1))), (a0_wides, .inl (cs.1, 512, .inl (aI x.2.2.2.2.2.1)))] [] 119 []) : ∀ (n : Nat) (a0_refusal : Int) (a0_highsF : (Nat → Int)) (a0_itemWidesF : (Nat → Int)) (a0_lowsF : (Nat → Int)) (a0_trialF : (Nat → Int)) (a0_widesF : (Nat → Int)) (y4 : Int), f_X8_runScript_58 a0_nowF y1 y2 e58_119 n a0_refusal a0_highsF a0_itemWidesF a0_lowsF a0_trialF a0_widesF y4 = some r → q_J D κ 6 0 0 [(a0, .inr (8, [.int (iI a0_refusal), .ref a0_text, .int (iI a0_textSize), .ref a0_now, .ref a0_trial, .ref a0_diary, .int (iI a0_acts), .ref a0_kept, .ref a0_isKept, .ref a0_clip, .ref a0_line, .int (iI a0_lineSize), .ref a0_read, .int (iI a0_readSize), .ref a0_opens, .ref a0_chains, .ref a0_factors, .ref a0_plains, .ref a0_belows, .ref a0_owned, .int (iI a0_deep), .ref a0_wides, .ref a0_highs, .ref a0_lows, .ref a0_itemWides, .ref a0_pile])), (a0_highs, .inl (cs.1, 512, .inl (aI a0_highsF))), (a0_itemWides, .inl (cs.1, 512, .inl (aI a0_itemWidesF))), (a0_lows, .inl (cs.1, 512, .inl (aI a0_lowsF))), (a0_now, .inl (cs.1, 184, .inl (aI a0_nowF))), (a0_trial, .inl (cs.1, 184, .inl (aI a0_trialF))), (a0_wides, .inl (cs.1, 512, .inl (aI a0_widesF)))] [(0, .ref a0), (1, .int (iI y1)), (2, .long (iL y2)), (4, .int (iI y4))] 58 [] := by
  intro n
  induction n with
  | zero =>
    intro a0_refusal a0_highsF a0_itemWidesF a0_lowsF a0_trialF a0_widesF y4 h
    exact absurd h (by unfold f_X8_runScript_58; exact fun z => by cases z)
  | succ n ih =>
    intro a0_refusal a0_highsF a0_itemWidesF a0_lowsF a0_trialF a0_widesF y4 h
    unfold f_X8_runScript_58 at h
    refine j_iload (pc := 58) 3 ok dX8_runScript_58 rfl ?_
    refine j_iload_n (pc := 60) 1 ok dX8_runScript_60 rfl rfl ?_
    refine j_icmp_ge (pc := 61) 119 ok dX8_runScript_61 (by decide) h (fun h => ?_) (fun h => ?_)
    · refine j_lv [] rfl ?_
      exact he58_119 (a0_refusal, a0_highsF, a0_itemWidesF, a0_lowsF, a0_trialF, a0_widesF, y4) h
    · refine j_lload_n (pc := 64) 2 ok dX8_runScript_64 rfl rfl ?_
      refine j_iconst (pc := 65) ok dX8_runScript_65 ?_
      refine j_iload_n (pc := 66) 1 ok dX8_runScript_66 rfl rfl ?_
      refine j_iconst (pc := 67) ok dX8_runScript_67 ?_
      refine j_isub (pc := 68) ok dX8_runScript_68 ?_
      refine j_iload (pc := 69) 3 ok dX8_runScript_69 rfl ?_
      refine j_isub (pc := 71) ok dX8_runScript_71 ?_
      refine j_imul (pc := 72) ok dX8_runScript_72 ?_
      obtain ⟨r10, hr10, h⟩ := bd_inv h
      refine j_callS (pc := 73) ok (k_X8_tenTo (x0 := 4 * ((y1 - 1) - y4)) hr10) gS_X8_259 hd_X8_tenTo [] (by decide) rfl rfl rfl rfl ⟨Nat.zero_le _, Nat.zero_le _⟩ (Nat.le_of_ble_eq_true rfl) dX8_runScript_73 rfl [(a0, .inr (8, [.int (iI a0_refusal), .ref a0_text, .int (iI a0_textSize), .ref a0_now, .ref a0_trial, .ref a0_diary, .int (iI a0_acts), .ref a0_kept, .ref a0_isKept, .ref a0_clip, .ref a0_line, .int (iI a0_lineSize), .ref a0_read, .int (iI a0_readSize), .ref a0_opens, .ref a0_chains, .ref a0_factors, .ref a0_plains, .ref a0_belows, .ref a0_owned, .int (iI a0_deep), .ref a0_wides, .ref a0_highs, .ref a0_lows, .ref a0_itemWides, .ref a0_pile])), (a0_highs, .inl (cs.1, 512, .inl (aI a0_highsF))), (a0_itemWides, .inl (cs.1, 512, .inl (aI a0_itemWidesF))), (a0_lows, .inl (cs.1, 512, .inl (aI a0_lowsF))), (a0_now, .inl (cs.1, 184, .inl (aI a0_nowF))), (a0_trial, .inl (cs.1, 184, .inl (aI a0_trialF))), (a0_wides, .inl (cs.1, 512, .inl (aI a0_widesF)))] rfl ?_
      refine j_ldiv (pc := 76) ok dX8_runScript_76 h (fun _ h => ?_)
      refine j_ldc2 (pc := 77) 10000 ok dX8_runScript_77 (q_in 1490 (by decide +kernel) (by decide +kernel)) ?_
      refine j_lrem (pc := 80) ok dX8_runScript_80 h (fun _ h => ?_)
      refine j_l2i (pc := 81) ok dX8_runScript_81 ?_
      refine j_istore (pc := 82) (lv' := [(5, .int (iI ((y2.tdiv r10).tmod 10000))), (0, .ref a0), (1, .int (iI y1)), (2, .long (iL y2)), (4, .int (iI y4))]) ok dX8_runScript_82 (by decide) rfl ?_
      refine j_aload_n (pc := 84) 1 ok dX8_runScript_84 rfl rfl ?_
      refine j_iload (pc := 85) 0 ok dX8_runScript_85 rfl ?_
      refine j_sipush (pc := 87) ok dX8_runScript_87 (by decide) ?_
      refine j_idiv (pc := 90) ok dX8_runScript_90 (by decide) (by decide) h (fun h => ?_)
      refine j_iload (pc := 91) 0 ok dX8_runScript_91 rfl ?_
      refine j_bipush (pc := 93) ok dX8_runScript_93 (by decide) ?_
      refine j_idiv (pc := 95) ok dX8_runScript_95 (by decide) (by decide) h (fun h => ?_)
      refine j_bipush (pc := 96) ok dX8_runScript_96 (by decide) ?_
      refine j_irem (pc := 98) ok dX8_runScript_98 (by decide) (by decide) h (fun h => ?_)
      refine j_iload (pc := 99) 0 ok dX8_runScript_99 rfl ?_
      refine j_bipush (pc := 101) ok dX8_runScript_101 (by decide) ?_
      refine j_irem (pc := 103) ok dX8_runScript_103 (by decide) (by decide) h (fun h => ?_)
      obtain ⟨r11, hr11, h⟩ := bd_inv h
      refine j_callV (pc := 104) ok (k_X8_does (a0 := a0) (a0_text := a0_text) (a0_now := a0_now) (a0_trial := a0_trial) (a0_diary := a0_diary) (a0_kept := a0_kept) (a0_isKept := a0_isKept) (a0_clip := a0_clip) (a0_line := a0_line) (a0_read := a0_read) (a0_opens := a0_opens) (a0_chains := a0_chains) (a0_factors := a0_factors) (a0_plains := a0_plains) (a0_belows := a0_belows) (a0_owned := a0_owned) (a0_wides := a0_wides) (a0_highs := a0_highs) (a0_lows := a0_lows) (a0_itemWides := a0_itemWides) (a0_pile := a0_pile) (a0_refusal := a0_refusal) (a0_textSize := a0_textSize) (a0_acts := a0_acts) (a0_lineSize := a0_lineSize) (a0_readSize := a0_readSize) (a0_deep := a0_deep) (a0_highsF := a0_highsF) (a0_itemWidesF := a0_itemWidesF) (a0_lowsF := a0_lowsF) (a0_trialF := a0_trialF) (a0_widesF := a0_widesF) (x1 := ((y2.tdiv r10).tmod 10000).tdiv 1000) (x2 := (((y2.tdiv r10).tmod 10000).tdiv 100).tmod 10) (x3 := ((y2.tdiv r10).tmod 10000).tmod 100) hr11) gV_X8_265 ⟨rfl, hd_X8_does⟩ [0, 1, 2, 3, 5, 6] (by decide) rfl rfl 0 rfl rfl rfl rfl ⟨Nat.zero_le _, Nat.zero_le _⟩ (Nat.le_of_ble_eq_true rfl) dX8_runScript_104 rfl [(a0, .inr (8, [.int (iI a0_refusal), .ref a0_text, .int (iI a0_textSize), .ref a0_now, .ref a0_trial, .ref a0_diary, .int (iI a0_acts), .ref a0_kept, .ref a0_isKept, .ref a0_clip, .ref a0_line, .int (iI a0_lineSize), .ref a0_read, .int (iI a0_readSize), .ref a0_opens, .ref a0_chains, .ref a0_factors, .ref a0_plains, .ref a0_belows, .ref a0_owned, .int (iI a0_deep), .ref a0_wides, .ref a0_highs, .ref a0_lows, .ref a0_itemWides, .ref a0_pile])), (a0_highs, .inl (cs.1, 512, .inl (aI r11.2.1))), (a0_itemWides, .inl (cs.1, 512, .inl (aI r11.2.2.1))), (a0_lows, .inl (cs.1, 512, .inl (aI r11.2.2.2.1))), (a0_now, .inl (cs.1, 184, .inl (aI a0_nowF))), (a0_trial, .inl (cs.1, 184, .inl (aI r11.2.2.2.2.1))), (a0_wides, .inl (cs.1, 512, .inl (aI r11.2.2.2.2.2)))] rfl ?_
      refine j_if_ne (pc := 107) 113 ok dX8_runScript_107 (by decide) h (fun h => ?_) (fun h => ?_)
      · refine j_iinc (pc := 113) (lv' := [(4, .int (iI (y4 + 1))), (5, .int (iI ((y2.tdiv r10).tmod 10000))), (0, .ref a0), (1, .int (iI y1)), (2, .long (iL y2))]) 4 ok dX8_runScript_113 rfl (by decide) rfl ?_
        refine j_goto (pc := 116) 58 ok dX8_runScript_116 (by decide) ?_
        refine j_lv [2, 3, 4, 0] rfl ?_
        exact ih _ _ _ _ _ _ _ h
      · refine j_iload (pc := 110) 4 ok dX8_runScript_110 rfl ?_
        obtain rfl := Option.some.inj h
        exact fin _ 112 dX8_runScript_112
def f_X8_runScript (a0_refusal : Int) (a0_highsF : (Nat → Int)) (a0_itemWidesF : (Nat → Int)) (a0_lowsF : (Nat → Int)) (a0_nowF : (Nat → Int)) (a0_trialF : (Nat → Int)) (a0_widesF : (Nat → Int)) (x1 : Int) (x2 : Int) : Option (Int × Int × (Nat → Int) × (Nat → Int) × (Nat → Int) × (Nat → Int) × (Nat → Int)) := gR x1 (bd (f_X8_in x1 1 4) (fun r1 => jn (fun (z7 : Int) => bd (f_X8_refused a0_refusal z7) (fun r8 => cEq r8.1 0 (bd (f_X8_copyPage 184 184 a0_nowF a0_trialF 0 0) (fun r9 => f_X8_runScript_58 a0_nowF x1 x2 (fun (z12 : Int × (Nat → Int) × (Nat → Int) × (Nat → Int) × (Nat → Int) × (Nat → Int) × Int) => some ((-9), z12.1, z12.2.1, z12.2.2.1, z12.2.2.2.1, z12.2.2.2.2.1, z12.2.2.2.2.2.1)) fuel r8.2 a0_highsF a0_itemWidesF a0_lowsF r9 a0_widesF 0)) (some (0, r8.2, a0_highsF, a0_itemWidesF, a0_lowsF, a0_trialF, a0_widesF)))) (fun k3 => jn (fun (z6 : Unit) => k3 1) (fun k2 => cEq r1 0 (k2 ()) (bd (f_X8_tenTo (4 * x1)) (fun r4 => bd (f_X8_in x2 0 (r4 - 1)) (fun r5 => cEq r5 0 (k2 ()) (k3 0))))))))
set_option maxRecDepth 100000 in
set_option maxHeartbeats 4000000 in
theorem k_X8_runScript {D : va_G} {cs : q_CS} {a0 a0_text a0_now a0_trial a0_diary a0_kept a0_isKept a0_clip a0_line a0_read a0_opens a0_chains a0_factors a0_plains a0_belows a0_owned a0_wides a0_highs a0_lows a0_itemWides a0_pile : Nat} {a0_refusal a0_textSize a0_acts a0_lineSize a0_readSize a0_deep : Int} {a0_highsF a0_itemWidesF a0_lowsF a0_nowF a0_trialF a0_widesF : Nat → Int} {x1 x2 : Int} {r : (Int × Int × (Nat → Int) × (Nat → Int) × (Nat → Int) × (Nat → Int) × (Nat → Int))} (h : f_X8_runScript a0_refusal a0_highsF a0_itemWidesF a0_lowsF a0_nowF a0_trialF a0_widesF x1 x2 = some r) : q_M D cs yX8_runScript cX8_runScript 6 (some .int) 6 139 [.ref a0, .int (iI x1), .long (iL x2)] [(a0, .inr (8, [.int (iI a0_refusal), .ref a0_text, .int (iI a0_textSize), .ref a0_now, .ref a0_trial, .ref a0_diary, .int (iI a0_acts), .ref a0_kept, .ref a0_isKept, .ref a0_clip, .ref a0_line, .int (iI a0_lineSize), .ref a0_read, .int (iI a0_readSize), .ref a0_opens, .ref a0_chains, .ref a0_factors, .ref a0_plains, .ref a0_belows, .ref a0_owned, .int (iI a0_deep), .ref a0_wides, .ref a0_highs, .ref a0_lows, .ref a0_itemWides, .ref a0_pile])), (a0_highs, .inl (cs.1, 512, .inl (aI a0_highsF))), (a0_itemWides, .inl (cs.1, 512, .inl (aI a0_itemWidesF))), (a0_lows, .inl (cs.1, 512, .inl (aI a0_lowsF))), (a0_now, .inl (cs.1, 184, .inl (aI a0_nowF))), (a0_trial, .inl (cs.1, 184, .inl (aI a0_trialF))), (a0_wides, .inl (cs.1, 512, .inl (aI a0_widesF)))] (some (.int (iI r.1))) [(a0, .inr (8, [.int (iI r.2.1), .ref a0_text, .int (iI a0_textSize), .ref a0_now, .ref a0_trial, .ref a0_diary, .int (iI a0_acts), .ref a0_kept, .ref a0_isKept, .ref a0_clip, .ref a0_line, .int (iI a0_lineSize), .ref a0_read, .int (iI a0_readSize), .ref a0_opens, .ref a0_chains, .ref a0_factors, .ref a0_plains, .ref a0_belows, .ref a0_owned, .int (iI a0_deep), .ref a0_wides, .ref a0_highs, .ref a0_lows, .ref a0_itemWides, .ref a0_pile])), (a0_highs, .inl (cs.1, 512, .inl (aI r.2.2.1))), (a0_itemWides, .inl (cs.1, 512, .inl (aI r.2.2.2.1))), (a0_lows, .inl (cs.1, 512, .inl (aI r.2.2.2.2.1))), (a0_now, .inl (cs.1, 184, .inl (aI a0_nowF))), (a0_trial, .inl (cs.1, 184, .inl (aI r.2.2.2.2.2.1))), (a0_wides, .inl (cs.1, 512, .inl (aI r.2.2.2.2.2.2)))] := by
  refine q_start_i [(0, .ref a0), (1, .int (iI x1)), (2, .long (iL x2))] RX8 rfl (by decide +kernel) rfl (Nat.le_of_ble_eq_true rfl) rfl (fun κ ok fin => ?_)
  unfold f_X8_runScript at h
  refine j_aload_n (pc := 0) 0 ok dX8_runScript_0 rfl rfl ?_
  refine j_iload_n (pc := 1) 1 ok dX8_runScript_1 rfl rfl ?_
  refine j_i2l (pc := 2) ok dX8_runScript_2 h (fun h => ?_)
  refine j_lconst (pc := 3) 1 ok dX8_runScript_3 (by decide) ?_
  refine j_ldc2 (pc := 4) 4 ok dX8_runScript_4 (q_in 1485 (by decide +kernel) (by decide +kernel)) ?_
  obtain ⟨r1, hr1, h⟩ := bd_inv h
  refine j_callS (pc := 7) ok (k_X8_in (x0 := x1) (x1 := 1) (x2 := 4) hr1) gS_X8_79 hd_X8_in [] (by decide) rfl rfl rfl rfl ⟨Nat.zero_le _, Nat.zero_le _⟩ (Nat.le_of_ble_eq_true rfl) dX8_runScript_7 rfl [(a0, .inr (8, [.int (iI a0_refusal), .ref a0_text, .int (iI a0_textSize), .ref a0_now, .ref a0_trial, .ref a0_diary, .int (iI a0_acts), .ref a0_kept, .ref a0_isKept, .ref a0_clip, .ref a0_line, .int (iI a0_lineSize), .ref a0_read, .int (iI a0_readSize), .ref a0_opens, .ref a0_chains, .ref a0_factors, .ref a0_plains, .ref a0_belows, .ref a0_owned, .int (iI a0_deep), .ref a0_wides, .ref a0_highs, .ref a0_lows, .ref a0_itemWides, .ref a0_pile])), (a0_highs, .inl (cs.1, 512, .inl (aI a0_highsF))), (a0_itemWides, .inl (cs.1, 512, .inl (aI a0_itemWidesF))), (a0_lows, .inl (cs.1, 512, .inl (aI a0_lowsF))), (a0_now, .inl (cs.1, 184, .inl (aI a0_nowF))), (a0_trial, .inl (cs.1, 184, .inl (aI a0_trialF))), (a0_wides, .inl (cs.1, 512, .inl (aI a0_widesF)))] rfl ?_
  refine jn_use (P := fun z7 => q_J D κ 6 0 0 [(a0, .inr (8, [.int (iI a0_refusal), .ref a0_text, .int (iI a0_textSize), .ref a0_now, .ref a0_trial, .ref a0_diary, .int (iI a0_acts), .ref a0_kept, .ref a0_isKept, .ref a0_clip, .ref a0_line, .int (iI a0_lineSize), .ref a0_read, .int (iI a0_readSize), .ref a0_opens, .ref a0_chains, .ref a0_factors, .ref a0_plains, .ref a0_belows, .ref a0_owned, .int (iI a0_deep), .ref a0_wides, .ref a0_highs, .ref a0_lows, .ref a0_itemWides, .ref a0_pile])), (a0_highs, .inl (cs.1, 512, .inl (aI a0_highsF))), (a0_itemWides, .inl (cs.1, 512, .inl (aI a0_itemWidesF))), (a0_lows, .inl (cs.1, 512, .inl (aI a0_lowsF))), (a0_now, .inl (cs.1, 184, .inl (aI a0_nowF))), (a0_trial, .inl (cs.1, 184, .inl (aI a0_trialF))), (a0_wides, .inl (cs.1, 512, .inl (aI a0_widesF)))] [(0, .ref a0), (1, .int (iI x1)), (2, .long (iL x2))] 34 [.int (iI z7), .ref a0]) h (fun z7 h => ?_) (fun k3 hk3 h => ?_)
  · obtain ⟨r8, hr8, h⟩ := bd_inv h
    refine j_callV (pc := 34) ok (k_X8_refused (a0 := a0) (a0_text := a0_text) (a0_now := a0_now) (a0_trial := a0_trial) (a0_diary := a0_diary) (a0_kept := a0_kept) (a0_isKept := a0_isKept) (a0_clip := a0_clip) (a0_line := a0_line) (a0_read := a0_read) (a0_opens := a0_opens) (a0_chains := a0_chains) (a0_factors := a0_factors) (a0_plains := a0_plains) (a0_belows := a0_belows) (a0_owned := a0_owned) (a0_wides := a0_wides) (a0_highs := a0_highs) (a0_lows := a0_lows) (a0_itemWides := a0_itemWides) (a0_pile := a0_pile) (a0_refusal := a0_refusal) (a0_textSize := a0_textSize) (a0_acts := a0_acts) (a0_lineSize := a0_lineSize) (a0_readSize := a0_readSize) (a0_deep := a0_deep) (x1 := z7) hr8) gV_X8_150 ⟨rfl, hd_X8_refused⟩ [0] (by decide) rfl rfl 0 rfl rfl rfl rfl ⟨Nat.zero_le _, Nat.zero_le _⟩ (Nat.le_of_ble_eq_true rfl) dX8_runScript_34 rfl [(a0, .inr (8, [.int (iI r8.2), .ref a0_text, .int (iI a0_textSize), .ref a0_now, .ref a0_trial, .ref a0_diary, .int (iI a0_acts), .ref a0_kept, .ref a0_isKept, .ref a0_clip, .ref a0_line, .int (iI a0_lineSize), .ref a0_read, .int (iI a0_readSize), .ref a0_opens, .ref a0_chains, .ref a0_factors, .ref a0_plains, .ref a0_belows, .ref a0_owned, .int (iI a0_deep), .ref a0_wides, .ref a0_highs, .ref a0_lows, .ref a0_itemWides, .ref a0_pile])), (a0_highs, .inl (cs.1, 512, .inl (aI a0_highsF))), (a0_itemWides, .inl (cs.1, 512, .inl (aI a0_itemWidesF))), (a0_lows, .inl (cs.1, 512, .inl (aI a0_lowsF))), (a0_now, .inl (cs.1, 184, .inl (aI a0_nowF))), (a0_trial, .inl (cs.1, 184, .inl (aI a0_trialF))), (a0_wides, .inl (cs.1, 512, .inl (aI a0_widesF)))] rfl ?_
    refine j_if_eq (pc := 37) 42 ok dX8_runScript_37 (by decide) h (fun h => ?_) (fun h => ?_)
    · refine j_aload_n (pc := 42) 0 ok dX8_runScript_42 rfl rfl ?_
      refine gf_X8_13_8 (pc := 43) 0 ok rfl dX8_runScript_43 ?_
      refine j_iconst (pc := 46) ok dX8_runScript_46 ?_
      refine j_aload_n (pc := 47) 0 ok dX8_runScript_47 rfl rfl ?_
      refine gf_X8_16_8 (pc := 48) 0 ok rfl dX8_runScript_48 ?_
      refine j_iconst (pc := 51) ok dX8_runScript_51 ?_
      obtain ⟨r9, hr9, h⟩ := bd_inv h
      refine j_callS (pc := 52) ok (k_X8_copyPage (a0 := a0_now) (a0N := 184) (a2 := a0_trial) (a2N := 184) (a0F := a0_nowF) (a2F := a0_trialF) (x1 := 0) (x3 := 0) hr9) gS_X8_226 hd_X8_copyPage [4, 5] (by decide) rfl rfl rfl rfl ⟨Nat.zero_le _, Nat.zero_le _⟩ (Nat.le_of_ble_eq_true rfl) dX8_runScript_52 rfl [(a0, .inr (8, [.int (iI r8.2), .ref a0_text, .int (iI a0_textSize), .ref a0_now, .ref a0_trial, .ref a0_diary, .int (iI a0_acts), .ref a0_kept, .ref a0_isKept, .ref a0_clip, .ref a0_line, .int (iI a0_lineSize), .ref a0_read, .int (iI a0_readSize), .ref a0_opens, .ref a0_chains, .ref a0_factors, .ref a0_plains, .ref a0_belows, .ref a0_owned, .int (iI a0_deep), .ref a0_wides, .ref a0_highs, .ref a0_lows, .ref a0_itemWides, .ref a0_pile])), (a0_highs, .inl (cs.1, 512, .inl (aI a0_highsF))), (a0_itemWides, .inl (cs.1, 512, .inl (aI a0_itemWidesF))), (a0_lows, .inl (cs.1, 512, .inl (aI a0_lowsF))), (a0_now, .inl (cs.1, 184, .inl (aI a0_nowF))), (a0_trial, .inl (cs.1, 184, .inl (aI r9))), (a0_wides, .inl (cs.1, 512, .inl (aI a0_widesF)))] rfl ?_
      refine j_iconst (pc := 55) ok dX8_runScript_55 ?_
      refine j_istore (pc := 56) (lv' := [(4, .int (iI 0)), (0, .ref a0), (1, .int (iI x1)), (2, .long (iL x2))]) ok dX8_runScript_56 (by decide) rfl ?_
      refine j_lv [1, 2, 3, 0] rfl ?_
      refine l_X8_runScript_58 ok fin (fun z12 h => ?_) fuel _ _ _ _ _ _ _ h
      · refine j_bipush (pc := 119) ok dX8_runScript_119 (by decide) ?_
        obtain rfl := Option.some.inj h
        exact fin _ 121 dX8_runScript_121
    · refine j_iconst (pc := 40) ok dX8_runScript_40 ?_
      obtain rfl := Option.some.inj h
      exact fin _ 41 dX8_runScript_41
  · refine jn_use (P := fun z6 => q_J D κ 6 0 0 [(a0, .inr (8, [.int (iI a0_refusal), .ref a0_text, .int (iI a0_textSize), .ref a0_now, .ref a0_trial, .ref a0_diary, .int (iI a0_acts), .ref a0_kept, .ref a0_isKept, .ref a0_clip, .ref a0_line, .int (iI a0_lineSize), .ref a0_read, .int (iI a0_readSize), .ref a0_opens, .ref a0_chains, .ref a0_factors, .ref a0_plains, .ref a0_belows, .ref a0_owned, .int (iI a0_deep), .ref a0_wides, .ref a0_highs, .ref a0_lows, .ref a0_itemWides, .ref a0_pile])), (a0_highs, .inl (cs.1, 512, .inl (aI a0_highsF))), (a0_itemWides, .inl (cs.1, 512, .inl (aI a0_itemWidesF))), (a0_lows, .inl (cs.1, 512, .inl (aI a0_lowsF))), (a0_now, .inl (cs.1, 184, .inl (aI a0_nowF))), (a0_trial, .inl (cs.1, 184, .inl (aI a0_trialF))), (a0_wides, .inl (cs.1, 512, .inl (aI a0_widesF)))] [(0, .ref a0), (1, .int (iI x1)), (2, .long (iL x2))] 33 [.ref a0]) h (fun z6 h => ?_) (fun k2 hk2 h => ?_)
    · refine j_iconst (pc := 33) ok dX8_runScript_33 ?_
      exact hk3 1 h
    · refine j_if_eq (pc := 10) 33 ok dX8_runScript_10 (by decide) h (fun h => ?_) (fun h => ?_)
      · exact hk2 () h
      · refine j_lload_n (pc := 13) 2 ok dX8_runScript_13 rfl rfl ?_
        refine j_lconst (pc := 14) 0 ok dX8_runScript_14 (by decide) ?_
        refine j_iconst (pc := 15) ok dX8_runScript_15 ?_
        refine j_iload_n (pc := 16) 1 ok dX8_runScript_16 rfl rfl ?_
        refine j_imul (pc := 17) ok dX8_runScript_17 ?_
        obtain ⟨r4, hr4, h⟩ := bd_inv h
        refine j_callS (pc := 18) ok (k_X8_tenTo (x0 := 4 * x1) hr4) gS_X8_259 hd_X8_tenTo [] (by decide) rfl rfl rfl rfl ⟨Nat.zero_le _, Nat.zero_le _⟩ (Nat.le_of_ble_eq_true rfl) dX8_runScript_18 rfl [(a0, .inr (8, [.int (iI a0_refusal), .ref a0_text, .int (iI a0_textSize), .ref a0_now, .ref a0_trial, .ref a0_diary, .int (iI a0_acts), .ref a0_kept, .ref a0_isKept, .ref a0_clip, .ref a0_line, .int (iI a0_lineSize), .ref a0_read, .int (iI a0_readSize), .ref a0_opens, .ref a0_chains, .ref a0_factors, .ref a0_plains, .ref a0_belows, .ref a0_owned, .int (iI a0_deep), .ref a0_wides, .ref a0_highs, .ref a0_lows, .ref a0_itemWides, .ref a0_pile])), (a0_highs, .inl (cs.1, 512, .inl (aI a0_highsF))), (a0_itemWides, .inl (cs.1, 512, .inl (aI a0_itemWidesF))), (a0_lows, .inl (cs.1, 512, .inl (aI a0_lowsF))), (a0_now, .inl (cs.1, 184, .inl (aI a0_nowF))), (a0_trial, .inl (cs.1, 184, .inl (aI a0_trialF))), (a0_wides, .inl (cs.1, 512, .inl (aI a0_widesF)))] rfl ?_
        refine j_lconst (pc := 21) 1 ok dX8_runScript_21 (by decide) ?_
        refine j_lsub (pc := 22) ok dX8_runScript_22 ?_
        obtain ⟨r5, hr5, h⟩ := bd_inv h
        refine j_callS (pc := 23) ok (k_X8_in (x0 := x2) (x1 := 0) (x2 := r4 - 1) hr5) gS_X8_79 hd_X8_in [] (by decide) rfl rfl rfl rfl ⟨Nat.zero_le _, Nat.zero_le _⟩ (Nat.le_of_ble_eq_true rfl) dX8_runScript_23 rfl [(a0, .inr (8, [.int (iI a0_refusal), .ref a0_text, .int (iI a0_textSize), .ref a0_now, .ref a0_trial, .ref a0_diary, .int (iI a0_acts), .ref a0_kept, .ref a0_isKept, .ref a0_clip, .ref a0_line, .int (iI a0_lineSize), .ref a0_read, .int (iI a0_readSize), .ref a0_opens, .ref a0_chains, .ref a0_factors, .ref a0_plains, .ref a0_belows, .ref a0_owned, .int (iI a0_deep), .ref a0_wides, .ref a0_highs, .ref a0_lows, .ref a0_itemWides, .ref a0_pile])), (a0_highs, .inl (cs.1, 512, .inl (aI a0_highsF))), (a0_itemWides, .inl (cs.1, 512, .inl (aI a0_itemWidesF))), (a0_lows, .inl (cs.1, 512, .inl (aI a0_lowsF))), (a0_now, .inl (cs.1, 184, .inl (aI a0_nowF))), (a0_trial, .inl (cs.1, 184, .inl (aI a0_trialF))), (a0_wides, .inl (cs.1, 512, .inl (aI a0_widesF)))] rfl ?_
        refine j_if_eq (pc := 26) 33 ok dX8_runScript_26 (by decide) h (fun h => ?_) (fun h => ?_)
        · exact hk2 () h
        · refine j_iconst (pc := 29) ok dX8_runScript_29 ?_
          refine j_goto (pc := 30) 34 ok dX8_runScript_30 (by decide) ?_
          exact hk3 0 h
def f_X8_simulate_45 (y3 : Int) (e45_204 : (Nat → Int) × Int × Int → Option (Int × Int × Int × (Nat → Int) × (Nat → Int) × (Nat → Int))) : Nat → (Nat → Int) → Int → Int → Option (Int × Int × Int × (Nat → Int) × (Nat → Int) × (Nat → Int))
  | 0, _, _, _ => none
  | n + 1, a0_trialF, y4, y6 => cLt y6 y3 (gR (lsrI ((y4 * 6364136223846793005) + 1442695040888963407) 33) (gR ((lsrI ((y4 * 6364136223846793005) + 1442695040888963407) 33).tdiv 8) (gR (lsrI ((y4 * 6364136223846793005) + 1442695040888963407) 33) (jn (fun (z16 : (Nat → Int)) => f_X8_simulate_45 y3 e45_204 n z16 (y4 * 6364136223846793005) + 1442695040888963407 (y6 + 1)) (fun k8 => jn (fun (z14 : Unit) => gR (((lsrI ((y4 * 6364136223846793005) + 1442695040888963407) 33).tdiv 8).tmod 64) (bd (f_X8_types 184 a0_trialF (97 + ((((lsrI ((y4 * 6364136223846793005) + 1442695040888963407) 33).tdiv 8).tmod 64).tmod 17))) (fun r15 => k8 r15.2))) (fun k7 => jn (fun (z12 : Unit) => gR (((lsrI ((y4 * 6364136223846793005) + 1442695040888963407) 33).tdiv 8).tmod 64) (bd (f_X8_wraps 184 a0_trialF (1 + ((((lsrI ((y4 * 6364136223846793005) + 1442695040888963407) 33).tdiv 8).tmod 64).tmod 5))) (fun r13 => k8 r13.2))) (fun k6 => cEq ((lsrI ((y4 * 6364136223846793005) + 1442695040888963407) 33).tmod 8) 0 (k7 ()) (cEq ((lsrI ((y4 * 6364136223846793005) + 1442695040888963407) 33).tmod 8) 1 (k7 ()) (cEq ((lsrI ((y4 * 6364136223846793005) + 1442695040888963407) 33).tmod 8) 2 (k7 ()) (cEq ((lsrI ((y4 * 6364136223846793005) + 1442695040888963407) 33).tmod 8) 3 (k6 ()) (cEq ((lsrI ((y4 * 6364136223846793005) + 1442695040888963407) 33).tmod 8) 4 (k6 ()) (cEq ((lsrI ((y4 * 6364136223846793005) + 1442695040888963407) 33).tmod 8) 5 (bd (f_X8_moves 184 a0_trialF ((((lsrI ((y4 * 6364136223846793005) + 1442695040888963407) 33).tdiv 8).tmod 64) - 32)) (fun r9 => k8 r9)) (cEq ((lsrI ((y4 * 6364136223846793005) + 1442695040888963407) 33).tmod 8) 6 (bd (f_X8_backs 184 a0_trialF) (fun r10 => k8 r10.2)) (bd (f_X8_grows 184 a0_trialF) (fun r11 => k8 r11.2))))))))))))))) (e45_204 (a0_trialF, y4, y6))
set_option maxRecDepth 100000 in
theorem l_X8_simulate_45 {D : va_G} {cs : q_CS} {κ : q_X} {a0 a0_text a0_now a0_trial a0_diary a0_kept a0_isKept a0_clip a0_line a0_read a0_opens a0_chains a0_factors a0_plains a0_belows a0_owned a0_wides a0_highs a0_lows a0_itemWides a0_pile : Nat} {a0_refusal a0_textSize a0_acts a0_lineSize a0_readSize a0_deep : Int} {a0_lineF a0_nowF a0_pileF : Nat → Int} {y3 : Int} {r : (Int × Int × Int × (Nat → Int) × (Nat → Int) × (Nat → Int))} {e45_204 : (Nat → Int) × Int × Int → Option (Int × Int × Int × (Nat → Int) × (Nat → Int) × (Nat → Int))} (ok : q_ok D cs κ cX8_simulate 9 RX8 (q_rm 5 117)) (fin : ∀ (lv : List (Nat × Value)) (pc : Nat), decode cX8_simulate pc = .ok (.ireturn, 1) → q_J D κ 9 0 0 [(a0, .inr (8, [.int (iI r.2.1), .ref a0_text, .int (iI a0_textSize), .ref a0_now, .ref a0_trial, .ref a0_diary, .int (iI a0_acts), .ref a0_kept, .ref a0_isKept, .ref a0_clip, .ref a0_line, .int (iI r.2.2.1), .ref a0_read, .int (iI a0_readSize), .ref a0_opens, .ref a0_chains, .ref a0_factors, .ref a0_plains, .ref a0_belows, .ref a0_owned, .int (iI a0_deep), .ref a0_wides, .ref a0_highs, .ref a0_lows, .ref a0_itemWides, .ref a0_pile])), (a0_line, .inl (cs.1, 1024, .inl (aI r.2.2.2.1))), (a0_now, .inl (cs.1, 184, .inl (aI a0_nowF))), (a0_pile, .inl (cs.1, 64, .inl (aI r.2.2.2.2.1))), (a0_trial, .inl (cs.1, 184, .inl (aI r.2.2.2.2.2)))] lv pc [.int (iI r.1)]) (he45_204 : ∀ x : (Nat → Int) × Int × Int, e45_204 x = some r → q_J D κ 9 0 0 [(a0, .inr (8, [.int (iI a0_refusal), .ref a0_text, .int (iI a0_textSize), .ref a0_now, .ref a0_trial, .ref a0_diary, .int (iI a0_acts), .ref a0_kept, .ref a0_isKept, .ref a0_clip, .ref a0_line, .int (iI a0_lineSize), .ref a0_read, .int (iI a0_readSize), .ref a0_opens, .ref a0_chains, .ref a0_factors, .ref a0_plains, .ref a0_belows, .ref a0_owned, .int (iI a0_deep), .ref a0_wides, .ref a0_highs, .ref a0_lows, .ref a0_itemWides, .ref a0_pile])), (a0_line, .inl (cs.1, 1024, .inl (aI a0_lineF))), (a0_now, .inl (cs.1, 184, .inl (aI a0_nowF))), (a0_pile, .inl (cs.1, 64, .inl (aI a0_pileF))), (a0_trial, .inl (cs.1, 184, .inl (aI x.1)))] [(0, .ref a0)] 204 []) : ∀ (n : Nat) (a0_trialF : (Nat → Int)) (y4 : Int) (y6 : Int), f_X8_simulate_45 y3 e45_204 n a0_trialF y4 y6 = some r → q_J D κ 9 0 0 [(a0, .inr (8, [.int (iI a0_refusal), .ref a0_text, .int (iI a0_textSize), .ref a0_now, .ref a0_trial, .ref a0_diary, .int (iI a0_acts), .ref a0_kept, .ref a0_isKept, .ref a0_clip, .ref a0_line, .int (iI a0_lineSize), .ref a0_read, .int (iI a0_readSize), .ref a0_opens, .ref a0_chains, .ref a0_factors, .ref a0_plains, .ref a0_belows, .ref a0_owned, .int (iI a0_deep), .ref a0_wides, .ref a0_highs, .ref a0_lows, .ref a0_itemWides, .ref a0_pile])), (a0_line, .inl (cs.1, 1024, .inl (aI a0_lineF))), (a0_now, .inl (cs.1, 184, .inl (aI a0_nowF))), (a0_pile, .inl (cs.1, 64, .inl (aI a0_pileF))), (a0_trial, .inl (cs.1, 184, .inl (aI a0_trialF)))] [(0, .ref a0), (3, .int (iI y3)), (4, .long (iL y4)), (6, .int (iI y6))] 45 [] := by
  intro n
  induction n with
  | zero =>
    intro a0_trialF y4 y6 h
    exact absurd h (by unfold f_X8_simulate_45; exact fun z => by cases z)
  | succ n ih =>
    intro a0_trialF y4 y6 h
    unfold f_X8_simulate_45 at h
    refine j_iload (pc := 45) 3 ok dX8_simulate_45 rfl ?_
    refine j_iload_n (pc := 47) 1 ok dX8_simulate_47 rfl rfl ?_
    refine j_icmp_ge (pc := 48) 204 ok dX8_simulate_48 (by decide) h (fun h => ?_) (fun h => ?_)
    · refine j_lv [0] rfl ?_
      exact he45_204 (a0_trialF, y4, y6) h
    · refine j_lload (pc := 51) 2 ok dX8_simulate_51 rfl ?_
      refine j_ldc2 (pc := 53) 6364136223846793005 ok dX8_simulate_53 (q_in 1500 (by decide +kernel) (by decide +kernel)) ?_
      refine j_lmul (pc := 56) ok dX8_simulate_56 ?_
      refine j_ldc2 (pc := 57) 1442695040888963407 ok dX8_simulate_57 (q_in 1501 (by decide +kernel) (by decide +kernel)) ?_
      refine j_ladd (pc := 60) ok dX8_simulate_60 ?_
      refine j_lstore (pc := 61) (lv' := [(4, .long (iL ((y4 * 6364136223846793005) + 1442695040888963407))), (0, .ref a0), (3, .int (iI y3)), (6, .int (iI y6))]) ok dX8_simulate_61 (by decide) rfl ?_
      refine j_lload (pc := 63) 0 ok dX8_simulate_63 rfl ?_
      refine j_bipush (pc := 65) ok dX8_simulate_65 (by decide) ?_
      refine j_lushr (pc := 67) ok dX8_simulate_67 ?_
      refine j_l2i (pc := 68) ok dX8_simulate_68 ?_
      refine j_istore (pc := 69) (lv' := [(7, .int (iI (lsrI ((y4 * 6364136223846793005) + 1442695040888963407) 33))), (4, .long (iL ((y4 * 6364136223846793005) + 1442695040888963407))), (0, .ref a0), (3, .int (iI y3)), (6, .int (iI y6))]) ok dX8_simulate_69 (by decide) rfl ?_
      refine j_iload (pc := 71) 0 ok dX8_simulate_71 rfl ?_
      refine j_bipush (pc := 73) ok dX8_simulate_73 (by decide) ?_
      refine j_idiv (pc := 75) ok dX8_simulate_75 (by decide) (by decide) h (fun h => ?_)
      refine j_bipush (pc := 76) ok dX8_simulate_76 (by decide) ?_
      refine j_irem (pc := 78) ok dX8_simulate_78 (by decide) (by decide) h (fun h => ?_)
      refine j_istore (pc := 79) (lv' := [(8, .int (iI (((lsrI ((y4 * 6364136223846793005) + 1442695040888963407) 33).tdiv 8).tmod 64))), (7, .int (iI (lsrI ((y4 * 6364136223846793005) + 1442695040888963407) 33))), (4, .long (iL ((y4 * 6364136223846793005) + 1442695040888963407))), (0, .ref a0), (3, .int (iI y3)), (6, .int (iI y6))]) ok dX8_simulate_79 (by decide) rfl ?_
      refine j_iload (pc := 81) 1 ok dX8_simulate_81 rfl ?_
      refine j_bipush (pc := 83) ok dX8_simulate_83 (by decide) ?_
      refine j_irem (pc := 85) ok dX8_simulate_85 (by decide) (by decide) h (fun h => ?_)
      refine jn_use (P := fun z16 => q_J D κ 9 0 0 [(a0, .inr (8, [.int (iI a0_refusal), .ref a0_text, .int (iI a0_textSize), .ref a0_now, .ref a0_trial, .ref a0_diary, .int (iI a0_acts), .ref a0_kept, .ref a0_isKept, .ref a0_clip, .ref a0_line, .int (iI a0_lineSize), .ref a0_read, .int (iI a0_readSize), .ref a0_opens, .ref a0_chains, .ref a0_factors, .ref a0_plains, .ref a0_belows, .ref a0_owned, .int (iI a0_deep), .ref a0_wides, .ref a0_highs, .ref a0_lows, .ref a0_itemWides, .ref a0_pile])), (a0_line, .inl (cs.1, 1024, .inl (aI a0_lineF))), (a0_now, .inl (cs.1, 184, .inl (aI a0_nowF))), (a0_pile, .inl (cs.1, 64, .inl (aI a0_pileF))), (a0_trial, .inl (cs.1, 184, .inl (aI z16)))] [(0, .ref a0), (3, .int (iI y3)), (4, .long (iL ((y4 * 6364136223846793005) + 1442695040888963407))), (6, .int (iI y6))] 198 []) h (fun z16 h => ?_) (fun k8 hk8 h => ?_)
      · refine j_iinc (pc := 198) (lv' := [(6, .int (iI (y6 + 1))), (0, .ref a0), (3, .int (iI y3)), (4, .long (iL ((y4 * 6364136223846793005) + 1442695040888963407)))]) 3 ok dX8_simulate_198 rfl (by decide) rfl ?_
        refine j_goto (pc := 201) 45 ok dX8_simulate_201 (by decide) ?_
        refine j_lv [1, 2, 3, 0] rfl ?_
        exact ih _ _ _ h
      · refine jn_use (P := fun z14 => q_J D κ 9 0 0 [(a0, .inr (8, [.int (iI a0_refusal), .ref a0_text, .int (iI a0_textSize), .ref a0_now, .ref a0_trial, .ref a0_diary, .int (iI a0_acts), .ref a0_kept, .ref a0_isKept, .ref a0_clip, .ref a0_line, .int (iI a0_lineSize), .ref a0_read, .int (iI a0_readSize), .ref a0_opens, .ref a0_chains, .ref a0_factors, .ref a0_plains, .ref a0_belows, .ref a0_owned, .int (iI a0_deep), .ref a0_wides, .ref a0_highs, .ref a0_lows, .ref a0_itemWides, .ref a0_pile])), (a0_line, .inl (cs.1, 1024, .inl (aI a0_lineF))), (a0_now, .inl (cs.1, 184, .inl (aI a0_nowF))), (a0_pile, .inl (cs.1, 64, .inl (aI a0_pileF))), (a0_trial, .inl (cs.1, 184, .inl (aI a0_trialF)))] [(0, .ref a0), (3, .int (iI y3)), (4, .long (iL ((y4 * 6364136223846793005) + 1442695040888963407))), (6, .int (iI y6)), (8, .int (iI (((lsrI ((y4 * 6364136223846793005) + 1442695040888963407) 33).tdiv 8).tmod 64)))] 128 []) h (fun z14 h => ?_) (fun k7 hk7 h => ?_)
        · refine j_aload_n (pc := 128) 0 ok dX8_simulate_128 rfl rfl ?_
          refine gf_X8_16_8 (pc := 129) 0 ok rfl dX8_simulate_129 ?_
          refine j_bipush (pc := 132) ok dX8_simulate_132 (by decide) ?_
          refine j_iload (pc := 134) 4 ok dX8_simulate_134 rfl ?_
          refine j_bipush (pc := 136) ok dX8_simulate_136 (by decide) ?_
          refine j_irem (pc := 138) ok dX8_simulate_138 (by decide) (by decide) h (fun h => ?_)
          refine j_iadd (pc := 139) ok dX8_simulate_139 ?_
          obtain ⟨r15, hr15, h⟩ := bd_inv h
          refine j_callS (pc := 140) ok (k_X8_types (a0 := a0_trial) (a0N := 184) (a0F := a0_trialF) (x1 := 97 + ((((lsrI ((y4 * 6364136223846793005) + 1442695040888963407) 33).tdiv 8).tmod 64).tmod 17)) hr15) gS_X8_233 hd_X8_types [4] (by decide) rfl rfl rfl rfl ⟨Nat.zero_le _, Nat.zero_le _⟩ (Nat.le_of_ble_eq_true rfl) dX8_simulate_140 rfl [(a0, .inr (8, [.int (iI a0_refusal), .ref a0_text, .int (iI a0_textSize), .ref a0_now, .ref a0_trial, .ref a0_diary, .int (iI a0_acts), .ref a0_kept, .ref a0_isKept, .ref a0_clip, .ref a0_line, .int (iI a0_lineSize), .ref a0_read, .int (iI a0_readSize), .ref a0_opens, .ref a0_chains, .ref a0_factors, .ref a0_plains, .ref a0_belows, .ref a0_owned, .int (iI a0_deep), .ref a0_wides, .ref a0_highs, .ref a0_lows, .ref a0_itemWides, .ref a0_pile])), (a0_line, .inl (cs.1, 1024, .inl (aI a0_lineF))), (a0_now, .inl (cs.1, 184, .inl (aI a0_nowF))), (a0_pile, .inl (cs.1, 64, .inl (aI a0_pileF))), (a0_trial, .inl (cs.1, 184, .inl (aI r15.2)))] rfl ?_
          refine j_pop (pc := 143) ok dX8_simulate_143 rfl ?_
          refine j_goto (pc := 144) 198 ok dX8_simulate_144 (by decide) ?_
          refine j_lv [0, 1, 2, 3] rfl ?_
          exact hk8 r15.2 h
        · refine jn_use (P := fun z12 => q_J D κ 9 0 0 [(a0, .inr (8, [.int (iI a0_refusal), .ref a0_text, .int (iI a0_textSize), .ref a0_now, .ref a0_trial, .ref a0_diary, .int (iI a0_acts), .ref a0_kept, .ref a0_isKept, .ref a0_clip, .ref a0_line, .int (iI a0_lineSize), .ref a0_read, .int (iI a0_readSize), .ref a0_opens, .ref a0_chains, .ref a0_factors, .ref a0_plains, .ref a0_belows, .ref a0_owned, .int (iI a0_deep), .ref a0_wides, .ref a0_highs, .ref a0_lows, .ref a0_itemWides, .ref a0_pile])), (a0_line, .inl (cs.1, 1024, .inl (aI a0_lineF))), (a0_now, .inl (cs.1, 184, .inl (aI a0_nowF))), (a0_pile, .inl (cs.1, 64, .inl (aI a0_pileF))), (a0_trial, .inl (cs.1, 184, .inl (aI a0_trialF)))] [(0, .ref a0), (3, .int (iI y3)), (4, .long (iL ((y4 * 6364136223846793005) + 1442695040888963407))), (6, .int (iI y6)), (8, .int (iI (((lsrI ((y4 * 6364136223846793005) + 1442695040888963407) 33).tdiv 8).tmod 64)))] 147 []) h (fun z12 h => ?_) (fun k6 hk6 h => ?_)
          · refine j_aload_n (pc := 147) 0 ok dX8_simulate_147 rfl rfl ?_
            refine gf_X8_16_8 (pc := 148) 0 ok rfl dX8_simulate_148 ?_
            refine j_iconst (pc := 151) ok dX8_simulate_151 ?_
            refine j_iload (pc := 152) 4 ok dX8_simulate_152 rfl ?_
            refine j_iconst (pc := 154) ok dX8_simulate_154 ?_
            refine j_irem (pc := 155) ok dX8_simulate_155 (by decide) (by decide) h (fun h => ?_)
            refine j_iadd (pc := 156) ok dX8_simulate_156 ?_
            obtain ⟨r13, hr13, h⟩ := bd_inv h
            refine j_callS (pc := 157) ok (k_X8_wraps (a0 := a0_trial) (a0N := 184) (a0F := a0_trialF) (x1 := 1 + ((((lsrI ((y4 * 6364136223846793005) + 1442695040888963407) 33).tdiv 8).tmod 64).tmod 5)) hr13) gS_X8_240 hd_X8_wraps [4] (by decide) rfl rfl rfl rfl ⟨Nat.zero_le _, Nat.zero_le _⟩ (Nat.le_of_ble_eq_true rfl) dX8_simulate_157 rfl [(a0, .inr (8, [.int (iI a0_refusal), .ref a0_text, .int (iI a0_textSize), .ref a0_now, .ref a0_trial, .ref a0_diary, .int (iI a0_acts), .ref a0_kept, .ref a0_isKept, .ref a0_clip, .ref a0_line, .int (iI a0_lineSize), .ref a0_read, .int (iI a0_readSize), .ref a0_opens, .ref a0_chains, .ref a0_factors, .ref a0_plains, .ref a0_belows, .ref a0_owned, .int (iI a0_deep), .ref a0_wides, .ref a0_highs, .ref a0_lows, .ref a0_itemWides, .ref a0_pile])), (a0_line, .inl (cs.1, 1024, .inl (aI a0_lineF))), (a0_now, .inl (cs.1, 184, .inl (aI a0_nowF))), (a0_pile, .inl (cs.1, 64, .inl (aI a0_pileF))), (a0_trial, .inl (cs.1, 184, .inl (aI r13.2)))] rfl ?_
            refine j_pop (pc := 160) ok dX8_simulate_160 rfl ?_
            refine j_goto (pc := 161) 198 ok dX8_simulate_161 (by decide) ?_
            refine j_lv [0, 1, 2, 3] rfl ?_
            exact hk8 r13.2 h
          · obtain ⟨hR, h1, h2⟩ := cEq_inv h
            by_cases e86_0 : (lsrI ((y4 * 6364136223846793005) + 1442695040888963407) 33).tmod 8 = 0
            · have h := h1 e86_0
              refine j_tabIn (pc := 86) 0 128 ok dX8_simulate_86 hR.1 e86_0 (by decide) rfl (by decide) ?_
              refine j_lv [3, 4, 2, 5, 0] rfl ?_
              exact hk7 () h
            · have h := h2 e86_0
              obtain ⟨hR, h1, h2⟩ := cEq_inv h
              by_cases e86_1 : (lsrI ((y4 * 6364136223846793005) + 1442695040888963407) 33).tmod 8 = 1
              · have h := h1 e86_1
                refine j_tabIn (pc := 86) 1 128 ok dX8_simulate_86 hR.1 e86_1 (by decide) rfl (by decide) ?_
                refine j_lv [3, 4, 2, 5, 0] rfl ?_
                exact hk7 () h
              · have h := h2 e86_1
                obtain ⟨hR, h1, h2⟩ := cEq_inv h
                by_cases e86_2 : (lsrI ((y4 * 6364136223846793005) + 1442695040888963407) 33).tmod 8 = 2
                · have h := h1 e86_2
                  refine j_tabIn (pc := 86) 2 128 ok dX8_simulate_86 hR.1 e86_2 (by decide) rfl (by decide) ?_
                  refine j_lv [3, 4, 2, 5, 0] rfl ?_
                  exact hk7 () h
                · have h := h2 e86_2
                  obtain ⟨hR, h1, h2⟩ := cEq_inv h
                  by_cases e86_3 : (lsrI ((y4 * 6364136223846793005) + 1442695040888963407) 33).tmod 8 = 3
                  · have h := h1 e86_3
                    refine j_tabIn (pc := 86) 3 147 ok dX8_simulate_86 hR.1 e86_3 (by decide) rfl (by decide) ?_
                    refine j_lv [3, 4, 2, 5, 0] rfl ?_
                    exact hk6 () h
                  · have h := h2 e86_3
                    obtain ⟨hR, h1, h2⟩ := cEq_inv h
                    by_cases e86_4 : (lsrI ((y4 * 6364136223846793005) + 1442695040888963407) 33).tmod 8 = 4
                    · have h := h1 e86_4
                      refine j_tabIn (pc := 86) 4 147 ok dX8_simulate_86 hR.1 e86_4 (by decide) rfl (by decide) ?_
                      refine j_lv [3, 4, 2, 5, 0] rfl ?_
                      exact hk6 () h
                    · have h := h2 e86_4
                      obtain ⟨hR, h1, h2⟩ := cEq_inv h
                      by_cases e86_5 : (lsrI ((y4 * 6364136223846793005) + 1442695040888963407) 33).tmod 8 = 5
                      · have h := h1 e86_5
                        refine j_tabIn (pc := 86) 5 164 ok dX8_simulate_86 hR.1 e86_5 (by decide) rfl (by decide) ?_
                        refine j_aload_n (pc := 164) 3 ok dX8_simulate_164 rfl rfl ?_
                        refine gf_X8_16_8 (pc := 165) 0 ok rfl dX8_simulate_165 ?_
                        refine j_iload (pc := 168) 0 ok dX8_simulate_168 rfl ?_
                        refine j_bipush (pc := 170) ok dX8_simulate_170 (by decide) ?_
                        refine j_isub (pc := 172) ok dX8_simulate_172 ?_
                        obtain ⟨r9, hr9, h⟩ := bd_inv h
                        refine j_callS (pc := 173) ok (k_X8_moves (a0 := a0_trial) (a0N := 184) (a0F := a0_trialF) (x1 := (((lsrI ((y4 * 6364136223846793005) + 1442695040888963407) 33).tdiv 8).tmod 64) - 32) hr9) gS_X8_214 hd_X8_moves [4] (by decide) rfl rfl rfl rfl ⟨Nat.zero_le _, Nat.zero_le _⟩ (Nat.le_of_ble_eq_true rfl) dX8_simulate_173 rfl [(a0, .inr (8, [.int (iI a0_refusal), .ref a0_text, .int (iI a0_textSize), .ref a0_now, .ref a0_trial, .ref a0_diary, .int (iI a0_acts), .ref a0_kept, .ref a0_isKept, .ref a0_clip, .ref a0_line, .int (iI a0_lineSize), .ref a0_read, .int (iI a0_readSize), .ref a0_opens, .ref a0_chains, .ref a0_factors, .ref a0_plains, .ref a0_belows, .ref a0_owned, .int (iI a0_deep), .ref a0_wides, .ref a0_highs, .ref a0_lows, .ref a0_itemWides, .ref a0_pile])), (a0_line, .inl (cs.1, 1024, .inl (aI a0_lineF))), (a0_now, .inl (cs.1, 184, .inl (aI a0_nowF))), (a0_pile, .inl (cs.1, 64, .inl (aI a0_pileF))), (a0_trial, .inl (cs.1, 184, .inl (aI r9)))] rfl ?_
                        refine j_goto (pc := 176) 198 ok dX8_simulate_176 (by decide) ?_
                        refine j_lv [3, 4, 2, 5] rfl ?_
                        exact hk8 r9 h
                      · have h := h2 e86_5
                        obtain ⟨hR, h1, h2⟩ := cEq_inv h
                        by_cases e86_6 : (lsrI ((y4 * 6364136223846793005) + 1442695040888963407) 33).tmod 8 = 6
                        · have h := h1 e86_6
                          refine j_tabIn (pc := 86) 6 179 ok dX8_simulate_86 hR.1 e86_6 (by decide) rfl (by decide) ?_
                          refine j_aload_n (pc := 179) 3 ok dX8_simulate_179 rfl rfl ?_
                          refine gf_X8_16_8 (pc := 180) 0 ok rfl dX8_simulate_180 ?_
                          obtain ⟨r10, hr10, h⟩ := bd_inv h
                          refine j_callS (pc := 183) ok (k_X8_backs (a0 := a0_trial) (a0N := 184) (a0F := a0_trialF) hr10) gS_X8_243 hd_X8_backs [4] (by decide) rfl rfl rfl rfl ⟨Nat.zero_le _, Nat.zero_le _⟩ (Nat.le_of_ble_eq_true rfl) dX8_simulate_183 rfl [(a0, .inr (8, [.int (iI a0_refusal), .ref a0_text, .int (iI a0_textSize), .ref a0_now, .ref a0_trial, .ref a0_diary, .int (iI a0_acts), .ref a0_kept, .ref a0_isKept, .ref a0_clip, .ref a0_line, .int (iI a0_lineSize), .ref a0_read, .int (iI a0_readSize), .ref a0_opens, .ref a0_chains, .ref a0_factors, .ref a0_plains, .ref a0_belows, .ref a0_owned, .int (iI a0_deep), .ref a0_wides, .ref a0_highs, .ref a0_lows, .ref a0_itemWides, .ref a0_pile])), (a0_line, .inl (cs.1, 1024, .inl (aI a0_lineF))), (a0_now, .inl (cs.1, 184, .inl (aI a0_nowF))), (a0_pile, .inl (cs.1, 64, .inl (aI a0_pileF))), (a0_trial, .inl (cs.1, 184, .inl (aI r10.2)))] rfl ?_
                          refine j_pop (pc := 186) ok dX8_simulate_186 rfl ?_
                          refine j_goto (pc := 187) 198 ok dX8_simulate_187 (by decide) ?_
                          refine j_lv [3, 4, 2, 5] rfl ?_
                          exact hk8 r10.2 h
                        · have h := h2 e86_6
                          refine j_tabOut (pc := 86) 190 ok dX8_simulate_86 hR.1 (by omega) (by decide) ?_
                          refine j_aload_n (pc := 190) 3 ok dX8_simulate_190 rfl rfl ?_
                          refine gf_X8_16_8 (pc := 191) 0 ok rfl dX8_simulate_191 ?_
                          obtain ⟨r11, hr11, h⟩ := bd_inv h
                          refine j_callS (pc := 194) ok (k_X8_grows (a0 := a0_trial) (a0N := 184) (a0F := a0_trialF) hr11) gS_X8_222 hd_X8_grows [4] (by decide) rfl rfl rfl rfl ⟨Nat.zero_le _, Nat.zero_le _⟩ (Nat.le_of_ble_eq_true rfl) dX8_simulate_194 rfl [(a0, .inr (8, [.int (iI a0_refusal), .ref a0_text, .int (iI a0_textSize), .ref a0_now, .ref a0_trial, .ref a0_diary, .int (iI a0_acts), .ref a0_kept, .ref a0_isKept, .ref a0_clip, .ref a0_line, .int (iI a0_lineSize), .ref a0_read, .int (iI a0_readSize), .ref a0_opens, .ref a0_chains, .ref a0_factors, .ref a0_plains, .ref a0_belows, .ref a0_owned, .int (iI a0_deep), .ref a0_wides, .ref a0_highs, .ref a0_lows, .ref a0_itemWides, .ref a0_pile])), (a0_line, .inl (cs.1, 1024, .inl (aI a0_lineF))), (a0_now, .inl (cs.1, 184, .inl (aI a0_nowF))), (a0_pile, .inl (cs.1, 64, .inl (aI a0_pileF))), (a0_trial, .inl (cs.1, 184, .inl (aI r11.2)))] rfl ?_
                          refine j_pop (pc := 197) ok dX8_simulate_197 rfl ?_
                          refine j_lv [3, 4, 2, 5] rfl ?_
                          exact hk8 r11.2 h
def f_X8_simulate (a0_refusal : Int) (a0_lineSize : Int) (a0_lineF : (Nat → Int)) (a0_nowF : (Nat → Int)) (a0_pileF : (Nat → Int)) (a0_trialF : (Nat → Int)) (x1 : Int) (x2 : Int) : Option (Int × Int × Int × (Nat → Int) × (Nat → Int) × (Nat → Int)) := gR x2 (bd (f_X8_in x2 1 60) (fun r1 => jn (fun (z3 : Int) => bd (f_X8_refused a0_refusal z3) (fun r4 => cEq r4.1 0 (bd (f_X8_copyPage 184 184 a0_nowF a0_trialF 0 0) (fun r5 => f_X8_simulate_45 x2 (fun (z17 : (Nat → Int) × Int × Int) => bd (f_X8_layLine 184 a0_lineSize a0_lineF a0_pileF z17.1) (fun r18 => gIn 180 184 (bd (f_X8_allIn 184 z17.1 0 (z17.1 (180 : Int).toNat)) (fun r19 => some ((1000 * r19) + r18.1, r4.2, r18.1, r18.2.1, r18.2.2, z17.1))))) fuel r5 x1 0)) (some (0, r4.2, a0_lineSize, a0_lineF, a0_pileF, a0_trialF)))) (fun k2 => cEq r1 0 (k2 1) (k2 0))))
set_option maxRecDepth 100000 in
set_option maxHeartbeats 4000000 in
theorem k_X8_simulate {D : va_G} {cs : q_CS} {a0 a0_text a0_now a0_trial a0_diary a0_kept a0_isKept a0_clip a0_line a0_read a0_opens a0_chains a0_factors a0_plains a0_belows a0_owned a0_wides a0_highs a0_lows a0_itemWides a0_pile : Nat} {a0_refusal a0_textSize a0_acts a0_lineSize a0_readSize a0_deep : Int} {a0_lineF a0_nowF a0_pileF a0_trialF : Nat → Int} {x1 x2 : Int} {r : (Int × Int × Int × (Nat → Int) × (Nat → Int) × (Nat → Int))} (h : f_X8_simulate a0_refusal a0_lineSize a0_lineF a0_nowF a0_pileF a0_trialF x1 x2 = some r) : q_M D cs yX8_simulate cX8_simulate 9 (some .int) 5 117 [.ref a0, .long (iL x1), .int (iI x2)] [(a0, .inr (8, [.int (iI a0_refusal), .ref a0_text, .int (iI a0_textSize), .ref a0_now, .ref a0_trial, .ref a0_diary, .int (iI a0_acts), .ref a0_kept, .ref a0_isKept, .ref a0_clip, .ref a0_line, .int (iI a0_lineSize), .ref a0_read, .int (iI a0_readSize), .ref a0_opens, .ref a0_chains, .ref a0_factors, .ref a0_plains, .ref a0_belows, .ref a0_owned, .int (iI a0_deep), .ref a0_wides, .ref a0_highs, .ref a0_lows, .ref a0_itemWides, .ref a0_pile])), (a0_line, .inl (cs.1, 1024, .inl (aI a0_lineF))), (a0_now, .inl (cs.1, 184, .inl (aI a0_nowF))), (a0_pile, .inl (cs.1, 64, .inl (aI a0_pileF))), (a0_trial, .inl (cs.1, 184, .inl (aI a0_trialF)))] (some (.int (iI r.1))) [(a0, .inr (8, [.int (iI r.2.1), .ref a0_text, .int (iI a0_textSize), .ref a0_now, .ref a0_trial, .ref a0_diary, .int (iI a0_acts), .ref a0_kept, .ref a0_isKept, .ref a0_clip, .ref a0_line, .int (iI r.2.2.1), .ref a0_read, .int (iI a0_readSize), .ref a0_opens, .ref a0_chains, .ref a0_factors, .ref a0_plains, .ref a0_belows, .ref a0_owned, .int (iI a0_deep), .ref a0_wides, .ref a0_highs, .ref a0_lows, .ref a0_itemWides, .ref a0_pile])), (a0_line, .inl (cs.1, 1024, .inl (aI r.2.2.2.1))), (a0_now, .inl (cs.1, 184, .inl (aI a0_nowF))), (a0_pile, .inl (cs.1, 64, .inl (aI r.2.2.2.2.1))), (a0_trial, .inl (cs.1, 184, .inl (aI r.2.2.2.2.2)))] := by
  refine q_start_i [(0, .ref a0), (1, .long (iL x1)), (3, .int (iI x2))] RX8 rfl (by decide +kernel) rfl (Nat.le_of_ble_eq_true rfl) rfl (fun κ ok fin => ?_)
  unfold f_X8_simulate at h
  refine j_aload_n (pc := 0) 0 ok dX8_simulate_0 rfl rfl ?_
  refine j_iload_n (pc := 1) 2 ok dX8_simulate_1 rfl rfl ?_
  refine j_i2l (pc := 2) ok dX8_simulate_2 h (fun h => ?_)
  refine j_lconst (pc := 3) 1 ok dX8_simulate_3 (by decide) ?_
  refine j_ldc2 (pc := 4) 60 ok dX8_simulate_4 (q_in 1499 (by decide +kernel) (by decide +kernel)) ?_
  obtain ⟨r1, hr1, h⟩ := bd_inv h
  refine j_callS (pc := 7) ok (k_X8_in (x0 := x2) (x1 := 1) (x2 := 60) hr1) gS_X8_79 hd_X8_in [] (by decide) rfl rfl rfl rfl ⟨Nat.zero_le _, Nat.zero_le _⟩ (Nat.le_of_ble_eq_true rfl) dX8_simulate_7 rfl [(a0, .inr (8, [.int (iI a0_refusal), .ref a0_text, .int (iI a0_textSize), .ref a0_now, .ref a0_trial, .ref a0_diary, .int (iI a0_acts), .ref a0_kept, .ref a0_isKept, .ref a0_clip, .ref a0_line, .int (iI a0_lineSize), .ref a0_read, .int (iI a0_readSize), .ref a0_opens, .ref a0_chains, .ref a0_factors, .ref a0_plains, .ref a0_belows, .ref a0_owned, .int (iI a0_deep), .ref a0_wides, .ref a0_highs, .ref a0_lows, .ref a0_itemWides, .ref a0_pile])), (a0_line, .inl (cs.1, 1024, .inl (aI a0_lineF))), (a0_now, .inl (cs.1, 184, .inl (aI a0_nowF))), (a0_pile, .inl (cs.1, 64, .inl (aI a0_pileF))), (a0_trial, .inl (cs.1, 184, .inl (aI a0_trialF)))] rfl ?_
  refine jn_use (P := fun z3 => q_J D κ 9 0 0 [(a0, .inr (8, [.int (iI a0_refusal), .ref a0_text, .int (iI a0_textSize), .ref a0_now, .ref a0_trial, .ref a0_diary, .int (iI a0_acts), .ref a0_kept, .ref a0_isKept, .ref a0_clip, .ref a0_line, .int (iI a0_lineSize), .ref a0_read, .int (iI a0_readSize), .ref a0_opens, .ref a0_chains, .ref a0_factors, .ref a0_plains, .ref a0_belows, .ref a0_owned, .int (iI a0_deep), .ref a0_wides, .ref a0_highs, .ref a0_lows, .ref a0_itemWides, .ref a0_pile])), (a0_line, .inl (cs.1, 1024, .inl (aI a0_lineF))), (a0_now, .inl (cs.1, 184, .inl (aI a0_nowF))), (a0_pile, .inl (cs.1, 64, .inl (aI a0_pileF))), (a0_trial, .inl (cs.1, 184, .inl (aI a0_trialF)))] [(0, .ref a0), (1, .long (iL x1)), (3, .int (iI x2))] 18 [.int (iI z3), .ref a0]) h (fun z3 h => ?_) (fun k2 hk2 h => ?_)
  · obtain ⟨r4, hr4, h⟩ := bd_inv h
    refine j_callV (pc := 18) ok (k_X8_refused (a0 := a0) (a0_text := a0_text) (a0_now := a0_now) (a0_trial := a0_trial) (a0_diary := a0_diary) (a0_kept := a0_kept) (a0_isKept := a0_isKept) (a0_clip := a0_clip) (a0_line := a0_line) (a0_read := a0_read) (a0_opens := a0_opens) (a0_chains := a0_chains) (a0_factors := a0_factors) (a0_plains := a0_plains) (a0_belows := a0_belows) (a0_owned := a0_owned) (a0_wides := a0_wides) (a0_highs := a0_highs) (a0_lows := a0_lows) (a0_itemWides := a0_itemWides) (a0_pile := a0_pile) (a0_refusal := a0_refusal) (a0_textSize := a0_textSize) (a0_acts := a0_acts) (a0_lineSize := a0_lineSize) (a0_readSize := a0_readSize) (a0_deep := a0_deep) (x1 := z3) hr4) gV_X8_150 ⟨rfl, hd_X8_refused⟩ [0] (by decide) rfl rfl 0 rfl rfl rfl rfl ⟨Nat.zero_le _, Nat.zero_le _⟩ (Nat.le_of_ble_eq_true rfl) dX8_simulate_18 rfl [(a0, .inr (8, [.int (iI r4.2), .ref a0_text, .int (iI a0_textSize), .ref a0_now, .ref a0_trial, .ref a0_diary, .int (iI a0_acts), .ref a0_kept, .ref a0_isKept, .ref a0_clip, .ref a0_line, .int (iI a0_lineSize), .ref a0_read, .int (iI a0_readSize), .ref a0_opens, .ref a0_chains, .ref a0_factors, .ref a0_plains, .ref a0_belows, .ref a0_owned, .int (iI a0_deep), .ref a0_wides, .ref a0_highs, .ref a0_lows, .ref a0_itemWides, .ref a0_pile])), (a0_line, .inl (cs.1, 1024, .inl (aI a0_lineF))), (a0_now, .inl (cs.1, 184, .inl (aI a0_nowF))), (a0_pile, .inl (cs.1, 64, .inl (aI a0_pileF))), (a0_trial, .inl (cs.1, 184, .inl (aI a0_trialF)))] rfl ?_
    refine j_if_eq (pc := 21) 26 ok dX8_simulate_21 (by decide) h (fun h => ?_) (fun h => ?_)
    · refine j_aload_n (pc := 26) 0 ok dX8_simulate_26 rfl rfl ?_
      refine gf_X8_13_8 (pc := 27) 0 ok rfl dX8_simulate_27 ?_
      refine j_iconst (pc := 30) ok dX8_simulate_30 ?_
      refine j_aload_n (pc := 31) 0 ok dX8_simulate_31 rfl rfl ?_
      refine gf_X8_16_8 (pc := 32) 0 ok rfl dX8_simulate_32 ?_
      refine j_iconst (pc := 35) ok dX8_simulate_35 ?_
      obtain ⟨r5, hr5, h⟩ := bd_inv h
      refine j_callS (pc := 36) ok (k_X8_copyPage (a0 := a0_now) (a0N := 184) (a2 := a0_trial) (a2N := 184) (a0F := a0_nowF) (a2F := a0_trialF) (x1 := 0) (x3 := 0) hr5) gS_X8_226 hd_X8_copyPage [2, 4] (by decide) rfl rfl rfl rfl ⟨Nat.zero_le _, Nat.zero_le _⟩ (Nat.le_of_ble_eq_true rfl) dX8_simulate_36 rfl [(a0, .inr (8, [.int (iI r4.2), .ref a0_text, .int (iI a0_textSize), .ref a0_now, .ref a0_trial, .ref a0_diary, .int (iI a0_acts), .ref a0_kept, .ref a0_isKept, .ref a0_clip, .ref a0_line, .int (iI a0_lineSize), .ref a0_read, .int (iI a0_readSize), .ref a0_opens, .ref a0_chains, .ref a0_factors, .ref a0_plains, .ref a0_belows, .ref a0_owned, .int (iI a0_deep), .ref a0_wides, .ref a0_highs, .ref a0_lows, .ref a0_itemWides, .ref a0_pile])), (a0_line, .inl (cs.1, 1024, .inl (aI a0_lineF))), (a0_now, .inl (cs.1, 184, .inl (aI a0_nowF))), (a0_pile, .inl (cs.1, 64, .inl (aI a0_pileF))), (a0_trial, .inl (cs.1, 184, .inl (aI r5)))] rfl ?_
      refine j_lload_n (pc := 39) 1 ok dX8_simulate_39 rfl rfl ?_
      refine j_lstore (pc := 40) (lv' := [(4, .long (iL x1)), (0, .ref a0), (1, .long (iL x1)), (3, .int (iI x2))]) ok dX8_simulate_40 (by decide) rfl ?_
      refine j_iconst (pc := 42) ok dX8_simulate_42 ?_
      refine j_istore (pc := 43) (lv' := [(6, .int (iI 0)), (4, .long (iL x1)), (0, .ref a0), (1, .long (iL x1)), (3, .int (iI x2))]) ok dX8_simulate_43 (by decide) rfl ?_
      refine j_lv [2, 4, 1, 0] rfl ?_
      refine l_X8_simulate_45 ok fin (fun z17 h => ?_) fuel _ _ _ h
      · refine j_aload_n (pc := 204) 0 ok dX8_simulate_204 rfl rfl ?_
        refine j_aload_n (pc := 205) 0 ok dX8_simulate_205 rfl rfl ?_
        refine gf_X8_16_8 (pc := 206) 0 ok rfl dX8_simulate_206 ?_
        obtain ⟨r18, hr18, h⟩ := bd_inv h
        refine j_callV (pc := 209) ok (k_X8_layLine (a0 := a0) (a0_text := a0_text) (a0_now := a0_now) (a0_trial := a0_trial) (a0_diary := a0_diary) (a0_kept := a0_kept) (a0_isKept := a0_isKept) (a0_clip := a0_clip) (a0_line := a0_line) (a0_read := a0_read) (a0_opens := a0_opens) (a0_chains := a0_chains) (a0_factors := a0_factors) (a0_plains := a0_plains) (a0_belows := a0_belows) (a0_owned := a0_owned) (a0_wides := a0_wides) (a0_highs := a0_highs) (a0_lows := a0_lows) (a0_itemWides := a0_itemWides) (a0_pile := a0_pile) (a1 := a0_trial) (a1N := 184) (a0_refusal := r4.2) (a0_textSize := a0_textSize) (a0_acts := a0_acts) (a0_lineSize := a0_lineSize) (a0_readSize := a0_readSize) (a0_deep := a0_deep) (a0_lineF := a0_lineF) (a0_pileF := a0_pileF) (a1F := z17.1) hr18) gV_X8_207 ⟨rfl, hd_X8_layLine⟩ [0, 1, 3, 4] (by decide) rfl rfl 0 rfl rfl rfl rfl ⟨Nat.zero_le _, Nat.zero_le _⟩ (Nat.le_of_ble_eq_true rfl) dX8_simulate_209 rfl [(a0, .inr (8, [.int (iI r4.2), .ref a0_text, .int (iI a0_textSize), .ref a0_now, .ref a0_trial, .ref a0_diary, .int (iI a0_acts), .ref a0_kept, .ref a0_isKept, .ref a0_clip, .ref a0_line, .int (iI r18.1), .ref a0_read, .int (iI a0_readSize), .ref a0_opens, .ref a0_chains, .ref a0_factors, .ref a0_plains, .ref a0_belows, .ref a0_owned, .int (iI a0_deep), .ref a0_wides, .ref a0_highs, .ref a0_lows, .ref a0_itemWides, .ref a0_pile])), (a0_line, .inl (cs.1, 1024, .inl (aI r18.2.1))), (a0_now, .inl (cs.1, 184, .inl (aI a0_nowF))), (a0_pile, .inl (cs.1, 64, .inl (aI r18.2.2))), (a0_trial, .inl (cs.1, 184, .inl (aI z17.1)))] rfl ?_
        refine j_sipush (pc := 212) ok dX8_simulate_212 (by decide) ?_
        refine j_aload_n (pc := 215) 0 ok dX8_simulate_215 rfl rfl ?_
        refine gf_X8_16_8 (pc := 216) 0 ok rfl dX8_simulate_216 ?_
        refine j_iconst (pc := 219) ok dX8_simulate_219 ?_
        refine j_aload_n (pc := 220) 0 ok dX8_simulate_220 rfl rfl ?_
        refine gf_X8_16_8 (pc := 221) 0 ok rfl dX8_simulate_221 ?_
        refine j_sipush (pc := 224) ok dX8_simulate_224 (by decide) ?_
        refine j_iald (pc := 227) 4 ok rfl dX8_simulate_227 h (fun h => ?_)
        obtain ⟨r19, hr19, h⟩ := bd_inv h
        refine j_callS (pc := 228) ok (k_X8_allIn (a0 := a0_trial) (a0N := 184) (a0F := z17.1) (x1 := 0) (x2 := z17.1 (180 : Int).toNat) hr19) gS_X8_114 hd_X8_allIn [4] (by decide) rfl rfl rfl rfl ⟨Nat.zero_le _, Nat.zero_le _⟩ (Nat.le_of_ble_eq_true rfl) dX8_simulate_228 rfl [(a0, .inr (8, [.int (iI r4.2), .ref a0_text, .int (iI a0_textSize), .ref a0_now, .ref a0_trial, .ref a0_diary, .int (iI a0_acts), .ref a0_kept, .ref a0_isKept, .ref a0_clip, .ref a0_line, .int (iI r18.1), .ref a0_read, .int (iI a0_readSize), .ref a0_opens, .ref a0_chains, .ref a0_factors, .ref a0_plains, .ref a0_belows, .ref a0_owned, .int (iI a0_deep), .ref a0_wides, .ref a0_highs, .ref a0_lows, .ref a0_itemWides, .ref a0_pile])), (a0_line, .inl (cs.1, 1024, .inl (aI r18.2.1))), (a0_now, .inl (cs.1, 184, .inl (aI a0_nowF))), (a0_pile, .inl (cs.1, 64, .inl (aI r18.2.2))), (a0_trial, .inl (cs.1, 184, .inl (aI z17.1)))] rfl ?_
        refine j_imul (pc := 231) ok dX8_simulate_231 ?_
        refine j_aload_n (pc := 232) 0 ok dX8_simulate_232 rfl rfl ?_
        refine gf_X8_193_8 (pc := 233) 0 ok rfl dX8_simulate_233 ?_
        refine j_iadd (pc := 236) ok dX8_simulate_236 ?_
        obtain rfl := Option.some.inj h
        exact fin _ 237 dX8_simulate_237
    · refine j_iconst (pc := 24) ok dX8_simulate_24 ?_
      obtain rfl := Option.some.inj h
      exact fin _ 25 dX8_simulate_25
  · refine j_if_eq (pc := 10) 17 ok dX8_simulate_10 (by decide) h (fun h => ?_) (fun h => ?_)
    · refine j_iconst (pc := 17) ok dX8_simulate_17 ?_
      exact hk2 1 h
    · refine j_iconst (pc := 13) ok dX8_simulate_13 ?_
      refine j_goto (pc := 14) 18 ok dX8_simulate_14 (by decide) ?_
      exact hk2 0 h
def f_X8_save (a0_refusal : Int) (a0_isKeptF : (Nat → Int)) (a0_keptF : (Nat → Int)) (a0_nowF : (Nat → Int)) (x1 : Int) : Option (Int × Int × (Nat → Int) × (Nat → Int)) := gR x1 (bd (f_X8_in x1 0 1) (fun r1 => jn (fun (z3 : Int) => bd (f_X8_refused a0_refusal z3) (fun r4 => cEq r4.1 0 (gIn x1 2 (gB 1 (bd (f_X8_copyPage 184 368 a0_nowF a0_keptF 0 (184 * x1)) (fun r5 => gIn 180 184 (bd (f_X8_allIn 184 a0_nowF 0 (a0_nowF (180 : Int).toNat)) (fun r6 => some (r6, r4.2, va_up a0_isKeptF x1.toNat 1, r5))))))) (some (0, r4.2, a0_isKeptF, a0_keptF)))) (fun k2 => cEq r1 0 (k2 1) (k2 0))))
set_option maxRecDepth 100000 in
set_option maxHeartbeats 4000000 in
theorem k_X8_save {D : va_G} {cs : q_CS} {a0 a0_text a0_now a0_trial a0_diary a0_kept a0_isKept a0_clip a0_line a0_read a0_opens a0_chains a0_factors a0_plains a0_belows a0_owned a0_wides a0_highs a0_lows a0_itemWides a0_pile : Nat} {a0_refusal a0_textSize a0_acts a0_lineSize a0_readSize a0_deep : Int} {a0_isKeptF a0_keptF a0_nowF : Nat → Int} {x1 : Int} {r : (Int × Int × (Nat → Int) × (Nat → Int))} (h : f_X8_save a0_refusal a0_isKeptF a0_keptF a0_nowF x1 = some r) : q_M D cs yX8_save cX8_save 2 (some .int) 2 44 [.ref a0, .int (iI x1)] [(a0, .inr (8, [.int (iI a0_refusal), .ref a0_text, .int (iI a0_textSize), .ref a0_now, .ref a0_trial, .ref a0_diary, .int (iI a0_acts), .ref a0_kept, .ref a0_isKept, .ref a0_clip, .ref a0_line, .int (iI a0_lineSize), .ref a0_read, .int (iI a0_readSize), .ref a0_opens, .ref a0_chains, .ref a0_factors, .ref a0_plains, .ref a0_belows, .ref a0_owned, .int (iI a0_deep), .ref a0_wides, .ref a0_highs, .ref a0_lows, .ref a0_itemWides, .ref a0_pile])), (a0_isKept, .inl (cs.2.1, 2, .inl (aI a0_isKeptF))), (a0_kept, .inl (cs.1, 368, .inl (aI a0_keptF))), (a0_now, .inl (cs.1, 184, .inl (aI a0_nowF)))] (some (.int (iI r.1))) [(a0, .inr (8, [.int (iI r.2.1), .ref a0_text, .int (iI a0_textSize), .ref a0_now, .ref a0_trial, .ref a0_diary, .int (iI a0_acts), .ref a0_kept, .ref a0_isKept, .ref a0_clip, .ref a0_line, .int (iI a0_lineSize), .ref a0_read, .int (iI a0_readSize), .ref a0_opens, .ref a0_chains, .ref a0_factors, .ref a0_plains, .ref a0_belows, .ref a0_owned, .int (iI a0_deep), .ref a0_wides, .ref a0_highs, .ref a0_lows, .ref a0_itemWides, .ref a0_pile])), (a0_isKept, .inl (cs.2.1, 2, .inl (aI r.2.2.1))), (a0_kept, .inl (cs.1, 368, .inl (aI r.2.2.2))), (a0_now, .inl (cs.1, 184, .inl (aI a0_nowF)))] := by
  refine q_start_i [(0, .ref a0), (1, .int (iI x1))] RX8 rfl (by decide +kernel) rfl (Nat.le_of_ble_eq_true rfl) rfl (fun κ ok fin => ?_)
  unfold f_X8_save at h
  refine j_aload_n (pc := 0) 0 ok dX8_save_0 rfl rfl ?_
  refine j_iload_n (pc := 1) 1 ok dX8_save_1 rfl rfl ?_
  refine j_i2l (pc := 2) ok dX8_save_2 h (fun h => ?_)
  refine j_lconst (pc := 3) 0 ok dX8_save_3 (by decide) ?_
  refine j_lconst (pc := 4) 1 ok dX8_save_4 (by decide) ?_
  obtain ⟨r1, hr1, h⟩ := bd_inv h
  refine j_callS (pc := 5) ok (k_X8_in (x0 := x1) (x1 := 0) (x2 := 1) hr1) gS_X8_79 hd_X8_in [] (by decide) rfl rfl rfl rfl ⟨Nat.zero_le _, Nat.zero_le _⟩ (Nat.le_of_ble_eq_true rfl) dX8_save_5 rfl [(a0, .inr (8, [.int (iI a0_refusal), .ref a0_text, .int (iI a0_textSize), .ref a0_now, .ref a0_trial, .ref a0_diary, .int (iI a0_acts), .ref a0_kept, .ref a0_isKept, .ref a0_clip, .ref a0_line, .int (iI a0_lineSize), .ref a0_read, .int (iI a0_readSize), .ref a0_opens, .ref a0_chains, .ref a0_factors, .ref a0_plains, .ref a0_belows, .ref a0_owned, .int (iI a0_deep), .ref a0_wides, .ref a0_highs, .ref a0_lows, .ref a0_itemWides, .ref a0_pile])), (a0_isKept, .inl (cs.2.1, 2, .inl (aI a0_isKeptF))), (a0_kept, .inl (cs.1, 368, .inl (aI a0_keptF))), (a0_now, .inl (cs.1, 184, .inl (aI a0_nowF)))] rfl ?_
  refine jn_use (P := fun z3 => q_J D κ 2 0 0 [(a0, .inr (8, [.int (iI a0_refusal), .ref a0_text, .int (iI a0_textSize), .ref a0_now, .ref a0_trial, .ref a0_diary, .int (iI a0_acts), .ref a0_kept, .ref a0_isKept, .ref a0_clip, .ref a0_line, .int (iI a0_lineSize), .ref a0_read, .int (iI a0_readSize), .ref a0_opens, .ref a0_chains, .ref a0_factors, .ref a0_plains, .ref a0_belows, .ref a0_owned, .int (iI a0_deep), .ref a0_wides, .ref a0_highs, .ref a0_lows, .ref a0_itemWides, .ref a0_pile])), (a0_isKept, .inl (cs.2.1, 2, .inl (aI a0_isKeptF))), (a0_kept, .inl (cs.1, 368, .inl (aI a0_keptF))), (a0_now, .inl (cs.1, 184, .inl (aI a0_nowF)))] [(0, .ref a0), (1, .int (iI x1))] 16 [.int (iI z3), .ref a0]) h (fun z3 h => ?_) (fun k2 hk2 h => ?_)
  · obtain ⟨r4, hr4, h⟩ := bd_inv h
    refine j_callV (pc := 16) ok (k_X8_refused (a0 := a0) (a0_text := a0_text) (a0_now := a0_now) (a0_trial := a0_trial) (a0_diary := a0_diary) (a0_kept := a0_kept) (a0_isKept := a0_isKept) (a0_clip := a0_clip) (a0_line := a0_line) (a0_read := a0_read) (a0_opens := a0_opens) (a0_chains := a0_chains) (a0_factors := a0_factors) (a0_plains := a0_plains) (a0_belows := a0_belows) (a0_owned := a0_owned) (a0_wides := a0_wides) (a0_highs := a0_highs) (a0_lows := a0_lows) (a0_itemWides := a0_itemWides) (a0_pile := a0_pile) (a0_refusal := a0_refusal) (a0_textSize := a0_textSize) (a0_acts := a0_acts) (a0_lineSize := a0_lineSize) (a0_readSize := a0_readSize) (a0_deep := a0_deep) (x1 := z3) hr4) gV_X8_150 ⟨rfl, hd_X8_refused⟩ [0] (by decide) rfl rfl 0 rfl rfl rfl rfl ⟨Nat.zero_le _, Nat.zero_le _⟩ (Nat.le_of_ble_eq_true rfl) dX8_save_16 rfl [(a0, .inr (8, [.int (iI r4.2), .ref a0_text, .int (iI a0_textSize), .ref a0_now, .ref a0_trial, .ref a0_diary, .int (iI a0_acts), .ref a0_kept, .ref a0_isKept, .ref a0_clip, .ref a0_line, .int (iI a0_lineSize), .ref a0_read, .int (iI a0_readSize), .ref a0_opens, .ref a0_chains, .ref a0_factors, .ref a0_plains, .ref a0_belows, .ref a0_owned, .int (iI a0_deep), .ref a0_wides, .ref a0_highs, .ref a0_lows, .ref a0_itemWides, .ref a0_pile])), (a0_isKept, .inl (cs.2.1, 2, .inl (aI a0_isKeptF))), (a0_kept, .inl (cs.1, 368, .inl (aI a0_keptF))), (a0_now, .inl (cs.1, 184, .inl (aI a0_nowF)))] rfl ?_
    refine j_if_eq (pc := 19) 24 ok dX8_save_19 (by decide) h (fun h => ?_) (fun h => ?_)
    · refine j_aload_n (pc := 24) 0 ok dX8_save_24 rfl rfl ?_
      refine gf_X8_25_8 (pc := 25) 0 ok rfl dX8_save_25 ?_
      refine j_iload_n (pc := 28) 1 ok dX8_save_28 rfl rfl ?_
      refine j_iconst (pc := 29) ok dX8_save_29 ?_
      refine j_zastw (pc := 30) 1 ok rfl dX8_save_30 h [(a0, .inr (8, [.int (iI r4.2), .ref a0_text, .int (iI a0_textSize), .ref a0_now, .ref a0_trial, .ref a0_diary, .int (iI a0_acts), .ref a0_kept, .ref a0_isKept, .ref a0_clip, .ref a0_line, .int (iI a0_lineSize), .ref a0_read, .int (iI a0_readSize), .ref a0_opens, .ref a0_chains, .ref a0_factors, .ref a0_plains, .ref a0_belows, .ref a0_owned, .int (iI a0_deep), .ref a0_wides, .ref a0_highs, .ref a0_lows, .ref a0_itemWides, .ref a0_pile])), (a0_isKept, .inl (cs.2.1, 2, .inl (aI (va_up a0_isKeptF x1.toNat 1)))), (a0_kept, .inl (cs.1, 368, .inl (aI a0_keptF))), (a0_now, .inl (cs.1, 184, .inl (aI a0_nowF)))] rfl (fun h => ?_)
      refine j_aload_n (pc := 31) 0 ok dX8_save_31 rfl rfl ?_
      refine gf_X8_13_8 (pc := 32) 0 ok rfl dX8_save_32 ?_
      refine j_iconst (pc := 35) ok dX8_save_35 ?_
      refine j_aload_n (pc := 36) 0 ok dX8_save_36 rfl rfl ?_
      refine gf_X8_22_8 (pc := 37) 0 ok rfl dX8_save_37 ?_
      refine j_sipush (pc := 40) ok dX8_save_40 (by decide) ?_
      refine j_iload_n (pc := 43) 1 ok dX8_save_43 rfl rfl ?_
      refine j_imul (pc := 44) ok dX8_save_44 ?_
      obtain ⟨r5, hr5, h⟩ := bd_inv h
      refine j_callS (pc := 45) ok (k_X8_copyPage (a0 := a0_now) (a0N := 184) (a2 := a0_kept) (a2N := 368) (a0F := a0_nowF) (a2F := a0_keptF) (x1 := 0) (x3 := 184 * x1) hr5) gS_X8_226 hd_X8_copyPage [3, 2] (by decide) rfl rfl rfl rfl ⟨Nat.zero_le _, Nat.zero_le _⟩ (Nat.le_of_ble_eq_true rfl) dX8_save_45 rfl [(a0, .inr (8, [.int (iI r4.2), .ref a0_text, .int (iI a0_textSize), .ref a0_now, .ref a0_trial, .ref a0_diary, .int (iI a0_acts), .ref a0_kept, .ref a0_isKept, .ref a0_clip, .ref a0_line, .int (iI a0_lineSize), .ref a0_read, .int (iI a0_readSize), .ref a0_opens, .ref a0_chains, .ref a0_factors, .ref a0_plains, .ref a0_belows, .ref a0_owned, .int (iI a0_deep), .ref a0_wides, .ref a0_highs, .ref a0_lows, .ref a0_itemWides, .ref a0_pile])), (a0_isKept, .inl (cs.2.1, 2, .inl (aI (va_up a0_isKeptF x1.toNat 1)))), (a0_kept, .inl (cs.1, 368, .inl (aI r5))), (a0_now, .inl (cs.1, 184, .inl (aI a0_nowF)))] rfl ?_
      refine j_aload_n (pc := 48) 0 ok dX8_save_48 rfl rfl ?_
      refine gf_X8_13_8 (pc := 49) 0 ok rfl dX8_save_49 ?_
      refine j_iconst (pc := 52) ok dX8_save_52 ?_
      refine j_aload_n (pc := 53) 0 ok dX8_save_53 rfl rfl ?_
      refine gf_X8_13_8 (pc := 54) 0 ok rfl dX8_save_54 ?_
      refine j_sipush (pc := 57) ok dX8_save_57 (by decide) ?_
      refine j_iald (pc := 60) 3 ok rfl dX8_save_60 h (fun h => ?_)
      obtain ⟨r6, hr6, h⟩ := bd_inv h
      refine j_callS (pc := 61) ok (k_X8_allIn (a0 := a0_now) (a0N := 184) (a0F := a0_nowF) (x1 := 0) (x2 := a0_nowF (180 : Int).toNat) hr6) gS_X8_114 hd_X8_allIn [3] (by decide) rfl rfl rfl rfl ⟨Nat.zero_le _, Nat.zero_le _⟩ (Nat.le_of_ble_eq_true rfl) dX8_save_61 rfl [(a0, .inr (8, [.int (iI r4.2), .ref a0_text, .int (iI a0_textSize), .ref a0_now, .ref a0_trial, .ref a0_diary, .int (iI a0_acts), .ref a0_kept, .ref a0_isKept, .ref a0_clip, .ref a0_line, .int (iI a0_lineSize), .ref a0_read, .int (iI a0_readSize), .ref a0_opens, .ref a0_chains, .ref a0_factors, .ref a0_plains, .ref a0_belows, .ref a0_owned, .int (iI a0_deep), .ref a0_wides, .ref a0_highs, .ref a0_lows, .ref a0_itemWides, .ref a0_pile])), (a0_isKept, .inl (cs.2.1, 2, .inl (aI (va_up a0_isKeptF x1.toNat 1)))), (a0_kept, .inl (cs.1, 368, .inl (aI r5))), (a0_now, .inl (cs.1, 184, .inl (aI a0_nowF)))] rfl ?_
      obtain rfl := Option.some.inj h
      exact fin _ 64 dX8_save_64
    · refine j_iconst (pc := 22) ok dX8_save_22 ?_
      obtain rfl := Option.some.inj h
      exact fin _ 23 dX8_save_23
  · refine j_if_eq (pc := 8) 15 ok dX8_save_8 (by decide) h (fun h => ?_) (fun h => ?_)
    · refine j_iconst (pc := 15) ok dX8_save_15 ?_
      exact hk2 1 h
    · refine j_iconst (pc := 11) ok dX8_save_11 ?_
      refine j_goto (pc := 12) 16 ok dX8_save_12 (by decide) ?_
      exact hk2 0 h
def f_X8_restore (a0_refusal : Int) (a0_acts : Int) (a0_isKeptF : (Nat → Int)) (a0_keptF : (Nat → Int)) (a0_nowF : (Nat → Int)) (x1 : Int) : Option (Int × Int × Int × (Nat → Int)) := gR x1 (bd (f_X8_in x1 0 1) (fun r1 => jn (fun (z3 : Int) => bd (f_X8_refused a0_refusal z3) (fun r4 => cEq r4.1 0 (bd (f_X8_copyPage 368 184 a0_keptF a0_nowF (184 * x1) 0) (fun r5 => gIn 180 184 (bd (f_X8_allIn 184 r5 0 (r5 (180 : Int).toNat)) (fun r6 => some (r6, r4.2, 0, r5))))) (some (0, r4.2, a0_acts, a0_nowF)))) (fun k2 => cEq r1 0 (k2 1) (gIn x1 2 (cEq (a0_isKeptF x1.toNat) 0 (k2 2) (k2 0))))))
set_option maxRecDepth 100000 in
set_option maxHeartbeats 4000000 in
theorem k_X8_restore {D : va_G} {cs : q_CS} {a0 a0_text a0_now a0_trial a0_diary a0_kept a0_isKept a0_clip a0_line a0_read a0_opens a0_chains a0_factors a0_plains a0_belows a0_owned a0_wides a0_highs a0_lows a0_itemWides a0_pile : Nat} {a0_refusal a0_textSize a0_acts a0_lineSize a0_readSize a0_deep : Int} {a0_isKeptF a0_keptF a0_nowF : Nat → Int} {x1 : Int} {r : (Int × Int × Int × (Nat → Int))} (h : f_X8_restore a0_refusal a0_acts a0_isKeptF a0_keptF a0_nowF x1 = some r) : q_M D cs yX8_restore cX8_restore 2 (some .int) 2 44 [.ref a0, .int (iI x1)] [(a0, .inr (8, [.int (iI a0_refusal), .ref a0_text, .int (iI a0_textSize), .ref a0_now, .ref a0_trial, .ref a0_diary, .int (iI a0_acts), .ref a0_kept, .ref a0_isKept, .ref a0_clip, .ref a0_line, .int (iI a0_lineSize), .ref a0_read, .int (iI a0_readSize), .ref a0_opens, .ref a0_chains, .ref a0_factors, .ref a0_plains, .ref a0_belows, .ref a0_owned, .int (iI a0_deep), .ref a0_wides, .ref a0_highs, .ref a0_lows, .ref a0_itemWides, .ref a0_pile])), (a0_isKept, .inl (cs.2.1, 2, .inl (aI a0_isKeptF))), (a0_kept, .inl (cs.1, 368, .inl (aI a0_keptF))), (a0_now, .inl (cs.1, 184, .inl (aI a0_nowF)))] (some (.int (iI r.1))) [(a0, .inr (8, [.int (iI r.2.1), .ref a0_text, .int (iI a0_textSize), .ref a0_now, .ref a0_trial, .ref a0_diary, .int (iI r.2.2.1), .ref a0_kept, .ref a0_isKept, .ref a0_clip, .ref a0_line, .int (iI a0_lineSize), .ref a0_read, .int (iI a0_readSize), .ref a0_opens, .ref a0_chains, .ref a0_factors, .ref a0_plains, .ref a0_belows, .ref a0_owned, .int (iI a0_deep), .ref a0_wides, .ref a0_highs, .ref a0_lows, .ref a0_itemWides, .ref a0_pile])), (a0_isKept, .inl (cs.2.1, 2, .inl (aI a0_isKeptF))), (a0_kept, .inl (cs.1, 368, .inl (aI a0_keptF))), (a0_now, .inl (cs.1, 184, .inl (aI r.2.2.2)))] := by
  refine q_start_i [(0, .ref a0), (1, .int (iI x1))] RX8 rfl (by decide +kernel) rfl (Nat.le_of_ble_eq_true rfl) rfl (fun κ ok fin => ?_)
  unfold f_X8_restore at h
  refine j_aload_n (pc := 0) 0 ok dX8_restore_0 rfl rfl ?_
  refine j_iload_n (pc := 1) 1 ok dX8_restore_1 rfl rfl ?_
  refine j_i2l (pc := 2) ok dX8_restore_2 h (fun h => ?_)
  refine j_lconst (pc := 3) 0 ok dX8_restore_3 (by decide) ?_
  refine j_lconst (pc := 4) 1 ok dX8_restore_4 (by decide) ?_
  obtain ⟨r1, hr1, h⟩ := bd_inv h
  refine j_callS (pc := 5) ok (k_X8_in (x0 := x1) (x1 := 0) (x2 := 1) hr1) gS_X8_79 hd_X8_in [] (by decide) rfl rfl rfl rfl ⟨Nat.zero_le _, Nat.zero_le _⟩ (Nat.le_of_ble_eq_true rfl) dX8_restore_5 rfl [(a0, .inr (8, [.int (iI a0_refusal), .ref a0_text, .int (iI a0_textSize), .ref a0_now, .ref a0_trial, .ref a0_diary, .int (iI a0_acts), .ref a0_kept, .ref a0_isKept, .ref a0_clip, .ref a0_line, .int (iI a0_lineSize), .ref a0_read, .int (iI a0_readSize), .ref a0_opens, .ref a0_chains, .ref a0_factors, .ref a0_plains, .ref a0_belows, .ref a0_owned, .int (iI a0_deep), .ref a0_wides, .ref a0_highs, .ref a0_lows, .ref a0_itemWides, .ref a0_pile])), (a0_isKept, .inl (cs.2.1, 2, .inl (aI a0_isKeptF))), (a0_kept, .inl (cs.1, 368, .inl (aI a0_keptF))), (a0_now, .inl (cs.1, 184, .inl (aI a0_nowF)))] rfl ?_
  refine jn_use (P := fun z3 => q_J D κ 2 0 0 [(a0, .inr (8, [.int (iI a0_refusal), .ref a0_text, .int (iI a0_textSize), .ref a0_now, .ref a0_trial, .ref a0_diary, .int (iI a0_acts), .ref a0_kept, .ref a0_isKept, .ref a0_clip, .ref a0_line, .int (iI a0_lineSize), .ref a0_read, .int (iI a0_readSize), .ref a0_opens, .ref a0_chains, .ref a0_factors, .ref a0_plains, .ref a0_belows, .ref a0_owned, .int (iI a0_deep), .ref a0_wides, .ref a0_highs, .ref a0_lows, .ref a0_itemWides, .ref a0_pile])), (a0_isKept, .inl (cs.2.1, 2, .inl (aI a0_isKeptF))), (a0_kept, .inl (cs.1, 368, .inl (aI a0_keptF))), (a0_now, .inl (cs.1, 184, .inl (aI a0_nowF)))] [(0, .ref a0), (1, .int (iI x1))] 29 [.int (iI z3), .ref a0]) h (fun z3 h => ?_) (fun k2 hk2 h => ?_)
  · obtain ⟨r4, hr4, h⟩ := bd_inv h
    refine j_callV (pc := 29) ok (k_X8_refused (a0 := a0) (a0_text := a0_text) (a0_now := a0_now) (a0_trial := a0_trial) (a0_diary := a0_diary) (a0_kept := a0_kept) (a0_isKept := a0_isKept) (a0_clip := a0_clip) (a0_line := a0_line) (a0_read := a0_read) (a0_opens := a0_opens) (a0_chains := a0_chains) (a0_factors := a0_factors) (a0_plains := a0_plains) (a0_belows := a0_belows) (a0_owned := a0_owned) (a0_wides := a0_wides) (a0_highs := a0_highs) (a0_lows := a0_lows) (a0_itemWides := a0_itemWides) (a0_pile := a0_pile) (a0_refusal := a0_refusal) (a0_textSize := a0_textSize) (a0_acts := a0_acts) (a0_lineSize := a0_lineSize) (a0_readSize := a0_readSize) (a0_deep := a0_deep) (x1 := z3) hr4) gV_X8_150 ⟨rfl, hd_X8_refused⟩ [0] (by decide) rfl rfl 0 rfl rfl rfl rfl ⟨Nat.zero_le _, Nat.zero_le _⟩ (Nat.le_of_ble_eq_true rfl) dX8_restore_29 rfl [(a0, .inr (8, [.int (iI r4.2), .ref a0_text, .int (iI a0_textSize), .ref a0_now, .ref a0_trial, .ref a0_diary, .int (iI a0_acts), .ref a0_kept, .ref a0_isKept, .ref a0_clip, .ref a0_line, .int (iI a0_lineSize), .ref a0_read, .int (iI a0_readSize), .ref a0_opens, .ref a0_chains, .ref a0_factors, .ref a0_plains, .ref a0_belows, .ref a0_owned, .int (iI a0_deep), .ref a0_wides, .ref a0_highs, .ref a0_lows, .ref a0_itemWides, .ref a0_pile])), (a0_isKept, .inl (cs.2.1, 2, .inl (aI a0_isKeptF))), (a0_kept, .inl (cs.1, 368, .inl (aI a0_keptF))), (a0_now, .inl (cs.1, 184, .inl (aI a0_nowF)))] rfl ?_
    refine j_if_eq (pc := 32) 37 ok dX8_restore_32 (by decide) h (fun h => ?_) (fun h => ?_)
    · refine j_aload_n (pc := 37) 0 ok dX8_restore_37 rfl rfl ?_
      refine gf_X8_22_8 (pc := 38) 0 ok rfl dX8_restore_38 ?_
      refine j_sipush (pc := 41) ok dX8_restore_41 (by decide) ?_
      refine j_iload_n (pc := 44) 1 ok dX8_restore_44 rfl rfl ?_
      refine j_imul (pc := 45) ok dX8_restore_45 ?_
      refine j_aload_n (pc := 46) 0 ok dX8_restore_46 rfl rfl ?_
      refine gf_X8_13_8 (pc := 47) 0 ok rfl dX8_restore_47 ?_
      refine j_iconst (pc := 50) ok dX8_restore_50 ?_
      obtain ⟨r5, hr5, h⟩ := bd_inv h
      refine j_callS (pc := 51) ok (k_X8_copyPage (a0 := a0_kept) (a0N := 368) (a2 := a0_now) (a2N := 184) (a0F := a0_keptF) (a2F := a0_nowF) (x1 := 184 * x1) (x3 := 0) hr5) gS_X8_226 hd_X8_copyPage [2, 3] (by decide) rfl rfl rfl rfl ⟨Nat.zero_le _, Nat.zero_le _⟩ (Nat.le_of_ble_eq_true rfl) dX8_restore_51 rfl [(a0, .inr (8, [.int (iI r4.2), .ref a0_text, .int (iI a0_textSize), .ref a0_now, .ref a0_trial, .ref a0_diary, .int (iI a0_acts), .ref a0_kept, .ref a0_isKept, .ref a0_clip, .ref a0_line, .int (iI a0_lineSize), .ref a0_read, .int (iI a0_readSize), .ref a0_opens, .ref a0_chains, .ref a0_factors, .ref a0_plains, .ref a0_belows, .ref a0_owned, .int (iI a0_deep), .ref a0_wides, .ref a0_highs, .ref a0_lows, .ref a0_itemWides, .ref a0_pile])), (a0_isKept, .inl (cs.2.1, 2, .inl (aI a0_isKeptF))), (a0_kept, .inl (cs.1, 368, .inl (aI a0_keptF))), (a0_now, .inl (cs.1, 184, .inl (aI r5)))] rfl ?_
      refine j_aload_n (pc := 54) 0 ok dX8_restore_54 rfl rfl ?_
      refine j_iconst (pc := 55) ok dX8_restore_55 ?_
      refine pf_X8_182_8 (pc := 56) 0 ok rfl dX8_restore_56 [(a0, .inr (8, [.int (iI r4.2), .ref a0_text, .int (iI a0_textSize), .ref a0_now, .ref a0_trial, .ref a0_diary, .int (iI 0), .ref a0_kept, .ref a0_isKept, .ref a0_clip, .ref a0_line, .int (iI a0_lineSize), .ref a0_read, .int (iI a0_readSize), .ref a0_opens, .ref a0_chains, .ref a0_factors, .ref a0_plains, .ref a0_belows, .ref a0_owned, .int (iI a0_deep), .ref a0_wides, .ref a0_highs, .ref a0_lows, .ref a0_itemWides, .ref a0_pile])), (a0_isKept, .inl (cs.2.1, 2, .inl (aI a0_isKeptF))), (a0_kept, .inl (cs.1, 368, .inl (aI a0_keptF))), (a0_now, .inl (cs.1, 184, .inl (aI r5)))] rfl ?_
      refine j_aload_n (pc := 59) 0 ok dX8_restore_59 rfl rfl ?_
      refine gf_X8_13_8 (pc := 60) 0 ok rfl dX8_restore_60 ?_
      refine j_iconst (pc := 63) ok dX8_restore_63 ?_
      refine j_aload_n (pc := 64) 0 ok dX8_restore_64 rfl rfl ?_
      refine gf_X8_13_8 (pc := 65) 0 ok rfl dX8_restore_65 ?_
      refine j_sipush (pc := 68) ok dX8_restore_68 (by decide) ?_
      refine j_iald (pc := 71) 3 ok rfl dX8_restore_71 h (fun h => ?_)
      obtain ⟨r6, hr6, h⟩ := bd_inv h
      refine j_callS (pc := 72) ok (k_X8_allIn (a0 := a0_now) (a0N := 184) (a0F := r5) (x1 := 0) (x2 := r5 (180 : Int).toNat) hr6) gS_X8_114 hd_X8_allIn [3] (by decide) rfl rfl rfl rfl ⟨Nat.zero_le _, Nat.zero_le _⟩ (Nat.le_of_ble_eq_true rfl) dX8_restore_72 rfl [(a0, .inr (8, [.int (iI r4.2), .ref a0_text, .int (iI a0_textSize), .ref a0_now, .ref a0_trial, .ref a0_diary, .int (iI 0), .ref a0_kept, .ref a0_isKept, .ref a0_clip, .ref a0_line, .int (iI a0_lineSize), .ref a0_read, .int (iI a0_readSize), .ref a0_opens, .ref a0_chains, .ref a0_factors, .ref a0_plains, .ref a0_belows, .ref a0_owned, .int (iI a0_deep), .ref a0_wides, .ref a0_highs, .ref a0_lows, .ref a0_itemWides, .ref a0_pile])), (a0_isKept, .inl (cs.2.1, 2, .inl (aI a0_isKeptF))), (a0_kept, .inl (cs.1, 368, .inl (aI a0_keptF))), (a0_now, .inl (cs.1, 184, .inl (aI r5)))] rfl ?_
      obtain rfl := Option.some.inj h
      exact fin _ 75 dX8_restore_75
    · refine j_iconst (pc := 35) ok dX8_restore_35 ?_
      obtain rfl := Option.some.inj h
      exact fin _ 36 dX8_restore_36
  · refine j_if_ne (pc := 8) 15 ok dX8_restore_8 (by decide) h (fun h => ?_) (fun h => ?_)
    · refine j_aload_n (pc := 15) 0 ok dX8_restore_15 rfl rfl ?_
      refine gf_X8_25_8 (pc := 16) 0 ok rfl dX8_restore_16 ?_
      refine j_iload_n (pc := 19) 1 ok dX8_restore_19 rfl rfl ?_
      refine j_zald (pc := 20) 1 ok rfl dX8_restore_20 h (fun h => ?_)
      refine j_if_ne (pc := 21) 28 ok dX8_restore_21 (by decide) h (fun h => ?_) (fun h => ?_)
      · refine j_iconst (pc := 28) ok dX8_restore_28 ?_
        exact hk2 0 h
      · refine j_iconst (pc := 24) ok dX8_restore_24 ?_
        refine j_goto (pc := 25) 29 ok dX8_restore_25 (by decide) ?_
        exact hk2 2 h
    · refine j_iconst (pc := 11) ok dX8_restore_11 ?_
      refine j_goto (pc := 12) 29 ok dX8_restore_12 (by decide) ?_
      exact hk2 1 h
