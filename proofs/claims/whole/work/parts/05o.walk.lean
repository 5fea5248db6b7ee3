def f_X8_simulate_45 (y3 : Int) (e45_204 : (Nat → Int) × Int × Int → Option (Int × Int × Int × (Nat → Int) × (Nat → Int) × (Nat → Int))) : Nat → (Nat → Int) → Int → Int → Option (Int × Int × Int × (Nat → Int) × (Nat → Int) × (Nat → Int))
  | 0, _, _, _ => none
  | n + 1, a0_trialF, y4, y6 => cLt y6 y3 (gR (lsrI ((y4 * 6364136223846793005) + 1442695040888963407) 33) (gR ((lsrI ((y4 * 6364136223846793005) + 1442695040888963407) 33).tdiv 8) (gR (lsrI ((y4 * 6364136223846793005) + 1442695040888963407) 33) (jn (fun (z16 : (Nat → Int)) => f_X8_simulate_45 y3 e45_204 n z16 ((y4 * 6364136223846793005) + 1442695040888963407) (y6 + 1)) (fun k8 => jn (fun (z14 : Unit) => gR (((lsrI ((y4 * 6364136223846793005) + 1442695040888963407) 33).tdiv 8).tmod 64) (bd (f_X8_types 184 a0_trialF (97 + ((((lsrI ((y4 * 6364136223846793005) + 1442695040888963407) 33).tdiv 8).tmod 64).tmod 17))) (fun r15 => k8 r15.2))) (fun k7 => jn (fun (z12 : Unit) => gR (((lsrI ((y4 * 6364136223846793005) + 1442695040888963407) 33).tdiv 8).tmod 64) (bd (f_X8_wraps 184 a0_trialF (1 + ((((lsrI ((y4 * 6364136223846793005) + 1442695040888963407) 33).tdiv 8).tmod 64).tmod 5))) (fun r13 => k8 r13.2))) (fun k6 => cEq ((lsrI ((y4 * 6364136223846793005) + 1442695040888963407) 33).tmod 8) 0 (k7 ()) (cEq ((lsrI ((y4 * 6364136223846793005) + 1442695040888963407) 33).tmod 8) 1 (k7 ()) (cEq ((lsrI ((y4 * 6364136223846793005) + 1442695040888963407) 33).tmod 8) 2 (k7 ()) (cEq ((lsrI ((y4 * 6364136223846793005) + 1442695040888963407) 33).tmod 8) 3 (k6 ()) (cEq ((lsrI ((y4 * 6364136223846793005) + 1442695040888963407) 33).tmod 8) 4 (k6 ()) (cEq ((lsrI ((y4 * 6364136223846793005) + 1442695040888963407) 33).tmod 8) 5 (bd (f_X8_moves 184 a0_trialF ((((lsrI ((y4 * 6364136223846793005) + 1442695040888963407) 33).tdiv 8).tmod 64) - 32)) (fun r9 => k8 r9)) (cEq ((lsrI ((y4 * 6364136223846793005) + 1442695040888963407) 33).tmod 8) 6 (bd (f_X8_backs 184 a0_trialF) (fun r10 => k8 r10.2)) (bd (f_X8_grows 184 a0_trialF) (fun r11 => k8 r11.2))))))))))))))) (e45_204 (a0_trialF, y4, y6))
set_option maxRecDepth 100000 in
theorem l_X8_simulate_45 {D : va_G} {cs : q_CS} {κ : q_X} {a0 a0_text a0_now a0_trial a0_diary a0_kept a0_isKept a0_clip a0_line a0_read a0_opens a0_chains a0_factors a0_plains a0_belows a0_owned a0_wides a0_highs a0_lows a0_itemWides a0_pile : Nat} {a0_refusal a0_textSize a0_acts a0_lineSize a0_readSize a0_deep : Int} {a0_lineF a0_nowF a0_pileF : (Nat → Int)} {y3 : Int} {r : (Int × Int × Int × (Nat → Int) × (Nat → Int) × (Nat → Int))} {e45_204 : (Nat → Int) × Int × Int → Option (Int × Int × Int × (Nat → Int) × (Nat → Int) × (Nat → Int))} (ok : q_ok D cs κ cX8_simulate 9 RX8 (q_rm 5 117)) (fin : ∀ (lv : List (Nat × Value)) (pc : Nat), decode cX8_simulate pc = .ok (.ireturn, 1) → q_J D κ 9 0 0 [(a0, .inr (8, [.int (iI r.2.1), .ref a0_text, .int (iI a0_textSize), .ref a0_now, .ref a0_trial, .ref a0_diary, .int (iI a0_acts), .ref a0_kept, .ref a0_isKept, .ref a0_clip, .ref a0_line, .int (iI r.2.2.1), .ref a0_read, .int (iI a0_readSize), .ref a0_opens, .ref a0_chains, .ref a0_factors, .ref a0_plains, .ref a0_belows, .ref a0_owned, .int (iI a0_deep), .ref a0_wides, .ref a0_highs, .ref a0_lows, .ref a0_itemWides, .ref a0_pile])), (a0_line, .inl (cs.1, 1024, .inl (aI r.2.2.2.1))), (a0_now, .inl (cs.1, 184, .inl (aI a0_nowF))), (a0_pile, .inl (cs.1, 64, .inl (aI r.2.2.2.2.1))), (a0_trial, .inl (cs.1, 184, .inl (aI r.2.2.2.2.2)))] lv pc [.int (iI r.1)]) (he45_204 : ∀ x : (Nat → Int) × Int × Int, e45_204 x = some r → q_J D κ 9 0 0 [(a0, .inr (8, [.int (iI a0_refusal), .ref a0_text, .int (iI a0_textSize), .ref a0_now, .ref a0_trial, .ref a0_diary, .int (iI a0_acts), .ref a0_kept, .ref a0_isKept, .ref a0_clip, .ref a0_line, .int (iI a0_lineSize), .ref a0_read, .int (iI a0_readSize), .ref a0_opens, .ref a0_chains, .ref a0_factors, .ref a0_plains, .ref a0_belows, .ref a0_owned, .int (iI a0_deep), .ref a0_wides, .ref a0_highs, .ref a0_lows, .ref a0_itemWides, .ref a0_pile])), (a0_line, .inl (cs.1, 1024, .inl (aI a0_lineF))), (a0_now, .inl (cs.1, 184, .inl (aI a0_nowF))), (a0_pile, .inl (cs.1, 64, .inl (aI a0_pileF))), (a0_trial, .inl (cs.1, 184, .inl (aI x.1)))] [(0, .ref a0)] 204 []) : ∀ (n : Nat) (a0_trialF : (Nat → Int)) (y4 : Int) (y6 : Int), f_X8_simulate_45 y3 e45_204 n a0_trialF y4 y6 = some r → q_J D κ 9 0 0 [(a0, .inr (8, [.int (iI a0_refusal), .ref a0_text, .int (iI a0_textSize), .ref a0_now, .ref a0_trial, .ref a0_diary, .int (iI a0_acts), .ref a0_kept, .ref a0_isKept, .ref a0_clip, .ref a0_line, .int (iI a0_lineSize), .ref a0_read, .int (iI a0_readSize), .ref a0_opens, .ref a0_chains, .ref a0_factors, .ref a0_plains, .ref a0_belows, .ref a0_owned, .int (iI a0_deep), .ref a0_wides, .ref a0_highs, .ref a0_lows, .ref a0_itemWides, .ref a0_pile])), (a0_line, .inl (cs.1, 1024, .inl (aI a0_lineF))), (a0_now, .inl (cs.1, 184, .inl (aI a0_nowF))), (a0_pile, .inl (cs.1, 64, .inl (aI a0_pileF))), (a0_trial, .inl (cs.1, 184, .inl (aI a0_trialF)))] [(0, .ref a0), (3, .int (iI y3)), (4, .long (iL y4)), (6, .int (iI y6))] 45 [] := by
  intro n
  induction n with
  | zero =>
    intro a0_trialF y4 y6 h
    exact absurd h (by unfold f_X8_simulate_45; exact fun z => by cases z)
  | succ n ih =>
    intro a0_trialF y4 y6 h
    unfold f_X8_simulate_45 at h
    refine j_iload (pc := 45) 3 ok dX8_simulate_45 rfl ?_
    refine j_iload_n (pc := 47) 1 ok dX8_simulate_47 rfl rfl ?_
    refine j_icmp_ge (pc := 48) 204 ok dX8_simulate_48 (by decide) h (fun h => ?_) (fun h => ?_)
    · refine j_lv [0] rfl ?_
      exact he45_204 (a0_trialF, y4, y6) h
    · refine j_lload (pc := 51) 2 ok dX8_simulate_51 rfl ?_
      refine j_ldc2 (pc := 53) 6364136223846793005 ok dX8_simulate_53 (q_in 1500 (by decide +kernel) (by decide +kernel)) ?_
      refine j_lmul (pc := 56) ok dX8_simulate_56 ?_
      refine j_ldc2 (pc := 57) 1442695040888963407 ok dX8_simulate_57 (q_in 1501 (by decide +kernel) (by decide +kernel)) ?_
      refine j_ladd (pc := 60) ok dX8_simulate_60 ?_
      refine j_lstore (pc := 61) (lv' := [(4, .long (iL ((y4 * 6364136223846793005) + 1442695040888963407))), (0, .ref a0), (3, .int (iI y3)), (6, .int (iI y6))]) ok dX8_simulate_61 (by decide) rfl ?_
      refine j_lload (pc := 63) 0 ok dX8_simulate_63 rfl ?_
      refine j_bipush (pc := 65) ok dX8_simulate_65 (by decide) ?_
      refine j_lushr (pc := 67) ok dX8_simulate_67 ?_
      refine j_l2i (pc := 68) ok dX8_simulate_68 ?_
      refine j_istore (pc := 69) (lv' := [(7, .int (iI (lsrI ((y4 * 6364136223846793005) + 1442695040888963407) 33))), (4, .long (iL ((y4 * 6364136223846793005) + 1442695040888963407))), (0, .ref a0), (3, .int (iI y3)), (6, .int (iI y6))]) ok dX8_simulate_69 (by decide) rfl ?_
      refine j_iload (pc := 71) 0 ok dX8_simulate_71 rfl ?_
      refine j_bipush (pc := 73) ok dX8_simulate_73 (by decide) ?_
      refine j_idiv (pc := 75) ok dX8_simulate_75 (by decide) (by decide) h (fun h => ?_)
      refine j_bipush (pc := 76) ok dX8_simulate_76 (by decide) ?_
      refine j_irem (pc := 78) ok dX8_simulate_78 (by decide) (by decide) h (fun h => ?_)
      refine j_istore (pc := 79) (lv' := [(8, .int (iI (((lsrI ((y4 * 6364136223846793005) + 1442695040888963407) 33).tdiv 8).tmod 64))), (7, .int (iI (lsrI ((y4 * 6364136223846793005) + 1442695040888963407) 33))), (4, .long (iL ((y4 * 6364136223846793005) + 1442695040888963407))), (0, .ref a0), (3, .int (iI y3)), (6, .int (iI y6))]) ok dX8_simulate_79 (by decide) rfl ?_
      refine j_iload (pc := 81) 1 ok dX8_simulate_81 rfl ?_
      refine j_bipush (pc := 83) ok dX8_simulate_83 (by decide) ?_
      refine j_irem (pc := 85) ok dX8_simulate_85 (by decide) (by decide) h (fun h => ?_)
      refine jn_use (P := fun z16 => q_J D κ 9 0 0 [(a0, .inr (8, [.int (iI a0_refusal), .ref a0_text, .int (iI a0_textSize), .ref a0_now, .ref a0_trial, .ref a0_diary, .int (iI a0_acts), .ref a0_kept, .ref a0_isKept, .ref a0_clip, .ref a0_line, .int (iI a0_lineSize), .ref a0_read, .int (iI a0_readSize), .ref a0_opens, .ref a0_chains, .ref a0_factors, .ref a0_plains, .ref a0_belows, .ref a0_owned, .int (iI a0_deep), .ref a0_wides, .ref a0_highs, .ref a0_lows, .ref a0_itemWides, .ref a0_pile])), (a0_line, .inl (cs.1, 1024, .inl (aI a0_lineF))), (a0_now, .inl (cs.1, 184, .inl (aI a0_nowF))), (a0_pile, .inl (cs.1, 64, .inl (aI a0_pileF))), (a0_trial, .inl (cs.1, 184, .inl (aI z16)))] [(0, .ref a0), (3, .int (iI y3)), (4, .long (iL ((y4 * 6364136223846793005) + 1442695040888963407))), (6, .int (iI y6))] 198 []) h (fun z16 h => ?_) (fun k8 hk8 h => ?_)
      · refine j_iinc (pc := 198) (lv' := [(6, .int (iI (y6 + 1))), (0, .ref a0), (3, .int (iI y3)), (4, .long (iL ((y4 * 6364136223846793005) + 1442695040888963407)))]) 3 ok dX8_simulate_198 rfl (by decide) rfl ?_
        refine j_goto (pc := 201) 45 ok dX8_simulate_201 (by decide) ?_
        refine j_lv [1, 2, 3, 0] rfl ?_
        exact ih _ _ _ h
      · refine jn_use (P := fun z14 => q_J D κ 9 0 0 [(a0, .inr (8, [.int (iI a0_refusal), .ref a0_text, .int (iI a0_textSize), .ref a0_now, .ref a0_trial, .ref a0_diary, .int (iI a0_acts), .ref a0_kept, .ref a0_isKept, .ref a0_clip, .ref a0_line, .int (iI a0_lineSize), .ref a0_read, .int (iI a0_readSize), .ref a0_opens, .ref a0_chains, .ref a0_factors, .ref a0_plains, .ref a0_belows, .ref a0_owned, .int (iI a0_deep), .ref a0_wides, .ref a0_highs, .ref a0_lows, .ref a0_itemWides, .ref a0_pile])), (a0_line, .inl (cs.1, 1024, .inl (aI a0_lineF))), (a0_now, .inl (cs.1, 184, .inl (aI a0_nowF))), (a0_pile, .inl (cs.1, 64, .inl (aI a0_pileF))), (a0_trial, .inl (cs.1, 184, .inl (aI a0_trialF)))] [(0, .ref a0), (3, .int (iI y3)), (4, .long (iL ((y4 * 6364136223846793005) + 1442695040888963407))), (6, .int (iI y6)), (8, .int (iI (((lsrI ((y4 * 6364136223846793005) + 1442695040888963407) 33).tdiv 8).tmod 64)))] 128 []) h (fun z14 h => ?_) (fun k7 hk7 h => ?_)
        · refine j_aload_n (pc := 128) 0 ok dX8_simulate_128 rfl rfl ?_
          refine gf_X8_16_8 (pc := 129) 0 ok rfl dX8_simulate_129 ?_
          refine j_bipush (pc := 132) ok dX8_simulate_132 (by decide) ?_
          refine j_iload (pc := 134) 4 ok dX8_simulate_134 rfl ?_
          refine j_bipush (pc := 136) ok dX8_simulate_136 (by decide) ?_
          refine j_irem (pc := 138) ok dX8_simulate_138 (by decide) (by decide) h (fun h => ?_)
          refine j_iadd (pc := 139) ok dX8_simulate_139 ?_
          obtain ⟨r15, hr15, h⟩ := bd_inv h
          refine j_callS (pc := 140) ok (k_X8_types (a0 := a0_trial) (a0N := 184) (a0F := a0_trialF) (x1 := 97 + ((((lsrI ((y4 * 6364136223846793005) + 1442695040888963407) 33).tdiv 8).tmod 64).tmod 17)) hr15) gS_X8_233 hd_X8_types [4] (by decide) rfl rfl rfl rfl ⟨Nat.zero_le _, Nat.zero_le _⟩ (Nat.le_of_ble_eq_true rfl) dX8_simulate_140 rfl [(a0, .inr (8, [.int (iI a0_refusal), .ref a0_text, .int (iI a0_textSize), .ref a0_now, .ref a0_trial, .ref a0_diary, .int (iI a0_acts), .ref a0_kept, .ref a0_isKept, .ref a0_clip, .ref a0_line, .int (iI a0_lineSize), .ref a0_read, .int (iI a0_readSize), .ref a0_opens, .ref a0_chains, .ref a0_factors, .ref a0_plains, .ref a0_belows, .ref a0_owned, .int (iI a0_deep), .ref a0_wides, .ref a0_highs, .ref a0_lows, .ref a0_itemWides, .ref a0_pile])), (a0_line, .inl (cs.1, 1024, .inl (aI a0_lineF))), (a0_now, .inl (cs.1, 184, .inl (aI a0_nowF))), (a0_pile, .inl (cs.1, 64, .inl (aI a0_pileF))), (a0_trial, .inl (cs.1, 184, .inl (aI r15.2)))] rfl ?_
          refine j_pop (pc := 143) ok dX8_simulate_143 rfl ?_
          refine j_goto (pc := 144) 198 ok dX8_simulate_144 (by decide) ?_
          refine j_lv [0, 1, 2, 3] rfl ?_
          exact hk8 r15.2 h
        · refine jn_use (P := fun z12 => q_J D κ 9 0 0 [(a0, .inr (8, [.int (iI a0_refusal), .ref a0_text, .int (iI a0_textSize), .ref a0_now, .ref a0_trial, .ref a0_diary, .int (iI a0_acts), .ref a0_kept, .ref a0_isKept, .ref a0_clip, .ref a0_line, .int (iI a0_lineSize), .ref a0_read, .int (iI a0_readSize), .ref a0_opens, .ref a0_chains, .ref a0_factors, .ref a0_plains, .ref a0_belows, .ref a0_owned, .int (iI a0_deep), .ref a0_wides, .ref a0_highs, .ref a0_lows, .ref a0_itemWides, .ref a0_pile])), (a0_line, .inl (cs.1, 1024, .inl (aI a0_lineF))), (a0_now, .inl (cs.1, 184, .inl (aI a0_nowF))), (a0_pile, .inl (cs.1, 64, .inl (aI a0_pileF))), (a0_trial, .inl (cs.1, 184, .inl (aI a0_trialF)))] [(0, .ref a0), (3, .int (iI y3)), (4, .long (iL ((y4 * 6364136223846793005) + 1442695040888963407))), (6, .int (iI y6)), (8, .int (iI (((lsrI ((y4 * 6364136223846793005) + 1442695040888963407) 33).tdiv 8).tmod 64)))] 147 []) h (fun z12 h => ?_) (fun k6 hk6 h => ?_)
          · refine j_aload_n (pc := 147) 0 ok dX8_simulate_147 rfl rfl ?_
            refine gf_X8_16_8 (pc := 148) 0 ok rfl dX8_simulate_148 ?_
            refine j_iconst (pc := 151) ok dX8_simulate_151 ?_
            refine j_iload (pc := 152) 4 ok dX8_simulate_152 rfl ?_
            refine j_iconst (pc := 154) ok dX8_simulate_154 ?_
            refine j_irem (pc := 155) ok dX8_simulate_155 (by decide) (by decide) h (fun h => ?_)
            refine j_iadd (pc := 156) ok dX8_simulate_156 ?_
            obtain ⟨r13, hr13, h⟩ := bd_inv h
            refine j_callS (pc := 157) ok (k_X8_wraps (a0 := a0_trial) (a0N := 184) (a0F := a0_trialF) (x1 := 1 + ((((lsrI ((y4 * 6364136223846793005) + 1442695040888963407) 33).tdiv 8).tmod 64).tmod 5)) hr13) gS_X8_240 hd_X8_wraps [4] (by decide) rfl rfl rfl rfl ⟨Nat.zero_le _, Nat.zero_le _⟩ (Nat.le_of_ble_eq_true rfl) dX8_simulate_157 rfl [(a0, .inr (8, [.int (iI a0_refusal), .ref a0_text, .int (iI a0_textSize), .ref a0_now, .ref a0_trial, .ref a0_diary, .int (iI a0_acts), .ref a0_kept, .ref a0_isKept, .ref a0_clip, .ref a0_line, .int (iI a0_lineSize), .ref a0_read, .int (iI a0_readSize), .ref a0_opens, .ref a0_chains, .ref a0_factors, .ref a0_plains, .ref a0_belows, .ref a0_owned, .int (iI a0_deep), .ref a0_wides, .ref a0_highs, .ref a0_lows, .ref a0_itemWides, .ref a0_pile])), (a0_line, .inl (cs.1, 1024, .inl (aI a0_lineF))), (a0_now, .inl (cs.1, 184, .inl (aI a0_nowF))), (a0_pile, .inl (cs.1, 64, .inl (aI a0_pileF))), (a0_trial, .inl (cs.1, 184, .inl (aI r13.2)))] rfl ?_
            refine j_pop (pc := 160) ok dX8_simulate_160 rfl ?_
            refine j_goto (pc := 161) 198 ok dX8_simulate_161 (by decide) ?_
            refine j_lv [0, 1, 2, 3] rfl ?_
            exact hk8 r13.2 h
          · obtain ⟨hR, h1, h2⟩ := cEq_inv h
            by_cases e86_0 : (lsrI ((y4 * 6364136223846793005) + 1442695040888963407) 33).tmod 8 = 0
            · have h := h1 e86_0
              refine j_tabIn (pc := 86) 0 128 ok dX8_simulate_86 hR.1 e86_0 (by decide) rfl (by decide) ?_
              refine j_lv [3, 4, 2, 5, 0] rfl ?_
              exact hk7 () h
            · have h := h2 e86_0
              obtain ⟨hR, h1, h2⟩ := cEq_inv h
              by_cases e86_1 : (lsrI ((y4 * 6364136223846793005) + 1442695040888963407) 33).tmod 8 = 1
              · have h := h1 e86_1
                refine j_tabIn (pc := 86) 1 128 ok dX8_simulate_86 hR.1 e86_1 (by decide) rfl (by decide) ?_
                refine j_lv [3, 4, 2, 5, 0] rfl ?_
                exact hk7 () h
              · have h := h2 e86_1
                obtain ⟨hR, h1, h2⟩ := cEq_inv h
                by_cases e86_2 : (lsrI ((y4 * 6364136223846793005) + 1442695040888963407) 33).tmod 8 = 2
                · have h := h1 e86_2
                  refine j_tabIn (pc := 86) 2 128 ok dX8_simulate_86 hR.1 e86_2 (by decide) rfl (by decide) ?_
                  refine j_lv [3, 4, 2, 5, 0] rfl ?_
                  exact hk7 () h
                · have h := h2 e86_2
                  obtain ⟨hR, h1, h2⟩ := cEq_inv h
                  by_cases e86_3 : (lsrI ((y4 * 6364136223846793005) + 1442695040888963407) 33).tmod 8 = 3
                  · have h := h1 e86_3
                    refine j_tabIn (pc := 86) 3 147 ok dX8_simulate_86 hR.1 e86_3 (by decide) rfl (by decide) ?_
                    refine j_lv [3, 4, 2, 5, 0] rfl ?_
                    exact hk6 () h
                  · have h := h2 e86_3
                    obtain ⟨hR, h1, h2⟩ := cEq_inv h
                    by_cases e86_4 : (lsrI ((y4 * 6364136223846793005) + 1442695040888963407) 33).tmod 8 = 4
                    · have h := h1 e86_4
                      refine j_tabIn (pc := 86) 4 147 ok dX8_simulate_86 hR.1 e86_4 (by decide) rfl (by decide) ?_
                      refine j_lv [3, 4, 2, 5, 0] rfl ?_
                      exact hk6 () h
                    · have h := h2 e86_4
                      obtain ⟨hR, h1, h2⟩ := cEq_inv h
                      by_cases e86_5 : (lsrI ((y4 * 6364136223846793005) + 1442695040888963407) 33).tmod 8 = 5
                      · have h := h1 e86_5
                        refine j_tabIn (pc := 86) 5 164 ok dX8_simulate_86 hR.1 e86_5 (by decide) rfl (by decide) ?_
                        refine j_aload_n (pc := 164) 3 ok dX8_simulate_164 rfl rfl ?_
                        refine gf_X8_16_8 (pc := 165) 0 ok rfl dX8_simulate_165 ?_
                        refine j_iload (pc := 168) 0 ok dX8_simulate_168 rfl ?_
                        refine j_bipush (pc := 170) ok dX8_simulate_170 (by decide) ?_
                        refine j_isub (pc := 172) ok dX8_simulate_172 ?_
                        obtain ⟨r9, hr9, h⟩ := bd_inv h
                        refine j_callS (pc := 173) ok (k_X8_moves (a0 := a0_trial) (a0N := 184) (a0F := a0_trialF) (x1 := (((lsrI ((y4 * 6364136223846793005) + 1442695040888963407) 33).tdiv 8).tmod 64) - 32) hr9) gS_X8_214 hd_X8_moves [4] (by decide) rfl rfl rfl rfl ⟨Nat.zero_le _, Nat.zero_le _⟩ (Nat.le_of_ble_eq_true rfl) dX8_simulate_173 rfl [(a0, .inr (8, [.int (iI a0_refusal), .ref a0_text, .int (iI a0_textSize), .ref a0_now, .ref a0_trial, .ref a0_diary, .int (iI a0_acts), .ref a0_kept, .ref a0_isKept, .ref a0_clip, .ref a0_line, .int (iI a0_lineSize), .ref a0_read, .int (iI a0_readSize), .ref a0_opens, .ref a0_chains, .ref a0_factors, .ref a0_plains, .ref a0_belows, .ref a0_owned, .int (iI a0_deep), .ref a0_wides, .ref a0_highs, .ref a0_lows, .ref a0_itemWides, .ref a0_pile])), (a0_line, .inl (cs.1, 1024, .inl (aI a0_lineF))), (a0_now, .inl (cs.1, 184, .inl (aI a0_nowF))), (a0_pile, .inl (cs.1, 64, .inl (aI a0_pileF))), (a0_trial, .inl (cs.1, 184, .inl (aI r9)))] rfl ?_
                        refine j_goto (pc := 176) 198 ok dX8_simulate_176 (by decide) ?_
                        refine j_lv [3, 4, 2, 5] rfl ?_
                        exact hk8 r9 h
                      · have h := h2 e86_5
                        obtain ⟨hR, h1, h2⟩ := cEq_inv h
                        by_cases e86_6 : (lsrI ((y4 * 6364136223846793005) + 1442695040888963407) 33).tmod 8 = 6
                        · have h := h1 e86_6
                          refine j_tabIn (pc := 86) 6 179 ok dX8_simulate_86 hR.1 e86_6 (by decide) rfl (by decide) ?_
                          refine j_aload_n (pc := 179) 3 ok dX8_simulate_179 rfl rfl ?_
                          refine gf_X8_16_8 (pc := 180) 0 ok rfl dX8_simulate_180 ?_
                          obtain ⟨r10, hr10, h⟩ := bd_inv h
                          refine j_callS (pc := 183) ok (k_X8_backs (a0 := a0_trial) (a0N := 184) (a0F := a0_trialF) hr10) gS_X8_243 hd_X8_backs [4] (by decide) rfl rfl rfl rfl ⟨Nat.zero_le _, Nat.zero_le _⟩ (Nat.le_of_ble_eq_true rfl) dX8_simulate_183 rfl [(a0, .inr (8, [.int (iI a0_refusal), .ref a0_text, .int (iI a0_textSize), .ref a0_now, .ref a0_trial, .ref a0_diary, .int (iI a0_acts), .ref a0_kept, .ref a0_isKept, .ref a0_clip, .ref a0_line, .int (iI a0_lineSize), .ref a0_read, .int (iI a0_readSize), .ref a0_opens, .ref a0_chains, .ref a0_factors, .ref a0_plains, .ref a0_belows, .ref a0_owned, .int (iI a0_deep), .ref a0_wides, .ref a0_highs, .ref a0_lows, .ref a0_itemWides, .ref a0_pile])), (a0_line, .inl (cs.1, 1024, .inl (aI a0_lineF))), (a0_now, .inl (cs.1, 184, .inl (aI a0_nowF))), (a0_pile, .inl (cs.1, 64, .inl (aI a0_pileF))), (a0_trial, .inl (cs.1, 184, .inl (aI r10.2)))] rfl ?_
                          refine j_pop (pc := 186) ok dX8_simulate_186 rfl ?_
                          refine j_goto (pc := 187) 198 ok dX8_simulate_187 (by decide) ?_
                          refine j_lv [3, 4, 2, 5] rfl ?_
                          exact hk8 r10.2 h
                        · have h := h2 e86_6
                          refine j_tabOut (pc := 86) 190 ok dX8_simulate_86 hR.1 (by omega) (by decide) ?_
                          refine j_aload_n (pc := 190) 3 ok dX8_simulate_190 rfl rfl ?_
                          refine gf_X8_16_8 (pc := 191) 0 ok rfl dX8_simulate_191 ?_
                          obtain ⟨r11, hr11, h⟩ := bd_inv h
                          refine j_callS (pc := 194) ok (k_X8_grows (a0 := a0_trial) (a0N := 184) (a0F := a0_trialF) hr11) gS_X8_222 hd_X8_grows [4] (by decide) rfl rfl rfl rfl ⟨Nat.zero_le _, Nat.zero_le _⟩ (Nat.le_of_ble_eq_true rfl) dX8_simulate_194 rfl [(a0, .inr (8, [.int (iI a0_refusal), .ref a0_text, .int (iI a0_textSize), .ref a0_now, .ref a0_trial, .ref a0_diary, .int (iI a0_acts), .ref a0_kept, .ref a0_isKept, .ref a0_clip, .ref a0_line, .int (iI a0_lineSize), .ref a0_read, .int (iI a0_readSize), .ref a0_opens, .ref a0_chains, .ref a0_factors, .ref a0_plains, .ref a0_belows, .ref a0_owned, .int (iI a0_deep), .ref a0_wides, .ref a0_highs, .ref a0_lows, .ref a0_itemWides, .ref a0_pile])), (a0_line, .inl (cs.1, 1024, .inl (aI a0_lineF))), (a0_now, .inl (cs.1, 184, .inl (aI a0_nowF))), (a0_pile, .inl (cs.1, 64, .inl (aI a0_pileF))), (a0_trial, .inl (cs.1, 184, .inl (aI r11.2)))] rfl ?_
                          refine j_pop (pc := 197) ok dX8_simulate_197 rfl ?_
                          refine j_lv [3, 4, 2, 5] rfl ?_
                          exact hk8 r11.2 h
def f_X8_simulate (a0_refusal : Int) (a0_lineSize : Int) (a0_lineF : (Nat → Int)) (a0_nowF : (Nat → Int)) (a0_pileF : (Nat → Int)) (a0_trialF : (Nat → Int)) (x1 : Int) (x2 : Int) : Option (Int × Int × Int × (Nat → Int) × (Nat → Int) × (Nat → Int)) := gR x2 (bd (f_X8_in x2 1 60) (fun r1 => jn (fun (z3 : Int) => bd (f_X8_refused a0_refusal z3) (fun r4 => cEq r4.1 0 (bd (f_X8_copyPage 184 184 a0_nowF a0_trialF 0 0) (fun r5 => f_X8_simulate_45 x2 (fun (z17 : (Nat → Int) × Int × Int) => bd (f_X8_layLine 184 a0_lineSize a0_lineF a0_pileF z17.1) (fun r18 => gIn 180 184 (bd (f_X8_allIn 184 z17.1 0 (z17.1 (180 : Int).toNat)) (fun r19 => some ((1000 * r19) + r18.1, r4.2, r18.1, r18.2.1, r18.2.2, z17.1))))) fuel r5 x1 0)) (some (0, r4.2, a0_lineSize, a0_lineF, a0_pileF, a0_trialF)))) (fun k2 => cEq r1 0 (k2 1) (k2 0))))
set_option maxRecDepth 100000 in
set_option maxHeartbeats 4000000 in
theorem k_X8_simulate {D : va_G} {cs : q_CS} {a0 a0_text a0_now a0_trial a0_diary a0_kept a0_isKept a0_clip a0_line a0_read a0_opens a0_chains a0_factors a0_plains a0_belows a0_owned a0_wides a0_highs a0_lows a0_itemWides a0_pile : Nat} {a0_refusal a0_textSize a0_acts a0_lineSize a0_readSize a0_deep : Int} {a0_lineF a0_nowF a0_pileF a0_trialF : (Nat → Int)} {x1 x2 : Int} {r : (Int × Int × Int × (Nat → Int) × (Nat → Int) × (Nat → Int))} (h : f_X8_simulate a0_refusal a0_lineSize a0_lineF a0_nowF a0_pileF a0_trialF x1 x2 = some r) : q_M D cs yX8_simulate cX8_simulate 9 (some .int) 5 117 [.ref a0, .long (iL x1), .int (iI x2)] [(a0, .inr (8, [.int (iI a0_refusal), .ref a0_text, .int (iI a0_textSize), .ref a0_now, .ref a0_trial, .ref a0_diary, .int (iI a0_acts), .ref a0_kept, .ref a0_isKept, .ref a0_clip, .ref a0_line, .int (iI a0_lineSize), .ref a0_read, .int (iI a0_readSize), .ref a0_opens, .ref a0_chains, .ref a0_factors, .ref a0_plains, .ref a0_belows, .ref a0_owned, .int (iI a0_deep), .ref a0_wides, .ref a0_highs, .ref a0_lows, .ref a0_itemWides, .ref a0_pile])), (a0_line, .inl (cs.1, 1024, .inl (aI a0_lineF))), (a0_now, .inl (cs.1, 184, .inl (aI a0_nowF))), (a0_pile, .inl (cs.1, 64, .inl (aI a0_pileF))), (a0_trial, .inl (cs.1, 184, .inl (aI a0_trialF)))] (some (.int (iI r.1))) [(a0, .inr (8, [.int (iI r.2.1), .ref a0_text, .int (iI a0_textSize), .ref a0_now, .ref a0_trial, .ref a0_diary, .int (iI a0_acts), .ref a0_kept, .ref a0_isKept, .ref a0_clip, .ref a0_line, .int (iI r.2.2.1), .ref a0_read, .int (iI a0_readSize), .ref a0_opens, .ref a0_chains, .ref a0_factors, .ref a0_plains, .ref a0_belows, .ref a0_owned, .int (iI a0_deep), .ref a0_wides, .ref a0_highs, .ref a0_lows, .ref a0_itemWides, .ref a0_pile])), (a0_line, .inl (cs.1, 1024, .inl (aI r.2.2.2.1))), (a0_now, .inl (cs.1, 184, .inl (aI a0_nowF))), (a0_pile, .inl (cs.1, 64, .inl (aI r.2.2.2.2.1))), (a0_trial, .inl (cs.1, 184, .inl (aI r.2.2.2.2.2)))] := by
  refine q_start_i [(0, .ref a0), (1, .long (iL x1)), (3, .int (iI x2))] RX8 rfl (by decide +kernel) rfl (Nat.le_of_ble_eq_true rfl) rfl (fun κ ok fin => ?_)
  unfold f_X8_simulate at h
  refine j_aload_n (pc := 0) 0 ok dX8_simulate_0 rfl rfl ?_
  refine j_iload_n (pc := 1) 2 ok dX8_simulate_1 rfl rfl ?_
  refine j_i2l (pc := 2) ok dX8_simulate_2 h (fun h => ?_)
  refine j_lconst (pc := 3) 1 ok dX8_simulate_3 (by decide) ?_
  refine j_ldc2 (pc := 4) 60 ok dX8_simulate_4 (q_in 1499 (by decide +kernel) (by decide +kernel)) ?_
  obtain ⟨r1, hr1, h⟩ := bd_inv h
  refine j_callS (pc := 7) ok (k_X8_in (x0 := x2) (x1 := 1) (x2 := 60) hr1) gS_X8_79 hd_X8_in [] (by decide) rfl rfl rfl rfl ⟨Nat.zero_le _, Nat.zero_le _⟩ (Nat.le_of_ble_eq_true rfl) dX8_simulate_7 rfl [(a0, .inr (8, [.int (iI a0_refusal), .ref a0_text, .int (iI a0_textSize), .ref a0_now, .ref a0_trial, .ref a0_diary, .int (iI a0_acts), .ref a0_kept, .ref a0_isKept, .ref a0_clip, .ref a0_line, .int (iI a0_lineSize), .ref a0_read, .int (iI a0_readSize), .ref a0_opens, .ref a0_chains, .ref a0_factors, .ref a0_plains, .ref a0_belows, .ref a0_owned, .int (iI a0_deep), .ref a0_wides, .ref a0_highs, .ref a0_lows, .ref a0_itemWides, .ref a0_pile])), (a0_line, .inl (cs.1, 1024, .inl (aI a0_lineF))), (a0_now, .inl (cs.1, 184, .inl (aI a0_nowF))), (a0_pile, .inl (cs.1, 64, .inl (aI a0_pileF))), (a0_trial, .inl (cs.1, 184, .inl (aI a0_trialF)))] rfl ?_
  refine jn_use (P := fun z3 => q_J D κ 9 0 0 [(a0, .inr (8, [.int (iI a0_refusal), .ref a0_text, .int (iI a0_textSize), .ref a0_now, .ref a0_trial, .ref a0_diary, .int (iI a0_acts), .ref a0_kept, .ref a0_isKept, .ref a0_clip, .ref a0_line, .int (iI a0_lineSize), .ref a0_read, .int (iI a0_readSize), .ref a0_opens, .ref a0_chains, .ref a0_factors, .ref a0_plains, .ref a0_belows, .ref a0_owned, .int (iI a0_deep), .ref a0_wides, .ref a0_highs, .ref a0_lows, .ref a0_itemWides, .ref a0_pile])), (a0_line, .inl (cs.1, 1024, .inl (aI a0_lineF))), (a0_now, .inl (cs.1, 184, .inl (aI a0_nowF))), (a0_pile, .inl (cs.1, 64, .inl (aI a0_pileF))), (a0_trial, .inl (cs.1, 184, .inl (aI a0_trialF)))] [(0, .ref a0), (1, .long (iL x1)), (3, .int (iI x2))] 18 [.int (iI z3), .ref a0]) h (fun z3 h => ?_) (fun k2 hk2 h => ?_)
  · obtain ⟨r4, hr4, h⟩ := bd_inv h
    refine j_callV (pc := 18) ok (k_X8_refused (a0 := a0) (a0_text := a0_text) (a0_now := a0_now) (a0_trial := a0_trial) (a0_diary := a0_diary) (a0_kept := a0_kept) (a0_isKept := a0_isKept) (a0_clip := a0_clip) (a0_line := a0_line) (a0_read := a0_read) (a0_opens := a0_opens) (a0_chains := a0_chains) (a0_factors := a0_factors) (a0_plains := a0_plains) (a0_belows := a0_belows) (a0_owned := a0_owned) (a0_wides := a0_wides) (a0_highs := a0_highs) (a0_lows := a0_lows) (a0_itemWides := a0_itemWides) (a0_pile := a0_pile) (a0_refusal := a0_refusal) (a0_textSize := a0_textSize) (a0_acts := a0_acts) (a0_lineSize := a0_lineSize) (a0_readSize := a0_readSize) (a0_deep := a0_deep) (x1 := z3) hr4) gV_X8_150 ⟨rfl, hd_X8_refused⟩ [0] (by decide) rfl rfl 0 rfl rfl rfl rfl ⟨Nat.zero_le _, Nat.zero_le _⟩ (Nat.le_of_ble_eq_true rfl) dX8_simulate_18 rfl [(a0, .inr (8, [.int (iI r4.2), .ref a0_text, .int (iI a0_textSize), .ref a0_now, .ref a0_trial, .ref a0_diary, .int (iI a0_acts), .ref a0_kept, .ref a0_isKept, .ref a0_clip, .ref a0_line, .int (iI a0_lineSize), .ref a0_read, .int (iI a0_readSize), .ref a0_opens, .ref a0_chains, .ref a0_factors, .ref a0_plains, .ref a0_belows, .ref a0_owned, .int (iI a0_deep), .ref a0_wides, .ref a0_highs, .ref a0_lows, .ref a0_itemWides, .ref a0_pile])), (a0_line, .inl (cs.1, 1024, .inl (aI a0_lineF))), (a0_now, .inl (cs.1, 184, .inl (aI a0_nowF))), (a0_pile, .inl (cs.1, 64, .inl (aI a0_pileF))), (a0_trial, .inl (cs.1, 184, .inl (aI a0_trialF)))] rfl ?_
    refine j_if_eq (pc := 21) 26 ok dX8_simulate_21 (by decide) h (fun h => ?_) (fun h => ?_)
    · refine j_aload_n (pc := 26) 0 ok dX8_simulate_26 rfl rfl ?_
      refine gf_X8_13_8 (pc := 27) 0 ok rfl dX8_simulate_27 ?_
      refine j_iconst (pc := 30) ok dX8_simulate_30 ?_
      refine j_aload_n (pc := 31) 0 ok dX8_simulate_31 rfl rfl ?_
      refine gf_X8_16_8 (pc := 32) 0 ok rfl dX8_simulate_32 ?_
      refine j_iconst (pc := 35) ok dX8_simulate_35 ?_
      obtain ⟨r5, hr5, h⟩ := bd_inv h
      refine j_callS (pc := 36) ok (k_X8_copyPage (a0 := a0_now) (a0N := 184) (a2 := a0_trial) (a2N := 184) (a0F := a0_nowF) (a2F := a0_trialF) (x1 := 0) (x3 := 0) hr5) gS_X8_226 hd_X8_copyPage [2, 4] (by decide) rfl rfl rfl rfl ⟨Nat.zero_le _, Nat.zero_le _⟩ (Nat.le_of_ble_eq_true rfl) dX8_simulate_36 rfl [(a0, .inr (8, [.int (iI r4.2), .ref a0_text, .int (iI a0_textSize), .ref a0_now, .ref a0_trial, .ref a0_diary, .int (iI a0_acts), .ref a0_kept, .ref a0_isKept, .ref a0_clip, .ref a0_line, .int (iI a0_lineSize), .ref a0_read, .int (iI a0_readSize), .ref a0_opens, .ref a0_chains, .ref a0_factors, .ref a0_plains, .ref a0_belows, .ref a0_owned, .int (iI a0_deep), .ref a0_wides, .ref a0_highs, .ref a0_lows, .ref a0_itemWides, .ref a0_pile])), (a0_line, .inl (cs.1, 1024, .inl (aI a0_lineF))), (a0_now, .inl (cs.1, 184, .inl (aI a0_nowF))), (a0_pile, .inl (cs.1, 64, .inl (aI a0_pileF))), (a0_trial, .inl (cs.1, 184, .inl (aI r5)))] rfl ?_
      refine j_lload_n (pc := 39) 1 ok dX8_simulate_39 rfl rfl ?_
      refine j_lstore (pc := 40) (lv' := [(4, .long (iL x1)), (0, .ref a0), (1, .long (iL x1)), (3, .int (iI x2))]) ok dX8_simulate_40 (by decide) rfl ?_
      refine j_iconst (pc := 42) ok dX8_simulate_42 ?_
      refine j_istore (pc := 43) (lv' := [(6, .int (iI 0)), (4, .long (iL x1)), (0, .ref a0), (1, .long (iL x1)), (3, .int (iI x2))]) ok dX8_simulate_43 (by decide) rfl ?_
      refine j_lv [2, 4, 1, 0] rfl ?_
      refine l_X8_simulate_45 ok fin (fun z17 h => ?_) fuel _ _ _ h
      · refine j_aload_n (pc := 204) 0 ok dX8_simulate_204 rfl rfl ?_
        refine j_aload_n (pc := 205) 0 ok dX8_simulate_205 rfl rfl ?_
        refine gf_X8_16_8 (pc := 206) 0 ok rfl dX8_simulate_206 ?_
        obtain ⟨r18, hr18, h⟩ := bd_inv h
        refine j_callV (pc := 209) ok (k_X8_layLine (a0 := a0) (a0_text := a0_text) (a0_now := a0_now) (a0_trial := a0_trial) (a0_diary := a0_diary) (a0_kept := a0_kept) (a0_isKept := a0_isKept) (a0_clip := a0_clip) (a0_line := a0_line) (a0_read := a0_read) (a0_opens := a0_opens) (a0_chains := a0_chains) (a0_factors := a0_factors) (a0_plains := a0_plains) (a0_belows := a0_belows) (a0_owned := a0_owned) (a0_wides := a0_wides) (a0_highs := a0_highs) (a0_lows := a0_lows) (a0_itemWides := a0_itemWides) (a0_pile := a0_pile) (a1 := a0_trial) (a1N := 184) (a0_refusal := r4.2) (a0_textSize := a0_textSize) (a0_acts := a0_acts) (a0_lineSize := a0_lineSize) (a0_readSize := a0_readSize) (a0_deep := a0_deep) (a0_lineF := a0_lineF) (a0_pileF := a0_pileF) (a1F := z17.1) hr18) gV_X8_207 ⟨rfl, hd_X8_layLine⟩ [0, 1, 3, 4] (by decide) rfl rfl 0 rfl rfl rfl rfl ⟨Nat.zero_le _, Nat.zero_le _⟩ (Nat.le_of_ble_eq_true rfl) dX8_simulate_209 rfl [(a0, .inr (8, [.int (iI r4.2), .ref a0_text, .int (iI a0_textSize), .ref a0_now, .ref a0_trial, .ref a0_diary, .int (iI a0_acts), .ref a0_kept, .ref a0_isKept, .ref a0_clip, .ref a0_line, .int (iI r18.1), .ref a0_read, .int (iI a0_readSize), .ref a0_opens, .ref a0_chains, .ref a0_factors, .ref a0_plains, .ref a0_belows, .ref a0_owned, .int (iI a0_deep), .ref a0_wides, .ref a0_highs, .ref a0_lows, .ref a0_itemWides, .ref a0_pile])), (a0_line, .inl (cs.1, 1024, .inl (aI r18.2.1))), (a0_now, .inl (cs.1, 184, .inl (aI a0_nowF))), (a0_pile, .inl (cs.1, 64, .inl (aI r18.2.2))), (a0_trial, .inl (cs.1, 184, .inl (aI z17.1)))] rfl ?_
        refine j_sipush (pc := 212) ok dX8_simulate_212 (by decide) ?_
        refine j_aload_n (pc := 215) 0 ok dX8_simulate_215 rfl rfl ?_
        refine gf_X8_16_8 (pc := 216) 0 ok rfl dX8_simulate_216 ?_
        refine j_iconst (pc := 219) ok dX8_simulate_219 ?_
        refine j_aload_n (pc := 220) 0 ok dX8_simulate_220 rfl rfl ?_
        refine gf_X8_16_8 (pc := 221) 0 ok rfl dX8_simulate_221 ?_
        refine j_sipush (pc := 224) ok dX8_simulate_224 (by decide) ?_
        refine j_iald (pc := 227) 4 ok rfl dX8_simulate_227 h (fun h => ?_)
        obtain ⟨r19, hr19, h⟩ := bd_inv h
        refine j_callS (pc := 228) ok (k_X8_allIn (a0 := a0_trial) (a0N := 184) (a0F := z17.1) (x1 := 0) (x2 := z17.1 (180 : Int).toNat) hr19) gS_X8_114 hd_X8_allIn [4] (by decide) rfl rfl rfl rfl ⟨Nat.zero_le _, Nat.zero_le _⟩ (Nat.le_of_ble_eq_true rfl) dX8_simulate_228 rfl [(a0, .inr (8, [.int (iI r4.2), .ref a0_text, .int (iI a0_textSize), .ref a0_now, .ref a0_trial, .ref a0_diary, .int (iI a0_acts), .ref a0_kept, .ref a0_isKept, .ref a0_clip, .ref a0_line, .int (iI r18.1), .ref a0_read, .int (iI a0_readSize), .ref a0_opens, .ref a0_chains, .ref a0_factors, .ref a0_plains, .ref a0_belows, .ref a0_owned, .int (iI a0_deep), .ref a0_wides, .ref a0_highs, .ref a0_lows, .ref a0_itemWides, .ref a0_pile])), (a0_line, .inl (cs.1, 1024, .inl (aI r18.2.1))), (a0_now, .inl (cs.1, 184, .inl (aI a0_nowF))), (a0_pile, .inl (cs.1, 64, .inl (aI r18.2.2))), (a0_trial, .inl (cs.1, 184, .inl (aI z17.1)))] rfl ?_
        refine j_imul (pc := 231) ok dX8_simulate_231 ?_
        refine j_aload_n (pc := 232) 0 ok dX8_simulate_232 rfl rfl ?_
        refine gf_X8_193_8 (pc := 233) 0 ok rfl dX8_simulate_233 ?_
        refine j_iadd (pc := 236) ok dX8_simulate_236 ?_
        obtain rfl := Option.some.inj h
        exact fin _ 237 dX8_simulate_237
    · refine j_iconst (pc := 24) ok dX8_simulate_24 ?_
      obtain rfl := Option.some.inj h
      exact fin _ 25 dX8_simulate_25
  · refine j_if_eq (pc := 10) 17 ok dX8_simulate_10 (by decide) h (fun h => ?_) (fun h => ?_)
    · refine j_iconst (pc := 17) ok dX8_simulate_17 ?_
      exact hk2 1 h
    · refine j_iconst (pc := 13) ok dX8_simulate_13 ?_
      refine j_goto (pc := 14) 18 ok dX8_simulate_14 (by decide) ?_
      exact hk2 0 h
def f_X8_save (a0_refusal : Int) (a0_isKeptF : (Nat → Int)) (a0_keptF : (Nat → Int)) (a0_nowF : (Nat → Int)) (x1 : Int) : Option (Int × Int × (Nat → Int) × (Nat → Int)) := gR x1 (bd (f_X8_in x1 0 1) (fun r1 => jn (fun (z3 : Int) => bd (f_X8_refused a0_refusal z3) (fun r4 => cEq r4.1 0 (gIn x1 2 (gB 1 (bd (f_X8_copyPage 184 368 a0_nowF a0_keptF 0 (184 * x1)) (fun r5 => gIn 180 184 (bd (f_X8_allIn 184 a0_nowF 0 (a0_nowF (180 : Int).toNat)) (fun r6 => some (r6, r4.2, va_up a0_isKeptF x1.toNat 1, r5))))))) (some (0, r4.2, a0_isKeptF, a0_keptF)))) (fun k2 => cEq r1 0 (k2 1) (k2 0))))
set_option maxRecDepth 100000 in
set_option maxHeartbeats 4000000 in
theorem k_X8_save {D : va_G} {cs : q_CS} {a0 a0_text a0_now a0_trial a0_diary a0_kept a0_isKept a0_clip a0_line a0_read a0_opens a0_chains a0_factors a0_plains a0_belows a0_owned a0_wides a0_highs a0_lows a0_itemWides a0_pile : Nat} {a0_refusal a0_textSize a0_acts a0_lineSize a0_readSize a0_deep : Int} {a0_isKeptF a0_keptF a0_nowF : (Nat → Int)} {x1 : Int} {r : (Int × Int × (Nat → Int) × (Nat → Int))} (h : f_X8_save a0_refusal a0_isKeptF a0_keptF a0_nowF x1 = some r) : q_M D cs yX8_save cX8_save 2 (some .int) 2 44 [.ref a0, .int (iI x1)] [(a0, .inr (8, [.int (iI a0_refusal), .ref a0_text, .int (iI a0_textSize), .ref a0_now, .ref a0_trial, .ref a0_diary, .int (iI a0_acts), .ref a0_kept, .ref a0_isKept, .ref a0_clip, .ref a0_line, .int (iI a0_lineSize), .ref a0_read, .int (iI a0_readSize), .ref a0_opens, .ref a0_chains, .ref a0_factors, .ref a0_plains, .ref a0_belows, .ref a0_owned, .int (iI a0_deep), .ref a0_wides, .ref a0_highs, .ref a0_lows, .ref a0_itemWides, .ref a0_pile])), (a0_isKept, .inl (cs.2.1, 2, .inl (aI a0_isKeptF))), (a0_kept, .inl (cs.1, 368, .inl (aI a0_keptF))), (a0_now, .inl (cs.1, 184, .inl (aI a0_nowF)))] (some (.int (iI r.1))) [(a0, .inr (8, [.int (iI r.2.1), .ref a0_text, .int (iI a0_textSize), .ref a0_now, .ref a0_trial, .ref a0_diary, .int (iI a0_acts), .ref a0_kept, .ref a0_isKept, .ref a0_clip, .ref a0_line, .int (iI a0_lineSize), .ref a0_read, .int (iI a0_readSize), .ref a0_opens, .ref a0_chains, .ref a0_factors, .ref a0_plains, .ref a0_belows, .ref a0_owned, .int (iI a0_deep), .ref a0_wides, .ref a0_highs, .ref a0_lows, .ref a0_itemWides, .ref a0_pile])), (a0_isKept, .inl (cs.2.1, 2, .inl (aI r.2.2.1))), (a0_kept, .inl (cs.1, 368, .inl (aI r.2.2.2))), (a0_now, .inl (cs.1, 184, .inl (aI a0_nowF)))] := by
  refine q_start_i [(0, .ref a0), (1, .int (iI x1))] RX8 rfl (by decide +kernel) rfl (Nat.le_of_ble_eq_true rfl) rfl (fun κ ok fin => ?_)
  unfold f_X8_save at h
  refine j_aload_n (pc := 0) 0 ok dX8_save_0 rfl rfl ?_
  refine j_iload_n (pc := 1) 1 ok dX8_save_1 rfl rfl ?_
  refine j_i2l (pc := 2) ok dX8_save_2 h (fun h => ?_)
  refine j_lconst (pc := 3) 0 ok dX8_save_3 (by decide) ?_
  refine j_lconst (pc := 4) 1 ok dX8_save_4 (by decide) ?_
  obtain ⟨r1, hr1, h⟩ := bd_inv h
  refine j_callS (pc := 5) ok (k_X8_in (x0 := x1) (x1 := 0) (x2 := 1) hr1) gS_X8_79 hd_X8_in [] (by decide) rfl rfl rfl rfl ⟨Nat.zero_le _, Nat.zero_le _⟩ (Nat.le_of_ble_eq_true rfl) dX8_save_5 rfl [(a0, .inr (8, [.int (iI a0_refusal), .ref a0_text, .int (iI a0_textSize), .ref a0_now, .ref a0_trial, .ref a0_diary, .int (iI a0_acts), .ref a0_kept, .ref a0_isKept, .ref a0_clip, .ref a0_line, .int (iI a0_lineSize), .ref a0_read, .int (iI a0_readSize), .ref a0_opens, .ref a0_chains, .ref a0_factors, .ref a0_plains, .ref a0_belows, .ref a0_owned, .int (iI a0_deep), .ref a0_wides, .ref a0_highs, .ref a0_lows, .ref a0_itemWides, .ref a0_pile])), (a0_isKept, .inl (cs.2.1, 2, .inl (aI a0_isKeptF))), (a0_kept, .inl (cs.1, 368, .inl (aI a0_keptF))), (a0_now, .inl (cs.1, 184, .inl (aI a0_nowF)))] rfl ?_
  refine jn_use (P := fun z3 => q_J D κ 2 0 0 [(a0, .inr (8, [.int (iI a0_refusal), .ref a0_text, .int (iI a0_textSize), .ref a0_now, .ref a0_trial, .ref a0_diary, .int (iI a0_acts), .ref a0_kept, .ref a0_isKept, .ref a0_clip, .ref a0_line, .int (iI a0_lineSize), .ref a0_read, .int (iI a0_readSize), .ref a0_opens, .ref a0_chains, .ref a0_factors, .ref a0_plains, .ref a0_belows, .ref a0_owned, .int (iI a0_deep), .ref a0_wides, .ref a0_highs, .ref a0_lows, .ref a0_itemWides, .ref a0_pile])), (a0_isKept, .inl (cs.2.1, 2, .inl (aI a0_isKeptF))), (a0_kept, .inl (cs.1, 368, .inl (aI a0_keptF))), (a0_now, .inl (cs.1, 184, .inl (aI a0_nowF)))] [(0, .ref a0), (1, .int (iI x1))] 16 [.int (iI z3), .ref a0]) h (fun z3 h => ?_) (fun k2 hk2 h => ?_)
  · obtain ⟨r4, hr4, h⟩ := bd_inv h
    refine j_callV (pc := 16) ok (k_X8_refused (a0 := a0) (a0_text := a0_text) (a0_now := a0_now) (a0_trial := a0_trial) (a0_diary := a0_diary) (a0_kept := a0_kept) (a0_isKept := a0_isKept) (a0_clip := a0_clip) (a0_line := a0_line) (a0_read := a0_read) (a0_opens := a0_opens) (a0_chains := a0_chains) (a0_factors := a0_factors) (a0_plains := a0_plains) (a0_belows := a0_belows) (a0_owned := a0_owned) (a0_wides := a0_wides) (a0_highs := a0_highs) (a0_lows := a0_lows) (a0_itemWides := a0_itemWides) (a0_pile := a0_pile) (a0_refusal := a0_refusal) (a0_textSize := a0_textSize) (a0_acts := a0_acts) (a0_lineSize := a0_lineSize) (a0_readSize := a0_readSize) (a0_deep := a0_deep) (x1 := z3) hr4) gV_X8_150 ⟨rfl, hd_X8_refused⟩ [0] (by decide) rfl rfl 0 rfl rfl rfl rfl ⟨Nat.zero_le _, Nat.zero_le _⟩ (Nat.le_of_ble_eq_true rfl) dX8_save_16 rfl [(a0, .inr (8, [.int (iI r4.2), .ref a0_text, .int (iI a0_textSize), .ref a0_now, .ref a0_trial, .ref a0_diary, .int (iI a0_acts), .ref a0_kept, .ref a0_isKept, .ref a0_clip, .ref a0_line, .int (iI a0_lineSize), .ref a0_read, .int (iI a0_readSize), .ref a0_opens, .ref a0_chains, .ref a0_factors, .ref a0_plains, .ref a0_belows, .ref a0_owned, .int (iI a0_deep), .ref a0_wides, .ref a0_highs, .ref a0_lows, .ref a0_itemWides, .ref a0_pile])), (a0_isKept, .inl (cs.2.1, 2, .inl (aI a0_isKeptF))), (a0_kept, .inl (cs.1, 368, .inl (aI a0_keptF))), (a0_now, .inl (cs.1, 184, .inl (aI a0_nowF)))] rfl ?_
    refine j_if_eq (pc := 19) 24 ok dX8_save_19 (by decide) h (fun h => ?_) (fun h => ?_)
    · refine j_aload_n (pc := 24) 0 ok dX8_save_24 rfl rfl ?_
      refine gf_X8_25_8 (pc := 25) 0 ok rfl dX8_save_25 ?_
      refine j_iload_n (pc := 28) 1 ok dX8_save_28 rfl rfl ?_
      refine j_iconst (pc := 29) ok dX8_save_29 ?_
      refine j_zastw (pc := 30) 1 ok rfl dX8_save_30 h [(a0, .inr (8, [.int (iI r4.2), .ref a0_text, .int (iI a0_textSize), .ref a0_now, .ref a0_trial, .ref a0_diary, .int (iI a0_acts), .ref a0_kept, .ref a0_isKept, .ref a0_clip, .ref a0_line, .int (iI a0_lineSize), .ref a0_read, .int (iI a0_readSize), .ref a0_opens, .ref a0_chains, .ref a0_factors, .ref a0_plains, .ref a0_belows, .ref a0_owned, .int (iI a0_deep), .ref a0_wides, .ref a0_highs, .ref a0_lows, .ref a0_itemWides, .ref a0_pile])), (a0_isKept, .inl (cs.2.1, 2, .inl (aI (va_up a0_isKeptF x1.toNat 1)))), (a0_kept, .inl (cs.1, 368, .inl (aI a0_keptF))), (a0_now, .inl (cs.1, 184, .inl (aI a0_nowF)))] rfl (fun h => ?_)
      refine j_aload_n (pc := 31) 0 ok dX8_save_31 rfl rfl ?_
      refine gf_X8_13_8 (pc := 32) 0 ok rfl dX8_save_32 ?_
      refine j_iconst (pc := 35) ok dX8_save_35 ?_
      refine j_aload_n (pc := 36) 0 ok dX8_save_36 rfl rfl ?_
      refine gf_X8_22_8 (pc := 37) 0 ok rfl dX8_save_37 ?_
      refine j_sipush (pc := 40) ok dX8_save_40 (by decide) ?_
      refine j_iload_n (pc := 43) 1 ok dX8_save_43 rfl rfl ?_
      refine j_imul (pc := 44) ok dX8_save_44 ?_
      obtain ⟨r5, hr5, h⟩ := bd_inv h
      refine j_callS (pc := 45) ok (k_X8_copyPage (a0 := a0_now) (a0N := 184) (a2 := a0_kept) (a2N := 368) (a0F := a0_nowF) (a2F := a0_keptF) (x1 := 0) (x3 := 184 * x1) hr5) gS_X8_226 hd_X8_copyPage [3, 2] (by decide) rfl rfl rfl rfl ⟨Nat.zero_le _, Nat.zero_le _⟩ (Nat.le_of_ble_eq_true rfl) dX8_save_45 rfl [(a0, .inr (8, [.int (iI r4.2), .ref a0_text, .int (iI a0_textSize), .ref a0_now, .ref a0_trial, .ref a0_diary, .int (iI a0_acts), .ref a0_kept, .ref a0_isKept, .ref a0_clip, .ref a0_line, .int (iI a0_lineSize), .ref a0_read, .int (iI a0_readSize), .ref a0_opens, .ref a0_chains, .ref a0_factors, .ref a0_plains, .ref a0_belows, .ref a0_owned, .int (iI a0_deep), .ref a0_wides, .ref a0_highs, .ref a0_lows, .ref a0_itemWides, .ref a0_pile])), (a0_isKept, .inl (cs.2.1, 2, .inl (aI (va_up a0_isKeptF x1.toNat 1)))), (a0_kept, .inl (cs.1, 368, .inl (aI r5))), (a0_now, .inl (cs.1, 184, .inl (aI a0_nowF)))] rfl ?_
      refine j_aload_n (pc := 48) 0 ok dX8_save_48 rfl rfl ?_
      refine gf_X8_13_8 (pc := 49) 0 ok rfl dX8_save_49 ?_
      refine j_iconst (pc := 52) ok dX8_save_52 ?_
      refine j_aload_n (pc := 53) 0 ok dX8_save_53 rfl rfl ?_
      refine gf_X8_13_8 (pc := 54) 0 ok rfl dX8_save_54 ?_
      refine j_sipush (pc := 57) ok dX8_save_57 (by decide) ?_
      refine j_iald (pc := 60) 3 ok rfl dX8_save_60 h (fun h => ?_)
      obtain ⟨r6, hr6, h⟩ := bd_inv h
      refine j_callS (pc := 61) ok (k_X8_allIn (a0 := a0_now) (a0N := 184) (a0F := a0_nowF) (x1 := 0) (x2 := a0_nowF (180 : Int).toNat) hr6) gS_X8_114 hd_X8_allIn [3] (by decide) rfl rfl rfl rfl ⟨Nat.zero_le _, Nat.zero_le _⟩ (Nat.le_of_ble_eq_true rfl) dX8_save_61 rfl [(a0, .inr (8, [.int (iI r4.2), .ref a0_text, .int (iI a0_textSize), .ref a0_now, .ref a0_trial, .ref a0_diary, .int (iI a0_acts), .ref a0_kept, .ref a0_isKept, .ref a0_clip, .ref a0_line, .int (iI a0_lineSize), .ref a0_read, .int (iI a0_readSize), .ref a0_opens, .ref a0_chains, .ref a0_factors, .ref a0_plains, .ref a0_belows, .ref a0_owned, .int (iI a0_deep), .ref a0_wides, .ref a0_highs, .ref a0_lows, .ref a0_itemWides, .ref a0_pile])), (a0_isKept, .inl (cs.2.1, 2, .inl (aI (va_up a0_isKeptF x1.toNat 1)))), (a0_kept, .inl (cs.1, 368, .inl (aI r5))), (a0_now, .inl (cs.1, 184, .inl (aI a0_nowF)))] rfl ?_
      obtain rfl := Option.some.inj h
      exact fin _ 64 dX8_save_64
    · refine j_iconst (pc := 22) ok dX8_save_22 ?_
      obtain rfl := Option.some.inj h
      exact fin _ 23 dX8_save_23
  · refine j_if_eq (pc := 8) 15 ok dX8_save_8 (by decide) h (fun h => ?_) (fun h => ?_)
    · refine j_iconst (pc := 15) ok dX8_save_15 ?_
      exact hk2 1 h
    · refine j_iconst (pc := 11) ok dX8_save_11 ?_
      refine j_goto (pc := 12) 16 ok dX8_save_12 (by decide) ?_
      exact hk2 0 h
def f_X8_restore (a0_refusal : Int) (a0_acts : Int) (a0_isKeptF : (Nat → Int)) (a0_keptF : (Nat → Int)) (a0_nowF : (Nat → Int)) (x1 : Int) : Option (Int × Int × Int × (Nat → Int)) := gR x1 (bd (f_X8_in x1 0 1) (fun r1 => jn (fun (z3 : Int) => bd (f_X8_refused a0_refusal z3) (fun r4 => cEq r4.1 0 (bd (f_X8_copyPage 368 184 a0_keptF a0_nowF (184 * x1) 0) (fun r5 => gIn 180 184 (bd (f_X8_allIn 184 r5 0 (r5 (180 : Int).toNat)) (fun r6 => some (r6, r4.2, 0, r5))))) (some (0, r4.2, a0_acts, a0_nowF)))) (fun k2 => cEq r1 0 (k2 1) (gIn x1 2 (cEq (a0_isKeptF x1.toNat) 0 (k2 2) (k2 0))))))
set_option maxRecDepth 100000 in
set_option maxHeartbeats 4000000 in
theorem k_X8_restore {D : va_G} {cs : q_CS} {a0 a0_text a0_now a0_trial a0_diary a0_kept a0_isKept a0_clip a0_line a0_read a0_opens a0_chains a0_factors a0_plains a0_belows a0_owned a0_wides a0_highs a0_lows a0_itemWides a0_pile : Nat} {a0_refusal a0_textSize a0_acts a0_lineSize a0_readSize a0_deep : Int} {a0_isKeptF a0_keptF a0_nowF : (Nat → Int)} {x1 : Int} {r : (Int × Int × Int × (Nat → Int))} (h : f_X8_restore a0_refusal a0_acts a0_isKeptF a0_keptF a0_nowF x1 = some r) : q_M D cs yX8_restore cX8_restore 2 (some .int) 2 44 [.ref a0, .int (iI x1)] [(a0, .inr (8, [.int (iI a0_refusal), .ref a0_text, .int (iI a0_textSize), .ref a0_now, .ref a0_trial, .ref a0_diary, .int (iI a0_acts), .ref a0_kept, .ref a0_isKept, .ref a0_clip, .ref a0_line, .int (iI a0_lineSize), .ref a0_read, .int (iI a0_readSize), .ref a0_opens, .ref a0_chains, .ref a0_factors, .ref a0_plains, .ref a0_belows, .ref a0_owned, .int (iI a0_deep), .ref a0_wides, .ref a0_highs, .ref a0_lows, .ref a0_itemWides, .ref a0_pile])), (a0_isKept, .inl (cs.2.1, 2, .inl (aI a0_isKeptF))), (a0_kept, .inl (cs.1, 368, .inl (aI a0_keptF))), (a0_now, .inl (cs.1, 184, .inl (aI a0_nowF)))] (some (.int (iI r.1))) [(a0, .inr (8, [.int (iI r.2.1), .ref a0_text, .int (iI a0_textSize), .ref a0_now, .ref a0_trial, .ref a0_diary, .int (iI r.2.2.1), .ref a0_kept, .ref a0_isKept, .ref a0_clip, .ref a0_line, .int (iI a0_lineSize), .ref a0_read, .int (iI a0_readSize), .ref a0_opens, .ref a0_chains, .ref a0_factors, .ref a0_plains, .ref a0_belows, .ref a0_owned, .int (iI a0_deep), .ref a0_wides, .ref a0_highs, .ref a0_lows, .ref a0_itemWides, .ref a0_pile])), (a0_isKept, .inl (cs.2.1, 2, .inl (aI a0_isKeptF))), (a0_kept, .inl (cs.1, 368, .inl (aI a0_keptF))), (a0_now, .inl (cs.1, 184, .inl (aI r.2.2.2)))] := by
  refine q_start_i [(0, .ref a0), (1, .int (iI x1))] RX8 rfl (by decide +kernel) rfl (Nat.le_of_ble_eq_true rfl) rfl (fun κ ok fin => ?_)
  unfold f_X8_restore at h
  refine j_aload_n (pc := 0) 0 ok dX8_restore_0 rfl rfl ?_
  refine j_iload_n (pc := 1) 1 ok dX8_restore_1 rfl rfl ?_
  refine j_i2l (pc := 2) ok dX8_restore_2 h (fun h => ?_)
  refine j_lconst (pc := 3) 0 ok dX8_restore_3 (by decide) ?_
  refine j_lconst (pc := 4) 1 ok dX8_restore_4 (by decide) ?_
  obtain ⟨r1, hr1, h⟩ := bd_inv h
  refine j_callS (pc := 5) ok (k_X8_in (x0 := x1) (x1 := 0) (x2 := 1) hr1) gS_X8_79 hd_X8_in [] (by decide) rfl rfl rfl rfl ⟨Nat.zero_le _, Nat.zero_le _⟩ (Nat.le_of_ble_eq_true rfl) dX8_restore_5 rfl [(a0, .inr (8, [.int (iI a0_refusal), .ref a0_text, .int (iI a0_textSize), .ref a0_now, .ref a0_trial, .ref a0_diary, .int (iI a0_acts), .ref a0_kept, .ref a0_isKept, .ref a0_clip, .ref a0_line, .int (iI a0_lineSize), .ref a0_read, .int (iI a0_readSize), .ref a0_opens, .ref a0_chains, .ref a0_factors, .ref a0_plains, .ref a0_belows, .ref a0_owned, .int (iI a0_deep), .ref a0_wides, .ref a0_highs, .ref a0_lows, .ref a0_itemWides, .ref a0_pile])), (a0_isKept, .inl (cs.2.1, 2, .inl (aI a0_isKeptF))), (a0_kept, .inl (cs.1, 368, .inl (aI a0_keptF))), (a0_now, .inl (cs.1, 184, .inl (aI a0_nowF)))] rfl ?_
  refine jn_use (P := fun z3 => q_J D κ 2 0 0 [(a0, .inr (8, [.int (iI a0_refusal), .ref a0_text, .int (iI a0_textSize), .ref a0_now, .ref a0_trial, .ref a0_diary, .int (iI a0_acts), .ref a0_kept, .ref a0_isKept, .ref a0_clip, .ref a0_line, .int (iI a0_lineSize), .ref a0_read, .int (iI a0_readSize), .ref a0_opens, .ref a0_chains, .ref a0_factors, .ref a0_plains, .ref a0_belows, .ref a0_owned, .int (iI a0_deep), .ref a0_wides, .ref a0_highs, .ref a0_lows, .ref a0_itemWides, .ref a0_pile])), (a0_isKept, .inl (cs.2.1, 2, .inl (aI a0_isKeptF))), (a0_kept, .inl (cs.1, 368, .inl (aI a0_keptF))), (a0_now, .inl (cs.1, 184, .inl (aI a0_nowF)))] [(0, .ref a0), (1, .int (iI x1))] 29 [.int (iI z3), .ref a0]) h (fun z3 h => ?_) (fun k2 hk2 h => ?_)
  · obtain ⟨r4, hr4, h⟩ := bd_inv h
    refine j_callV (pc := 29) ok (k_X8_refused (a0 := a0) (a0_text := a0_text) (a0_now := a0_now) (a0_trial := a0_trial) (a0_diary := a0_diary) (a0_kept := a0_kept) (a0_isKept := a0_isKept) (a0_clip := a0_clip) (a0_line := a0_line) (a0_read := a0_read) (a0_opens := a0_opens) (a0_chains := a0_chains) (a0_factors := a0_factors) (a0_plains := a0_plains) (a0_belows := a0_belows) (a0_owned := a0_owned) (a0_wides := a0_wides) (a0_highs := a0_highs) (a0_lows := a0_lows) (a0_itemWides := a0_itemWides) (a0_pile := a0_pile) (a0_refusal := a0_refusal) (a0_textSize := a0_textSize) (a0_acts := a0_acts) (a0_lineSize := a0_lineSize) (a0_readSize := a0_readSize) (a0_deep := a0_deep) (x1 := z3) hr4) gV_X8_150 ⟨rfl, hd_X8_refused⟩ [0] (by decide) rfl rfl 0 rfl rfl rfl rfl ⟨Nat.zero_le _, Nat.zero_le _⟩ (Nat.le_of_ble_eq_true rfl) dX8_restore_29 rfl [(a0, .inr (8, [.int (iI r4.2), .ref a0_text, .int (iI a0_textSize), .ref a0_now, .ref a0_trial, .ref a0_diary, .int (iI a0_acts), .ref a0_kept, .ref a0_isKept, .ref a0_clip, .ref a0_line, .int (iI a0_lineSize), .ref a0_read, .int (iI a0_readSize), .ref a0_opens, .ref a0_chains, .ref a0_factors, .ref a0_plains, .ref a0_belows, .ref a0_owned, .int (iI a0_deep), .ref a0_wides, .ref a0_highs, .ref a0_lows, .ref a0_itemWides, .ref a0_pile])), (a0_isKept, .inl (cs.2.1, 2, .inl (aI a0_isKeptF))), (a0_kept, .inl (cs.1, 368, .inl (aI a0_keptF))), (a0_now, .inl (cs.1, 184, .inl (aI a0_nowF)))] rfl ?_
    refine j_if_eq (pc := 32) 37 ok dX8_restore_32 (by decide) h (fun h => ?_) (fun h => ?_)
    · refine j_aload_n (pc := 37) 0 ok dX8_restore_37 rfl rfl ?_
      refine gf_X8_22_8 (pc := 38) 0 ok rfl dX8_restore_38 ?_
      refine j_sipush (pc := 41) ok dX8_restore_41 (by decide) ?_
      refine j_iload_n (pc := 44) 1 ok dX8_restore_44 rfl rfl ?_
      refine j_imul (pc := 45) ok dX8_restore_45 ?_
      refine j_aload_n (pc := 46) 0 ok dX8_restore_46 rfl rfl ?_
      refine gf_X8_13_8 (pc := 47) 0 ok rfl dX8_restore_47 ?_
      refine j_iconst (pc := 50) ok dX8_restore_50 ?_
      obtain ⟨r5, hr5, h⟩ := bd_inv h
      refine j_callS (pc := 51) ok (k_X8_copyPage (a0 := a0_kept) (a0N := 368) (a2 := a0_now) (a2N := 184) (a0F := a0_keptF) (a2F := a0_nowF) (x1 := 184 * x1) (x3 := 0) hr5) gS_X8_226 hd_X8_copyPage [2, 3] (by decide) rfl rfl rfl rfl ⟨Nat.zero_le _, Nat.zero_le _⟩ (Nat.le_of_ble_eq_true rfl) dX8_restore_51 rfl [(a0, .inr (8, [.int (iI r4.2), .ref a0_text, .int (iI a0_textSize), .ref a0_now, .ref a0_trial, .ref a0_diary, .int (iI a0_acts), .ref a0_kept, .ref a0_isKept, .ref a0_clip, .ref a0_line, .int (iI a0_lineSize), .ref a0_read, .int (iI a0_readSize), .ref a0_opens, .ref a0_chains, .ref a0_factors, .ref a0_plains, .ref a0_belows, .ref a0_owned, .int (iI a0_deep), .ref a0_wides, .ref a0_highs, .ref a0_lows, .ref a0_itemWides, .ref a0_pile])), (a0_isKept, .inl (cs.2.1, 2, .inl (aI a0_isKeptF))), (a0_kept, .inl (cs.1, 368, .inl (aI a0_keptF))), (a0_now, .inl (cs.1, 184, .inl (aI r5)))] rfl ?_
      refine j_aload_n (pc := 54) 0 ok dX8_restore_54 rfl rfl ?_
      refine j_iconst (pc := 55) ok dX8_restore_55 ?_
      refine pf_X8_182_8 (pc := 56) 0 ok rfl dX8_restore_56 [(a0, .inr (8, [.int (iI r4.2), .ref a0_text, .int (iI a0_textSize), .ref a0_now, .ref a0_trial, .ref a0_diary, .int (iI 0), .ref a0_kept, .ref a0_isKept, .ref a0_clip, .ref a0_line, .int (iI a0_lineSize), .ref a0_read, .int (iI a0_readSize), .ref a0_opens, .ref a0_chains, .ref a0_factors, .ref a0_plains, .ref a0_belows, .ref a0_owned, .int (iI a0_deep), .ref a0_wides, .ref a0_highs, .ref a0_lows, .ref a0_itemWides, .ref a0_pile])), (a0_isKept, .inl (cs.2.1, 2, .inl (aI a0_isKeptF))), (a0_kept, .inl (cs.1, 368, .inl (aI a0_keptF))), (a0_now, .inl (cs.1, 184, .inl (aI r5)))] rfl ?_
      refine j_aload_n (pc := 59) 0 ok dX8_restore_59 rfl rfl ?_
      refine gf_X8_13_8 (pc := 60) 0 ok rfl dX8_restore_60 ?_
      refine j_iconst (pc := 63) ok dX8_restore_63 ?_
      refine j_aload_n (pc := 64) 0 ok dX8_restore_64 rfl rfl ?_
      refine gf_X8_13_8 (pc := 65) 0 ok rfl dX8_restore_65 ?_
      refine j_sipush (pc := 68) ok dX8_restore_68 (by decide) ?_
      refine j_iald (pc := 71) 3 ok rfl dX8_restore_71 h (fun h => ?_)
      obtain ⟨r6, hr6, h⟩ := bd_inv h
      refine j_callS (pc := 72) ok (k_X8_allIn (a0 := a0_now) (a0N := 184) (a0F := r5) (x1 := 0) (x2 := r5 (180 : Int).toNat) hr6) gS_X8_114 hd_X8_allIn [3] (by decide) rfl rfl rfl rfl ⟨Nat.zero_le _, Nat.zero_le _⟩ (Nat.le_of_ble_eq_true rfl) dX8_restore_72 rfl [(a0, .inr (8, [.int (iI r4.2), .ref a0_text, .int (iI a0_textSize), .ref a0_now, .ref a0_trial, .ref a0_diary, .int (iI 0), .ref a0_kept, .ref a0_isKept, .ref a0_clip, .ref a0_line, .int (iI a0_lineSize), .ref a0_read, .int (iI a0_readSize), .ref a0_opens, .ref a0_chains, .ref a0_factors, .ref a0_plains, .ref a0_belows, .ref a0_owned, .int (iI a0_deep), .ref a0_wides, .ref a0_highs, .ref a0_lows, .ref a0_itemWides, .ref a0_pile])), (a0_isKept, .inl (cs.2.1, 2, .inl (aI a0_isKeptF))), (a0_kept, .inl (cs.1, 368, .inl (aI a0_keptF))), (a0_now, .inl (cs.1, 184, .inl (aI r5)))] rfl ?_
      obtain rfl := Option.some.inj h
      exact fin _ 75 dX8_restore_75
    · refine j_iconst (pc := 35) ok dX8_restore_35 ?_
      obtain rfl := Option.some.inj h
      exact fin _ 36 dX8_restore_36
  · refine j_if_ne (pc := 8) 15 ok dX8_restore_8 (by decide) h (fun h => ?_) (fun h => ?_)
    · refine j_aload_n (pc := 15) 0 ok dX8_restore_15 rfl rfl ?_
      refine gf_X8_25_8 (pc := 16) 0 ok rfl dX8_restore_16 ?_
      refine j_iload_n (pc := 19) 1 ok dX8_restore_19 rfl rfl ?_
      refine j_zald (pc := 20) 1 ok rfl dX8_restore_20 h (fun h => ?_)
      refine j_if_ne (pc := 21) 28 ok dX8_restore_21 (by decide) h (fun h => ?_) (fun h => ?_)
      · refine j_iconst (pc := 28) ok dX8_restore_28 ?_
        exact hk2 0 h
      · refine j_iconst (pc := 24) ok dX8_restore_24 ?_
        refine j_goto (pc := 25) 29 ok dX8_restore_25 (by decide) ?_
        exact hk2 2 h
    · refine j_iconst (pc := 11) ok dX8_restore_11 ?_
      refine j_goto (pc := 12) 29 ok dX8_restore_12 (by decide) ?_
      exact hk2 1 h
