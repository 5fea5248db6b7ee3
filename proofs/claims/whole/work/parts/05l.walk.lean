def f_X8_extend (a0_refusal : Int) (a0_nowF : (Nat → Int)) (x1 : Int) : Option (Int × Int × (Nat → Int)) := gIn 181 184 (gIn 182 184 (jn (fun (z2 : Int) => jn (fun (z6 : Int) => bd (f_X8_refused a0_refusal z6) (fun r7 => cEq r7.1 0 (jn (fun (z10 : Int) => gIn 182 184 (jn (fun (z13 : Int) => gIn 181 184 (gIn 182 184 (gIn 181 184 (bd (f_X8_itemsIn 184 (va_up (va_up a0_nowF (182 : Int).toNat z10) (181 : Int).toNat z13) ((va_up (va_up a0_nowF (182 : Int).toNat z10) (181 : Int).toNat z13) (182 : Int).toNat) ((va_up (va_up a0_nowF (182 : Int).toNat z10) (181 : Int).toNat z13) (181 : Int).toNat)) (fun r14 => some (r14, r7.2, va_up (va_up a0_nowF (182 : Int).toNat z10) (181 : Int).toNat z13)))))) (fun k11 => cEq x1 0 (k11 (a0_nowF (181 : Int).toNat)) (bd (f_X8_itemEnd 184 (va_up a0_nowF (182 : Int).toNat z10) (a0_nowF (181 : Int).toNat)) (fun r12 => k11 r12))))) (fun k8 => cEq x1 0 (bd (f_X8_itemStart 184 a0_nowF z2) (fun r9 => k8 r9)) (k8 z2))) (some (0, r7.2, a0_nowF)))) (fun k3 => cEq x1 0 (bd (f_X8_rowStart 184 a0_nowF z2) (fun r4 => cLt r4 z2 (k3 0) (k3 1))) (bd (f_X8_rowEnd 184 a0_nowF (a0_nowF (181 : Int).toNat)) (fun r5 => cLt (a0_nowF (181 : Int).toNat) r5 (k3 0) (k3 1))))) (fun k1 => cEq (a0_nowF (182 : Int).toNat) ((-9)) (k1 (a0_nowF (181 : Int).toNat)) (gIn 182 184 (k1 (a0_nowF (182 : Int).toNat))))))
set_option maxRecDepth 100000 in
set_option maxHeartbeats 4000000 in
theorem k_X8_extend {D : va_G} {cs : q_CS} {a0 a0_text a0_now a0_trial a0_diary a0_kept a0_isKept a0_clip a0_line a0_read a0_opens a0_chains a0_factors a0_plains a0_belows a0_owned a0_wides a0_highs a0_lows a0_itemWides a0_pile : Nat} {a0_refusal a0_textSize a0_acts a0_lineSize a0_readSize a0_deep : Int} {a0_nowF : (Nat → Int)} {x1 : Int} {r : (Int × Int × (Nat → Int))} (h : f_X8_extend a0_refusal a0_nowF x1 = some r) : q_M D cs yX8_extend cX8_extend 4 (some .int) 4 88 [.ref a0, .int (iI x1)] [(a0, .inr (8, [.int (iI a0_refusal), .ref a0_text, .int (iI a0_textSize), .ref a0_now, .ref a0_trial, .ref a0_diary, .int (iI a0_acts), .ref a0_kept, .ref a0_isKept, .ref a0_clip, .ref a0_line, .int (iI a0_lineSize), .ref a0_read, .int (iI a0_readSize), .ref a0_opens, .ref a0_chains, .ref a0_factors, .ref a0_plains, .ref a0_belows, .ref a0_owned, .int (iI a0_deep), .ref a0_wides, .ref a0_highs, .ref a0_lows, .ref a0_itemWides, .ref a0_pile])), (a0_now, .inl (cs.1, 184, .inl (aI a0_nowF)))] (some (.int (iI r.1))) [(a0, .inr (8, [.int (iI r.2.1), .ref a0_text, .int (iI a0_textSize), .ref a0_now, .ref a0_trial, .ref a0_diary, .int (iI a0_acts), .ref a0_kept, .ref a0_isKept, .ref a0_clip, .ref a0_line, .int (iI a0_lineSize), .ref a0_read, .int (iI a0_readSize), .ref a0_opens, .ref a0_chains, .ref a0_factors, .ref a0_plains, .ref a0_belows, .ref a0_owned, .int (iI a0_deep), .ref a0_wides, .ref a0_highs, .ref a0_lows, .ref a0_itemWides, .ref a0_pile])), (a0_now, .inl (cs.1, 184, .inl (aI r.2.2)))] := by
  refine q_start_i [(0, .ref a0), (1, .int (iI x1))] RX8 rfl (by decide +kernel) rfl (Nat.le_of_ble_eq_true rfl) rfl (fun κ ok fin => ?_)
  unfold f_X8_extend at h
  refine j_aload_n (pc := 0) 0 ok dX8_extend_0 rfl rfl ?_
  refine gf_X8_13_8 (pc := 1) 0 ok rfl dX8_extend_1 ?_
  refine j_sipush (pc := 4) ok dX8_extend_4 (by decide) ?_
  refine j_iald (pc := 7) 1 ok rfl dX8_extend_7 h (fun h => ?_)
  refine j_istore_n (pc := 8) (lv' := [(2, .int (iI (a0_nowF (181 : Int).toNat))), (0, .ref a0), (1, .int (iI x1))]) ok dX8_extend_8 rfl (by decide) rfl ?_
  refine j_aload_n (pc := 9) 1 ok dX8_extend_9 rfl rfl ?_
  refine gf_X8_13_8 (pc := 10) 0 ok rfl dX8_extend_10 ?_
  refine j_sipush (pc := 13) ok dX8_extend_13 (by decide) ?_
  refine j_iald (pc := 16) 1 ok rfl dX8_extend_16 h (fun h => ?_)
  refine j_bipush (pc := 17) ok dX8_extend_17 (by decide) ?_
  refine jn_use (P := fun z2 => q_J D κ 4 0 0 [(a0, .inr (8, [.int (iI a0_refusal), .ref a0_text, .int (iI a0_textSize), .ref a0_now, .ref a0_trial, .ref a0_diary, .int (iI a0_acts), .ref a0_kept, .ref a0_isKept, .ref a0_clip, .ref a0_line, .int (iI a0_lineSize), .ref a0_read, .int (iI a0_readSize), .ref a0_opens, .ref a0_chains, .ref a0_factors, .ref a0_plains, .ref a0_belows, .ref a0_owned, .int (iI a0_deep), .ref a0_wides, .ref a0_highs, .ref a0_lows, .ref a0_itemWides, .ref a0_pile])), (a0_now, .inl (cs.1, 184, .inl (aI a0_nowF)))] [(0, .ref a0), (1, .int (iI x1)), (2, .int (iI (a0_nowF (181 : Int).toNat)))] 34 [.int (iI z2)]) h (fun z2 h => ?_) (fun k1 hk1 h => ?_)
  · refine j_istore_n (pc := 34) (lv' := [(3, .int (iI z2)), (0, .ref a0), (1, .int (iI x1)), (2, .int (iI (a0_nowF (181 : Int).toNat)))]) ok dX8_extend_34 rfl (by decide) rfl ?_
    refine j_aload_n (pc := 35) 1 ok dX8_extend_35 rfl rfl ?_
    refine j_iload_n (pc := 36) 2 ok dX8_extend_36 rfl rfl ?_
    refine jn_use (P := fun z6 => q_J D κ 4 0 0 [(a0, .inr (8, [.int (iI a0_refusal), .ref a0_text, .int (iI a0_textSize), .ref a0_now, .ref a0_trial, .ref a0_diary, .int (iI a0_acts), .ref a0_kept, .ref a0_isKept, .ref a0_clip, .ref a0_line, .int (iI a0_lineSize), .ref a0_read, .int (iI a0_readSize), .ref a0_opens, .ref a0_chains, .ref a0_factors, .ref a0_plains, .ref a0_belows, .ref a0_owned, .int (iI a0_deep), .ref a0_wides, .ref a0_highs, .ref a0_lows, .ref a0_itemWides, .ref a0_pile])), (a0_now, .inl (cs.1, 184, .inl (aI a0_nowF)))] [(0, .ref a0), (1, .int (iI x1)), (2, .int (iI (a0_nowF (181 : Int).toNat))), (3, .int (iI z2))] 77 [.int (iI z6), .ref a0]) h (fun z6 h => ?_) (fun k3 hk3 h => ?_)
    · obtain ⟨r7, hr7, h⟩ := bd_inv h
      refine j_callV (pc := 77) ok (k_X8_refused (a0 := a0) (a0_text := a0_text) (a0_now := a0_now) (a0_trial := a0_trial) (a0_diary := a0_diary) (a0_kept := a0_kept) (a0_isKept := a0_isKept) (a0_clip := a0_clip) (a0_line := a0_line) (a0_read := a0_read) (a0_opens := a0_opens) (a0_chains := a0_chains) (a0_factors := a0_factors) (a0_plains := a0_plains) (a0_belows := a0_belows) (a0_owned := a0_owned) (a0_wides := a0_wides) (a0_highs := a0_highs) (a0_lows := a0_lows) (a0_itemWides := a0_itemWides) (a0_pile := a0_pile) (a0_refusal := a0_refusal) (a0_textSize := a0_textSize) (a0_acts := a0_acts) (a0_lineSize := a0_lineSize) (a0_readSize := a0_readSize) (a0_deep := a0_deep) (x1 := z6) hr7) gV_X8_150 ⟨rfl, hd_X8_refused⟩ [0] (by decide) rfl rfl 0 rfl rfl rfl rfl ⟨Nat.zero_le _, Nat.zero_le _⟩ (Nat.le_of_ble_eq_true rfl) dX8_extend_77 rfl [(a0, .inr (8, [.int (iI r7.2), .ref a0_text, .int (iI a0_textSize), .ref a0_now, .ref a0_trial, .ref a0_diary, .int (iI a0_acts), .ref a0_kept, .ref a0_isKept, .ref a0_clip, .ref a0_line, .int (iI a0_lineSize), .ref a0_read, .int (iI a0_readSize), .ref a0_opens, .ref a0_chains, .ref a0_factors, .ref a0_plains, .ref a0_belows, .ref a0_owned, .int (iI a0_deep), .ref a0_wides, .ref a0_highs, .ref a0_lows, .ref a0_itemWides, .ref a0_pile])), (a0_now, .inl (cs.1, 184, .inl (aI a0_nowF)))] rfl ?_
      refine j_if_eq (pc := 80) 85 ok dX8_extend_80 (by decide) h (fun h => ?_) (fun h => ?_)
      · refine j_aload_n (pc := 85) 0 ok dX8_extend_85 rfl rfl ?_
        refine gf_X8_13_8 (pc := 86) 0 ok rfl dX8_extend_86 ?_
        refine j_sipush (pc := 89) ok dX8_extend_89 (by decide) ?_
        refine j_iload_n (pc := 92) 1 ok dX8_extend_92 rfl rfl ?_
        refine jn_use (P := fun z10 => q_J D κ 4 0 0 [(a0, .inr (8, [.int (iI r7.2), .ref a0_text, .int (iI a0_textSize), .ref a0_now, .ref a0_trial, .ref a0_diary, .int (iI a0_acts), .ref a0_kept, .ref a0_isKept, .ref a0_clip, .ref a0_line, .int (iI a0_lineSize), .ref a0_read, .int (iI a0_readSize), .ref a0_opens, .ref a0_chains, .ref a0_factors, .ref a0_plains, .ref a0_belows, .ref a0_owned, .int (iI a0_deep), .ref a0_wides, .ref a0_highs, .ref a0_lows, .ref a0_itemWides, .ref a0_pile])), (a0_now, .inl (cs.1, 184, .inl (aI a0_nowF)))] [(0, .ref a0), (1, .int (iI x1)), (2, .int (iI (a0_nowF (181 : Int).toNat)))] 108 [.int (iI z10), .int (iI 182), .ref a0_now]) h (fun z10 h => ?_) (fun k8 hk8 h => ?_)
        · refine j_iastw (pc := 108) 1 ok rfl dX8_extend_108 h [(a0, .inr (8, [.int (iI r7.2), .ref a0_text, .int (iI a0_textSize), .ref a0_now, .ref a0_trial, .ref a0_diary, .int (iI a0_acts), .ref a0_kept, .ref a0_isKept, .ref a0_clip, .ref a0_line, .int (iI a0_lineSize), .ref a0_read, .int (iI a0_readSize), .ref a0_opens, .ref a0_chains, .ref a0_factors, .ref a0_plains, .ref a0_belows, .ref a0_owned, .int (iI a0_deep), .ref a0_wides, .ref a0_highs, .ref a0_lows, .ref a0_itemWides, .ref a0_pile])), (a0_now, .inl (cs.1, 184, .inl (aI (va_up a0_nowF (182 : Int).toNat z10))))] rfl (fun h => ?_)
          refine j_aload_n (pc := 109) 0 ok dX8_extend_109 rfl rfl ?_
          refine gf_X8_13_8 (pc := 110) 0 ok rfl dX8_extend_110 ?_
          refine j_sipush (pc := 113) ok dX8_extend_113 (by decide) ?_
          refine j_iload_n (pc := 116) 1 ok dX8_extend_116 rfl rfl ?_
          refine jn_use (P := fun z13 => q_J D κ 4 0 0 [(a0, .inr (8, [.int (iI r7.2), .ref a0_text, .int (iI a0_textSize), .ref a0_now, .ref a0_trial, .ref a0_diary, .int (iI a0_acts), .ref a0_kept, .ref a0_isKept, .ref a0_clip, .ref a0_line, .int (iI a0_lineSize), .ref a0_read, .int (iI a0_readSize), .ref a0_opens, .ref a0_chains, .ref a0_factors, .ref a0_plains, .ref a0_belows, .ref a0_owned, .int (iI a0_deep), .ref a0_wides, .ref a0_highs, .ref a0_lows, .ref a0_itemWides, .ref a0_pile])), (a0_now, .inl (cs.1, 184, .inl (aI (va_up a0_nowF (182 : Int).toNat z10))))] [(0, .ref a0)] 132 [.int (iI z13), .int (iI 181), .ref a0_now]) h (fun z13 h => ?_) (fun k11 hk11 h => ?_)
          · refine j_iastw (pc := 132) 1 ok rfl dX8_extend_132 h [(a0, .inr (8, [.int (iI r7.2), .ref a0_text, .int (iI a0_textSize), .ref a0_now, .ref a0_trial, .ref a0_diary, .int (iI a0_acts), .ref a0_kept, .ref a0_isKept, .ref a0_clip, .ref a0_line, .int (iI a0_lineSize), .ref a0_read, .int (iI a0_readSize), .ref a0_opens, .ref a0_chains, .ref a0_factors, .ref a0_plains, .ref a0_belows, .ref a0_owned, .int (iI a0_deep), .ref a0_wides, .ref a0_highs, .ref a0_lows, .ref a0_itemWides, .ref a0_pile])), (a0_now, .inl (cs.1, 184, .inl (aI (va_up (va_up a0_nowF (182 : Int).toNat z10) (181 : Int).toNat z13))))] rfl (fun h => ?_)
            refine j_aload_n (pc := 133) 0 ok dX8_extend_133 rfl rfl ?_
            refine gf_X8_13_8 (pc := 134) 0 ok rfl dX8_extend_134 ?_
            refine j_aload_n (pc := 137) 0 ok dX8_extend_137 rfl rfl ?_
            refine gf_X8_13_8 (pc := 138) 0 ok rfl dX8_extend_138 ?_
            refine j_sipush (pc := 141) ok dX8_extend_141 (by decide) ?_
            refine j_iald (pc := 144) 1 ok rfl dX8_extend_144 h (fun h => ?_)
            refine j_aload_n (pc := 145) 0 ok dX8_extend_145 rfl rfl ?_
            refine gf_X8_13_8 (pc := 146) 0 ok rfl dX8_extend_146 ?_
            refine j_sipush (pc := 149) ok dX8_extend_149 (by decide) ?_
            refine j_iald (pc := 152) 1 ok rfl dX8_extend_152 h (fun h => ?_)
            obtain ⟨r14, hr14, h⟩ := bd_inv h
            refine j_callS (pc := 153) ok (k_X8_itemsIn (a0 := a0_now) (a0N := 184) (a0F := va_up (va_up a0_nowF (182 : Int).toNat z10) (181 : Int).toNat z13) (x1 := (va_up (va_up a0_nowF (182 : Int).toNat z10) (181 : Int).toNat z13) (182 : Int).toNat) (x2 := (va_up (va_up a0_nowF (182 : Int).toNat z10) (181 : Int).toNat z13) (181 : Int).toNat) hr14) gS_X8_188 hd_X8_itemsIn [1] (by decide) rfl rfl rfl rfl ⟨Nat.zero_le _, Nat.zero_le _⟩ (Nat.le_of_ble_eq_true rfl) dX8_extend_153 rfl [(a0, .inr (8, [.int (iI r7.2), .ref a0_text, .int (iI a0_textSize), .ref a0_now, .ref a0_trial, .ref a0_diary, .int (iI a0_acts), .ref a0_kept, .ref a0_isKept, .ref a0_clip, .ref a0_line, .int (iI a0_lineSize), .ref a0_read, .int (iI a0_readSize), .ref a0_opens, .ref a0_chains, .ref a0_factors, .ref a0_plains, .ref a0_belows, .ref a0_owned, .int (iI a0_deep), .ref a0_wides, .ref a0_highs, .ref a0_lows, .ref a0_itemWides, .ref a0_pile])), (a0_now, .inl (cs.1, 184, .inl (aI (va_up (va_up a0_nowF (182 : Int).toNat z10) (181 : Int).toNat z13))))] rfl ?_
            obtain rfl := Option.some.inj h
            exact fin _ 156 dX8_extend_156
          · refine j_if_eq (pc := 117) 131 ok dX8_extend_117 (by decide) h (fun h => ?_) (fun h => ?_)
            · refine j_iload_n (pc := 131) 2 ok dX8_extend_131 rfl rfl ?_
              refine j_lv [0] rfl ?_
              exact hk11 (a0_nowF (181 : Int).toNat) h
            · refine j_aload_n (pc := 120) 0 ok dX8_extend_120 rfl rfl ?_
              refine gf_X8_13_8 (pc := 121) 0 ok rfl dX8_extend_121 ?_
              refine j_iload_n (pc := 124) 2 ok dX8_extend_124 rfl rfl ?_
              obtain ⟨r12, hr12, h⟩ := bd_inv h
              refine j_callS (pc := 125) ok (k_X8_itemEnd (a0 := a0_now) (a0N := 184) (a0F := va_up a0_nowF (182 : Int).toNat z10) (x1 := a0_nowF (181 : Int).toNat) hr12) gS_X8_107 hd_X8_itemEnd [1] (by decide) rfl rfl rfl rfl ⟨Nat.zero_le _, Nat.zero_le _⟩ (Nat.le_of_ble_eq_true rfl) dX8_extend_125 rfl [(a0, .inr (8, [.int (iI r7.2), .ref a0_text, .int (iI a0_textSize), .ref a0_now, .ref a0_trial, .ref a0_diary, .int (iI a0_acts), .ref a0_kept, .ref a0_isKept, .ref a0_clip, .ref a0_line, .int (iI a0_lineSize), .ref a0_read, .int (iI a0_readSize), .ref a0_opens, .ref a0_chains, .ref a0_factors, .ref a0_plains, .ref a0_belows, .ref a0_owned, .int (iI a0_deep), .ref a0_wides, .ref a0_highs, .ref a0_lows, .ref a0_itemWides, .ref a0_pile])), (a0_now, .inl (cs.1, 184, .inl (aI (va_up a0_nowF (182 : Int).toNat z10))))] rfl ?_
              refine j_goto (pc := 128) 132 ok dX8_extend_128 (by decide) ?_
              refine j_lv [0] rfl ?_
              exact hk11 r12 h
        · refine j_if_eq (pc := 93) 100 ok dX8_extend_93 (by decide) h (fun h => ?_) (fun h => ?_)
          · refine j_aload_n (pc := 100) 0 ok dX8_extend_100 rfl rfl ?_
            refine gf_X8_13_8 (pc := 101) 0 ok rfl dX8_extend_101 ?_
            refine j_iload_n (pc := 104) 3 ok dX8_extend_104 rfl rfl ?_
            obtain ⟨r9, hr9, h⟩ := bd_inv h
            refine j_callS (pc := 105) ok (k_X8_itemStart (a0 := a0_now) (a0N := 184) (a0F := a0_nowF) (x1 := z2) hr9) gS_X8_139 hd_X8_itemStart [1] (by decide) rfl rfl rfl rfl ⟨Nat.zero_le _, Nat.zero_le _⟩ (Nat.le_of_ble_eq_true rfl) dX8_extend_105 rfl [(a0, .inr (8, [.int (iI r7.2), .ref a0_text, .int (iI a0_textSize), .ref a0_now, .ref a0_trial, .ref a0_diary, .int (iI a0_acts), .ref a0_kept, .ref a0_isKept, .ref a0_clip, .ref a0_line, .int (iI a0_lineSize), .ref a0_read, .int (iI a0_readSize), .ref a0_opens, .ref a0_chains, .ref a0_factors, .ref a0_plains, .ref a0_belows, .ref a0_owned, .int (iI a0_deep), .ref a0_wides, .ref a0_highs, .ref a0_lows, .ref a0_itemWides, .ref a0_pile])), (a0_now, .inl (cs.1, 184, .inl (aI a0_nowF)))] rfl ?_
            refine j_lv [0, 1, 2] rfl ?_
            exact hk8 r9 h
          · refine j_iload_n (pc := 96) 3 ok dX8_extend_96 rfl rfl ?_
            refine j_goto (pc := 97) 108 ok dX8_extend_97 (by decide) ?_
            refine j_lv [0, 1, 2] rfl ?_
            exact hk8 z2 h
      · refine j_iconst (pc := 83) ok dX8_extend_83 ?_
        obtain rfl := Option.some.inj h
        exact fin _ 84 dX8_extend_84
    · refine j_if_eq (pc := 37) 60 ok dX8_extend_37 (by decide) h (fun h => ?_) (fun h => ?_)
      · refine j_iload_n (pc := 60) 0 ok dX8_extend_60 rfl rfl ?_
        refine j_aload_n (pc := 61) 1 ok dX8_extend_61 rfl rfl ?_
        refine gf_X8_13_8 (pc := 62) 0 ok rfl dX8_extend_62 ?_
        refine j_iload_n (pc := 65) 0 ok dX8_extend_65 rfl rfl ?_
        obtain ⟨r4, hr4, h⟩ := bd_inv h
        refine j_callS (pc := 66) ok (k_X8_rowStart (a0 := a0_now) (a0N := 184) (a0F := a0_nowF) (x1 := z2) hr4) gS_X8_136 hd_X8_rowStart [1] (by decide) rfl rfl rfl rfl ⟨Nat.zero_le _, Nat.zero_le _⟩ (Nat.le_of_ble_eq_true rfl) dX8_extend_66 rfl [(a0, .inr (8, [.int (iI a0_refusal), .ref a0_text, .int (iI a0_textSize), .ref a0_now, .ref a0_trial, .ref a0_diary, .int (iI a0_acts), .ref a0_kept, .ref a0_isKept, .ref a0_clip, .ref a0_line, .int (iI a0_lineSize), .ref a0_read, .int (iI a0_readSize), .ref a0_opens, .ref a0_chains, .ref a0_factors, .ref a0_plains, .ref a0_belows, .ref a0_owned, .int (iI a0_deep), .ref a0_wides, .ref a0_highs, .ref a0_lows, .ref a0_itemWides, .ref a0_pile])), (a0_now, .inl (cs.1, 184, .inl (aI a0_nowF)))] rfl ?_
        refine j_icmp_le (pc := 69) 76 ok dX8_extend_69 (by decide) h (fun h => ?_) (fun h => ?_)
        · refine j_iconst (pc := 76) ok dX8_extend_76 ?_
          refine j_lv [1, 2, 3, 0] rfl ?_
          exact hk3 1 h
        · refine j_iconst (pc := 72) ok dX8_extend_72 ?_
          refine j_goto (pc := 73) 77 ok dX8_extend_73 (by decide) ?_
          refine j_lv [1, 2, 3, 0] rfl ?_
          exact hk3 0 h
      · refine j_iload_n (pc := 40) 3 ok dX8_extend_40 rfl rfl ?_
        refine j_aload_n (pc := 41) 1 ok dX8_extend_41 rfl rfl ?_
        refine gf_X8_13_8 (pc := 42) 0 ok rfl dX8_extend_42 ?_
        refine j_iload_n (pc := 45) 3 ok dX8_extend_45 rfl rfl ?_
        obtain ⟨r5, hr5, h⟩ := bd_inv h
        refine j_callS (pc := 46) ok (k_X8_rowEnd (a0 := a0_now) (a0N := 184) (a0F := a0_nowF) (x1 := a0_nowF (181 : Int).toNat) hr5) gS_X8_142 hd_X8_rowEnd [1] (by decide) rfl rfl rfl rfl ⟨Nat.zero_le _, Nat.zero_le _⟩ (Nat.le_of_ble_eq_true rfl) dX8_extend_46 rfl [(a0, .inr (8, [.int (iI a0_refusal), .ref a0_text, .int (iI a0_textSize), .ref a0_now, .ref a0_trial, .ref a0_diary, .int (iI a0_acts), .ref a0_kept, .ref a0_isKept, .ref a0_clip, .ref a0_line, .int (iI a0_lineSize), .ref a0_read, .int (iI a0_readSize), .ref a0_opens, .ref a0_chains, .ref a0_factors, .ref a0_plains, .ref a0_belows, .ref a0_owned, .int (iI a0_deep), .ref a0_wides, .ref a0_highs, .ref a0_lows, .ref a0_itemWides, .ref a0_pile])), (a0_now, .inl (cs.1, 184, .inl (aI a0_nowF)))] rfl ?_
        refine j_icmp_ge (pc := 49) 56 ok dX8_extend_49 (by decide) h (fun h => ?_) (fun h => ?_)
        · refine j_iconst (pc := 56) ok dX8_extend_56 ?_
          refine j_goto (pc := 57) 77 ok dX8_extend_57 (by decide) ?_
          refine j_lv [1, 2, 3, 0] rfl ?_
          exact hk3 1 h
        · refine j_iconst (pc := 52) ok dX8_extend_52 ?_
          refine j_goto (pc := 53) 77 ok dX8_extend_53 (by decide) ?_
          refine j_lv [1, 2, 3, 0] rfl ?_
          exact hk3 0 h
  · refine j_icmp_ne (pc := 19) 26 ok dX8_extend_19 (by decide) h (fun h => ?_) (fun h => ?_)
    · refine j_aload_n (pc := 26) 1 ok dX8_extend_26 rfl rfl ?_
      refine gf_X8_13_8 (pc := 27) 0 ok rfl dX8_extend_27 ?_
      refine j_sipush (pc := 30) ok dX8_extend_30 (by decide) ?_
      refine j_iald (pc := 33) 1 ok rfl dX8_extend_33 h (fun h => ?_)
      refine j_lv [1, 2, 0] rfl ?_
      exact hk1 (a0_nowF (182 : Int).toNat) h
    · refine j_iload_n (pc := 22) 0 ok dX8_extend_22 rfl rfl ?_
      refine j_goto (pc := 23) 34 ok dX8_extend_23 (by decide) ?_
      refine j_lv [1, 2, 0] rfl ?_
      exact hk1 (a0_nowF (181 : Int).toNat) h
def f_X8_grow (a0_refusal : Int) (a0_nowF : (Nat → Int)) : Option (Int × Int × (Nat → Int)) := bd (f_X8_grows 184 a0_nowF) (fun r1 => jn (fun (z3 : Int) => bd (f_X8_refused a0_refusal z3) (fun r4 => jn (fun (z7 : Int) => some (z7, r4.2, r1.2)) (fun k5 => cEq r4.1 0 (gIn 182 184 (gIn 181 184 (bd (f_X8_itemsIn 184 r1.2 (r1.2 (182 : Int).toNat) (r1.2 (181 : Int).toNat)) (fun r6 => k5 r6)))) (k5 0)))) (fun k2 => cEq r1.1 0 (k2 1) (k2 0)))
set_option maxRecDepth 100000 in
set_option maxHeartbeats 4000000 in
theorem k_X8_grow {D : va_G} {cs : q_CS} {a0 a0_text a0_now a0_trial a0_diary a0_kept a0_isKept a0_clip a0_line a0_read a0_opens a0_chains a0_factors a0_plains a0_belows a0_owned a0_wides a0_highs a0_lows a0_itemWides a0_pile : Nat} {a0_refusal a0_textSize a0_acts a0_lineSize a0_readSize a0_deep : Int} {a0_nowF : (Nat → Int)} {r : (Int × Int × (Nat → Int))} (h : f_X8_grow a0_refusal a0_nowF = some r) : q_M D cs yX8_grow cX8_grow 1 (some .int) 4 88 [.ref a0] [(a0, .inr (8, [.int (iI a0_refusal), .ref a0_text, .int (iI a0_textSize), .ref a0_now, .ref a0_trial, .ref a0_diary, .int (iI a0_acts), .ref a0_kept, .ref a0_isKept, .ref a0_clip, .ref a0_line, .int (iI a0_lineSize), .ref a0_read, .int (iI a0_readSize), .ref a0_opens, .ref a0_chains, .ref a0_factors, .ref a0_plains, .ref a0_belows, .ref a0_owned, .int (iI a0_deep), .ref a0_wides, .ref a0_highs, .ref a0_lows, .ref a0_itemWides, .ref a0_pile])), (a0_now, .inl (cs.1, 184, .inl (aI a0_nowF)))] (some (.int (iI r.1))) [(a0, .inr (8, [.int (iI r.2.1), .ref a0_text, .int (iI a0_textSize), .ref a0_now, .ref a0_trial, .ref a0_diary, .int (iI a0_acts), .ref a0_kept, .ref a0_isKept, .ref a0_clip, .ref a0_line, .int (iI a0_lineSize), .ref a0_read, .int (iI a0_readSize), .ref a0_opens, .ref a0_chains, .ref a0_factors, .ref a0_plains, .ref a0_belows, .ref a0_owned, .int (iI a0_deep), .ref a0_wides, .ref a0_highs, .ref a0_lows, .ref a0_itemWides, .ref a0_pile])), (a0_now, .inl (cs.1, 184, .inl (aI r.2.2)))] := by
  refine q_start_i [(0, .ref a0)] RX8 rfl (by decide +kernel) rfl (Nat.le_of_ble_eq_true rfl) rfl (fun κ ok fin => ?_)
  unfold f_X8_grow at h
  refine j_aload_n (pc := 0) 0 ok dX8_grow_0 rfl rfl ?_
  refine j_aload_n (pc := 1) 0 ok dX8_grow_1 rfl rfl ?_
  refine gf_X8_13_8 (pc := 2) 0 ok rfl dX8_grow_2 ?_
  obtain ⟨r1, hr1, h⟩ := bd_inv h
  refine j_callS (pc := 5) ok (k_X8_grows (a0 := a0_now) (a0N := 184) (a0F := a0_nowF) hr1) gS_X8_222 hd_X8_grows [1] (by decide) rfl rfl rfl rfl ⟨Nat.zero_le _, Nat.zero_le _⟩ (Nat.le_of_ble_eq_true rfl) dX8_grow_5 rfl [(a0, .inr (8, [.int (iI a0_refusal), .ref a0_text, .int (iI a0_textSize), .ref a0_now, .ref a0_trial, .ref a0_diary, .int (iI a0_acts), .ref a0_kept, .ref a0_isKept, .ref a0_clip, .ref a0_line, .int (iI a0_lineSize), .ref a0_read, .int (iI a0_readSize), .ref a0_opens, .ref a0_chains, .ref a0_factors, .ref a0_plains, .ref a0_belows, .ref a0_owned, .int (iI a0_deep), .ref a0_wides, .ref a0_highs, .ref a0_lows, .ref a0_itemWides, .ref a0_pile])), (a0_now, .inl (cs.1, 184, .inl (aI r1.2)))] rfl ?_
  refine jn_use (P := fun z3 => q_J D κ 1 0 0 [(a0, .inr (8, [.int (iI a0_refusal), .ref a0_text, .int (iI a0_textSize), .ref a0_now, .ref a0_trial, .ref a0_diary, .int (iI a0_acts), .ref a0_kept, .ref a0_isKept, .ref a0_clip, .ref a0_line, .int (iI a0_lineSize), .ref a0_read, .int (iI a0_readSize), .ref a0_opens, .ref a0_chains, .ref a0_factors, .ref a0_plains, .ref a0_belows, .ref a0_owned, .int (iI a0_deep), .ref a0_wides, .ref a0_highs, .ref a0_lows, .ref a0_itemWides, .ref a0_pile])), (a0_now, .inl (cs.1, 184, .inl (aI r1.2)))] [(0, .ref a0)] 16 [.int (iI z3), .ref a0]) h (fun z3 h => ?_) (fun k2 hk2 h => ?_)
  · obtain ⟨r4, hr4, h⟩ := bd_inv h
    refine j_callV (pc := 16) ok (k_X8_refused (a0 := a0) (a0_text := a0_text) (a0_now := a0_now) (a0_trial := a0_trial) (a0_diary := a0_diary) (a0_kept := a0_kept) (a0_isKept := a0_isKept) (a0_clip := a0_clip) (a0_line := a0_line) (a0_read := a0_read) (a0_opens := a0_opens) (a0_chains := a0_chains) (a0_factors := a0_factors) (a0_plains := a0_plains) (a0_belows := a0_belows) (a0_owned := a0_owned) (a0_wides := a0_wides) (a0_highs := a0_highs) (a0_lows := a0_lows) (a0_itemWides := a0_itemWides) (a0_pile := a0_pile) (a0_refusal := a0_refusal) (a0_textSize := a0_textSize) (a0_acts := a0_acts) (a0_lineSize := a0_lineSize) (a0_readSize := a0_readSize) (a0_deep := a0_deep) (x1 := z3) hr4) gV_X8_150 ⟨rfl, hd_X8_refused⟩ [0] (by decide) rfl rfl 0 rfl rfl rfl rfl ⟨Nat.zero_le _, Nat.zero_le _⟩ (Nat.le_of_ble_eq_true rfl) dX8_grow_16 rfl [(a0, .inr (8, [.int (iI r4.2), .ref a0_text, .int (iI a0_textSize), .ref a0_now, .ref a0_trial, .ref a0_diary, .int (iI a0_acts), .ref a0_kept, .ref a0_isKept, .ref a0_clip, .ref a0_line, .int (iI a0_lineSize), .ref a0_read, .int (iI a0_readSize), .ref a0_opens, .ref a0_chains, .ref a0_factors, .ref a0_plains, .ref a0_belows, .ref a0_owned, .int (iI a0_deep), .ref a0_wides, .ref a0_highs, .ref a0_lows, .ref a0_itemWides, .ref a0_pile])), (a0_now, .inl (cs.1, 184, .inl (aI r1.2)))] rfl ?_
    refine jn_use (P := fun z7 => q_J D κ 1 0 0 [(a0, .inr (8, [.int (iI r4.2), .ref a0_text, .int (iI a0_textSize), .ref a0_now, .ref a0_trial, .ref a0_diary, .int (iI a0_acts), .ref a0_kept, .ref a0_isKept, .ref a0_clip, .ref a0_line, .int (iI a0_lineSize), .ref a0_read, .int (iI a0_readSize), .ref a0_opens, .ref a0_chains, .ref a0_factors, .ref a0_plains, .ref a0_belows, .ref a0_owned, .int (iI a0_deep), .ref a0_wides, .ref a0_highs, .ref a0_lows, .ref a0_itemWides, .ref a0_pile])), (a0_now, .inl (cs.1, 184, .inl (aI r1.2)))] [] 49 [.int (iI z7)]) h (fun z7 h => ?_) (fun k5 hk5 h => ?_)
    · obtain rfl := Option.some.inj h
      exact fin _ 49 dX8_grow_49
    · refine j_if_eq (pc := 19) 26 ok dX8_grow_19 (by decide) h (fun h => ?_) (fun h => ?_)
      · refine j_aload_n (pc := 26) 0 ok dX8_grow_26 rfl rfl ?_
        refine gf_X8_13_8 (pc := 27) 0 ok rfl dX8_grow_27 ?_
        refine j_aload_n (pc := 30) 0 ok dX8_grow_30 rfl rfl ?_
        refine gf_X8_13_8 (pc := 31) 0 ok rfl dX8_grow_31 ?_
        refine j_sipush (pc := 34) ok dX8_grow_34 (by decide) ?_
        refine j_iald (pc := 37) 1 ok rfl dX8_grow_37 h (fun h => ?_)
        refine j_aload_n (pc := 38) 0 ok dX8_grow_38 rfl rfl ?_
        refine gf_X8_13_8 (pc := 39) 0 ok rfl dX8_grow_39 ?_
        refine j_sipush (pc := 42) ok dX8_grow_42 (by decide) ?_
        refine j_iald (pc := 45) 1 ok rfl dX8_grow_45 h (fun h => ?_)
        obtain ⟨r6, hr6, h⟩ := bd_inv h
        refine j_callS (pc := 46) ok (k_X8_itemsIn (a0 := a0_now) (a0N := 184) (a0F := r1.2) (x1 := r1.2 (182 : Int).toNat) (x2 := r1.2 (181 : Int).toNat) hr6) gS_X8_188 hd_X8_itemsIn [1] (by decide) rfl rfl rfl rfl ⟨Nat.zero_le _, Nat.zero_le _⟩ (Nat.le_of_ble_eq_true rfl) dX8_grow_46 rfl [(a0, .inr (8, [.int (iI r4.2), .ref a0_text, .int (iI a0_textSize), .ref a0_now, .ref a0_trial, .ref a0_diary, .int (iI a0_acts), .ref a0_kept, .ref a0_isKept, .ref a0_clip, .ref a0_line, .int (iI a0_lineSize), .ref a0_read, .int (iI a0_readSize), .ref a0_opens, .ref a0_chains, .ref a0_factors, .ref a0_plains, .ref a0_belows, .ref a0_owned, .int (iI a0_deep), .ref a0_wides, .ref a0_highs, .ref a0_lows, .ref a0_itemWides, .ref a0_pile])), (a0_now, .inl (cs.1, 184, .inl (aI r1.2)))] rfl ?_
        refine j_lv [] rfl ?_
        exact hk5 r6 h
      · refine j_iconst (pc := 22) ok dX8_grow_22 ?_
        refine j_goto (pc := 23) 49 ok dX8_grow_23 (by decide) ?_
        refine j_lv [] rfl ?_
        exact hk5 0 h
  · refine j_if_eq (pc := 8) 15 ok dX8_grow_8 (by decide) h (fun h => ?_) (fun h => ?_)
    · refine j_iconst (pc := 15) ok dX8_grow_15 ?_
      exact hk2 1 h
    · refine j_iconst (pc := 11) ok dX8_grow_11 ?_
      refine j_goto (pc := 12) 16 ok dX8_grow_12 (by decide) ?_
      exact hk2 0 h
def f_X8_copy_54 (a0_nowF : (Nat → Int)) (e54_93 : (Nat → Int) × Int → Option (Int × Int × (Nat → Int))) : Nat → (Nat → Int) → Int → Option (Int × Int × (Nat → Int))
  | 0, _, _ => none
  | n + 1, a0_clipF, y1 => gIn 180 184 (cLt y1 (a0_clipF (180 : Int).toNat) (gIn 182 184 (gIn ((a0_nowF (182 : Int).toNat) + y1) 184 (gIn y1 184 (f_X8_copy_54 a0_nowF e54_93 n (va_up a0_clipF y1.toNat (a0_nowF ((a0_nowF (182 : Int).toNat) + y1).toNat)) (y1 + 1))))) (e54_93 (a0_clipF, y1)))
set_option maxRecDepth 100000 in
theorem l_X8_copy_54 {D : va_G} {cs : q_CS} {κ : q_X} {a0 a0_text a0_now a0_trial a0_diary a0_kept a0_isKept a0_clip a0_line a0_read a0_opens a0_chains a0_factors a0_plains a0_belows a0_owned a0_wides a0_highs a0_lows a0_itemWides a0_pile : Nat} {a0_refusal a0_textSize a0_acts a0_lineSize a0_readSize a0_deep : Int} {a0_nowF : (Nat → Int)} {r : (Int × Int × (Nat → Int))} {e54_93 : (Nat → Int) × Int → Option (Int × Int × (Nat → Int))} (ok : q_ok D cs κ cX8_copy 2 RX8 (q_rm 2 44)) (fin : ∀ (lv : List (Nat × Value)) (pc : Nat), decode cX8_copy pc = .ok (.ireturn, 1) → q_J D κ 2 0 0 [(a0, .inr (8, [.int (iI r.2.1), .ref a0_text, .int (iI a0_textSize), .ref a0_now, .ref a0_trial, .ref a0_diary, .int (iI a0_acts), .ref a0_kept, .ref a0_isKept, .ref a0_clip, .ref a0_line, .int (iI a0_lineSize), .ref a0_read, .int (iI a0_readSize), .ref a0_opens, .ref a0_chains, .ref a0_factors, .ref a0_plains, .ref a0_belows, .ref a0_owned, .int (iI a0_deep), .ref a0_wides, .ref a0_highs, .ref a0_lows, .ref a0_itemWides, .ref a0_pile])), (a0_clip, .inl (cs.1, 184, .inl (aI r.2.2))), (a0_now, .inl (cs.1, 184, .inl (aI a0_nowF)))] lv pc [.int (iI r.1)]) (he54_93 : ∀ x : (Nat → Int) × Int, e54_93 x = some r → q_J D κ 2 0 0 [(a0, .inr (8, [.int (iI a0_refusal), .ref a0_text, .int (iI a0_textSize), .ref a0_now, .ref a0_trial, .ref a0_diary, .int (iI a0_acts), .ref a0_kept, .ref a0_isKept, .ref a0_clip, .ref a0_line, .int (iI a0_lineSize), .ref a0_read, .int (iI a0_readSize), .ref a0_opens, .ref a0_chains, .ref a0_factors, .ref a0_plains, .ref a0_belows, .ref a0_owned, .int (iI a0_deep), .ref a0_wides, .ref a0_highs, .ref a0_lows, .ref a0_itemWides, .ref a0_pile])), (a0_clip, .inl (cs.1, 184, .inl (aI x.1))), (a0_now, .inl (cs.1, 184, .inl (aI a0_nowF)))] [(0, .ref a0)] 93 []) : ∀ (n : Nat) (a0_clipF : (Nat → Int)) (y1 : Int), f_X8_copy_54 a0_nowF e54_93 n a0_clipF y1 = some r → q_J D κ 2 0 0 [(a0, .inr (8, [.int (iI a0_refusal), .ref a0_text, .int (iI a0_textSize), .ref a0_now, .ref a0_trial, .ref a0_diary, .int (iI a0_acts), .ref a0_kept, .ref a0_isKept, .ref a0_clip, .ref a0_line, .int (iI a0_lineSize), .ref a0_read, .int (iI a0_readSize), .ref a0_opens, .ref a0_chains, .ref a0_factors, .ref a0_plains, .ref a0_belows, .ref a0_owned, .int (iI a0_deep), .ref a0_wides, .ref a0_highs, .ref a0_lows, .ref a0_itemWides, .ref a0_pile])), (a0_clip, .inl (cs.1, 184, .inl (aI a0_clipF))), (a0_now, .inl (cs.1, 184, .inl (aI a0_nowF)))] [(0, .ref a0), (1, .int (iI y1))] 54 [] := by
  intro n
  induction n with
  | zero =>
    intro a0_clipF y1 h
    exact absurd h (by unfold f_X8_copy_54; exact fun z => by cases z)
  | succ n ih =>
    intro a0_clipF y1 h
    unfold f_X8_copy_54 at h
    refine j_iload_n (pc := 54) 1 ok dX8_copy_54 rfl rfl ?_
    refine j_aload_n (pc := 55) 0 ok dX8_copy_55 rfl rfl ?_
    refine gf_X8_29_8 (pc := 56) 0 ok rfl dX8_copy_56 ?_
    refine j_sipush (pc := 59) ok dX8_copy_59 (by decide) ?_
    refine j_iald (pc := 62) 1 ok rfl dX8_copy_62 h (fun h => ?_)
    refine j_icmp_ge (pc := 63) 93 ok dX8_copy_63 (by decide) h (fun h => ?_) (fun h => ?_)
    · refine j_lv [0] rfl ?_
      exact he54_93 (a0_clipF, y1) h
    · refine j_aload_n (pc := 66) 0 ok dX8_copy_66 rfl rfl ?_
      refine gf_X8_29_8 (pc := 67) 0 ok rfl dX8_copy_67 ?_
      refine j_iload_n (pc := 70) 1 ok dX8_copy_70 rfl rfl ?_
      refine j_aload_n (pc := 71) 0 ok dX8_copy_71 rfl rfl ?_
      refine gf_X8_13_8 (pc := 72) 0 ok rfl dX8_copy_72 ?_
      refine j_aload_n (pc := 75) 0 ok dX8_copy_75 rfl rfl ?_
      refine gf_X8_13_8 (pc := 76) 0 ok rfl dX8_copy_76 ?_
      refine j_sipush (pc := 79) ok dX8_copy_79 (by decide) ?_
      refine j_iald (pc := 82) 2 ok rfl dX8_copy_82 h (fun h => ?_)
      refine j_iload_n (pc := 83) 1 ok dX8_copy_83 rfl rfl ?_
      refine j_iadd (pc := 84) ok dX8_copy_84 ?_
      refine j_iald (pc := 85) 2 ok rfl dX8_copy_85 h (fun h => ?_)
      refine j_iastw (pc := 86) 1 ok rfl dX8_copy_86 h [(a0, .inr (8, [.int (iI a0_refusal), .ref a0_text, .int (iI a0_textSize), .ref a0_now, .ref a0_trial, .ref a0_diary, .int (iI a0_acts), .ref a0_kept, .ref a0_isKept, .ref a0_clip, .ref a0_line, .int (iI a0_lineSize), .ref a0_read, .int (iI a0_readSize), .ref a0_opens, .ref a0_chains, .ref a0_factors, .ref a0_plains, .ref a0_belows, .ref a0_owned, .int (iI a0_deep), .ref a0_wides, .ref a0_highs, .ref a0_lows, .ref a0_itemWides, .ref a0_pile])), (a0_clip, .inl (cs.1, 184, .inl (aI (va_up a0_clipF y1.toNat (a0_nowF ((a0_nowF (182 : Int).toNat) + y1).toNat))))), (a0_now, .inl (cs.1, 184, .inl (aI a0_nowF)))] rfl (fun h => ?_)
      refine j_iinc (pc := 87) (lv' := [(1, .int (iI (y1 + 1))), (0, .ref a0)]) 1 ok dX8_copy_87 rfl (by decide) rfl ?_
      refine j_goto (pc := 90) 54 ok dX8_copy_90 (by decide) ?_
      refine j_lv [1, 0] rfl ?_
      exact ih _ _ h
def f_X8_copy (a0_refusal : Int) (a0_clipF : (Nat → Int)) (a0_nowF : (Nat → Int)) : Option (Int × Int × (Nat → Int)) := gIn 182 184 (jn (fun (z2 : Int) => bd (f_X8_refused a0_refusal z2) (fun r3 => cEq r3.1 0 (gIn 181 184 (gIn 182 184 (gIn 180 184 (f_X8_copy_54 a0_nowF (fun (z4 : (Nat → Int) × Int) => gIn 180 184 (bd (f_X8_allIn 184 z4.1 0 (z4.1 (180 : Int).toNat)) (fun r5 => some (r5, r3.2, z4.1)))) fuel (va_up a0_clipF (180 : Int).toNat ((a0_nowF (181 : Int).toNat) - (a0_nowF (182 : Int).toNat))) 0)))) (some (0, r3.2, a0_clipF)))) (fun k1 => cEq (a0_nowF (182 : Int).toNat) ((-9)) (k1 1) (k1 0)))
set_option maxRecDepth 100000 in
set_option maxHeartbeats 4000000 in
theorem k_X8_copy {D : va_G} {cs : q_CS} {a0 a0_text a0_now a0_trial a0_diary a0_kept a0_isKept a0_clip a0_line a0_read a0_opens a0_chains a0_factors a0_plains a0_belows a0_owned a0_wides a0_highs a0_lows a0_itemWides a0_pile : Nat} {a0_refusal a0_textSize a0_acts a0_lineSize a0_readSize a0_deep : Int} {a0_clipF a0_nowF : (Nat → Int)} {r : (Int × Int × (Nat → Int))} (h : f_X8_copy a0_refusal a0_clipF a0_nowF = some r) : q_M D cs yX8_copy cX8_copy 2 (some .int) 2 44 [.ref a0] [(a0, .inr (8, [.int (iI a0_refusal), .ref a0_text, .int (iI a0_textSize), .ref a0_now, .ref a0_trial, .ref a0_diary, .int (iI a0_acts), .ref a0_kept, .ref a0_isKept, .ref a0_clip, .ref a0_line, .int (iI a0_lineSize), .ref a0_read, .int (iI a0_readSize), .ref a0_opens, .ref a0_chains, .ref a0_factors, .ref a0_plains, .ref a0_belows, .ref a0_owned, .int (iI a0_deep), .ref a0_wides, .ref a0_highs, .ref a0_lows, .ref a0_itemWides, .ref a0_pile])), (a0_clip, .inl (cs.1, 184, .inl (aI a0_clipF))), (a0_now, .inl (cs.1, 184, .inl (aI a0_nowF)))] (some (.int (iI r.1))) [(a0, .inr (8, [.int (iI r.2.1), .ref a0_text, .int (iI a0_textSize), .ref a0_now, .ref a0_trial, .ref a0_diary, .int (iI a0_acts), .ref a0_kept, .ref a0_isKept, .ref a0_clip, .ref a0_line, .int (iI a0_lineSize), .ref a0_read, .int (iI a0_readSize), .ref a0_opens, .ref a0_chains, .ref a0_factors, .ref a0_plains, .ref a0_belows, .ref a0_owned, .int (iI a0_deep), .ref a0_wides, .ref a0_highs, .ref a0_lows, .ref a0_itemWides, .ref a0_pile])), (a0_clip, .inl (cs.1, 184, .inl (aI r.2.2))), (a0_now, .inl (cs.1, 184, .inl (aI a0_nowF)))] := by
  refine q_start_i [(0, .ref a0)] RX8 rfl (by decide +kernel) rfl (Nat.le_of_ble_eq_true rfl) rfl (fun κ ok fin => ?_)
  unfold f_X8_copy at h
  refine j_aload_n (pc := 0) 0 ok dX8_copy_0 rfl rfl ?_
  refine j_aload_n (pc := 1) 0 ok dX8_copy_1 rfl rfl ?_
  refine gf_X8_13_8 (pc := 2) 0 ok rfl dX8_copy_2 ?_
  refine j_sipush (pc := 5) ok dX8_copy_5 (by decide) ?_
  refine j_iald (pc := 8) 2 ok rfl dX8_copy_8 h (fun h => ?_)
  refine j_bipush (pc := 9) ok dX8_copy_9 (by decide) ?_
  refine jn_use (P := fun z2 => q_J D κ 2 0 0 [(a0, .inr (8, [.int (iI a0_refusal), .ref a0_text, .int (iI a0_textSize), .ref a0_now, .ref a0_trial, .ref a0_diary, .int (iI a0_acts), .ref a0_kept, .ref a0_isKept, .ref a0_clip, .ref a0_line, .int (iI a0_lineSize), .ref a0_read, .int (iI a0_readSize), .ref a0_opens, .ref a0_chains, .ref a0_factors, .ref a0_plains, .ref a0_belows, .ref a0_owned, .int (iI a0_deep), .ref a0_wides, .ref a0_highs, .ref a0_lows, .ref a0_itemWides, .ref a0_pile])), (a0_clip, .inl (cs.1, 184, .inl (aI a0_clipF))), (a0_now, .inl (cs.1, 184, .inl (aI a0_nowF)))] [(0, .ref a0)] 19 [.int (iI z2), .ref a0]) h (fun z2 h => ?_) (fun k1 hk1 h => ?_)
  · obtain ⟨r3, hr3, h⟩ := bd_inv h
    refine j_callV (pc := 19) ok (k_X8_refused (a0 := a0) (a0_text := a0_text) (a0_now := a0_now) (a0_trial := a0_trial) (a0_diary := a0_diary) (a0_kept := a0_kept) (a0_isKept := a0_isKept) (a0_clip := a0_clip) (a0_line := a0_line) (a0_read := a0_read) (a0_opens := a0_opens) (a0_chains := a0_chains) (a0_factors := a0_factors) (a0_plains := a0_plains) (a0_belows := a0_belows) (a0_owned := a0_owned) (a0_wides := a0_wides) (a0_highs := a0_highs) (a0_lows := a0_lows) (a0_itemWides := a0_itemWides) (a0_pile := a0_pile) (a0_refusal := a0_refusal) (a0_textSize := a0_textSize) (a0_acts := a0_acts) (a0_lineSize := a0_lineSize) (a0_readSize := a0_readSize) (a0_deep := a0_deep) (x1 := z2) hr3) gV_X8_150 ⟨rfl, hd_X8_refused⟩ [0] (by decide) rfl rfl 0 rfl rfl rfl rfl ⟨Nat.zero_le _, Nat.zero_le _⟩ (Nat.le_of_ble_eq_true rfl) dX8_copy_19 rfl [(a0, .inr (8, [.int (iI r3.2), .ref a0_text, .int (iI a0_textSize), .ref a0_now, .ref a0_trial, .ref a0_diary, .int (iI a0_acts), .ref a0_kept, .ref a0_isKept, .ref a0_clip, .ref a0_line, .int (iI a0_lineSize), .ref a0_read, .int (iI a0_readSize), .ref a0_opens, .ref a0_chains, .ref a0_factors, .ref a0_plains, .ref a0_belows, .ref a0_owned, .int (iI a0_deep), .ref a0_wides, .ref a0_highs, .ref a0_lows, .ref a0_itemWides, .ref a0_pile])), (a0_clip, .inl (cs.1, 184, .inl (aI a0_clipF))), (a0_now, .inl (cs.1, 184, .inl (aI a0_nowF)))] rfl ?_
    refine j_if_eq (pc := 22) 27 ok dX8_copy_22 (by decide) h (fun h => ?_) (fun h => ?_)
    · refine j_aload_n (pc := 27) 0 ok dX8_copy_27 rfl rfl ?_
      refine gf_X8_29_8 (pc := 28) 0 ok rfl dX8_copy_28 ?_
      refine j_sipush (pc := 31) ok dX8_copy_31 (by decide) ?_
      refine j_aload_n (pc := 34) 0 ok dX8_copy_34 rfl rfl ?_
      refine gf_X8_13_8 (pc := 35) 0 ok rfl dX8_copy_35 ?_
      refine j_sipush (pc := 38) ok dX8_copy_38 (by decide) ?_
      refine j_iald (pc := 41) 2 ok rfl dX8_copy_41 h (fun h => ?_)
      refine j_aload_n (pc := 42) 0 ok dX8_copy_42 rfl rfl ?_
      refine gf_X8_13_8 (pc := 43) 0 ok rfl dX8_copy_43 ?_
      refine j_sipush (pc := 46) ok dX8_copy_46 (by decide) ?_
      refine j_iald (pc := 49) 2 ok rfl dX8_copy_49 h (fun h => ?_)
      refine j_isub (pc := 50) ok dX8_copy_50 ?_
      refine j_iastw (pc := 51) 1 ok rfl dX8_copy_51 h [(a0, .inr (8, [.int (iI r3.2), .ref a0_text, .int (iI a0_textSize), .ref a0_now, .ref a0_trial, .ref a0_diary, .int (iI a0_acts), .ref a0_kept, .ref a0_isKept, .ref a0_clip, .ref a0_line, .int (iI a0_lineSize), .ref a0_read, .int (iI a0_readSize), .ref a0_opens, .ref a0_chains, .ref a0_factors, .ref a0_plains, .ref a0_belows, .ref a0_owned, .int (iI a0_deep), .ref a0_wides, .ref a0_highs, .ref a0_lows, .ref a0_itemWides, .ref a0_pile])), (a0_clip, .inl (cs.1, 184, .inl (aI (va_up a0_clipF (180 : Int).toNat ((a0_nowF (181 : Int).toNat) - (a0_nowF (182 : Int).toNat)))))), (a0_now, .inl (cs.1, 184, .inl (aI a0_nowF)))] rfl (fun h => ?_)
      refine j_iconst (pc := 52) ok dX8_copy_52 ?_
      refine j_istore_n (pc := 53) (lv' := [(1, .int (iI 0)), (0, .ref a0)]) ok dX8_copy_53 rfl (by decide) rfl ?_
      refine j_lv [1, 0] rfl ?_
      refine l_X8_copy_54 ok fin (fun z4 h => ?_) fuel _ _ h
      · refine j_aload_n (pc := 93) 0 ok dX8_copy_93 rfl rfl ?_
        refine gf_X8_29_8 (pc := 94) 0 ok rfl dX8_copy_94 ?_
        refine j_iconst (pc := 97) ok dX8_copy_97 ?_
        refine j_aload_n (pc := 98) 0 ok dX8_copy_98 rfl rfl ?_
        refine gf_X8_29_8 (pc := 99) 0 ok rfl dX8_copy_99 ?_
        refine j_sipush (pc := 102) ok dX8_copy_102 (by decide) ?_
        refine j_iald (pc := 105) 1 ok rfl dX8_copy_105 h (fun h => ?_)
        obtain ⟨r5, hr5, h⟩ := bd_inv h
        refine j_callS (pc := 106) ok (k_X8_allIn (a0 := a0_clip) (a0N := 184) (a0F := z4.1) (x1 := 0) (x2 := z4.1 (180 : Int).toNat) hr5) gS_X8_114 hd_X8_allIn [1] (by decide) rfl rfl rfl rfl ⟨Nat.zero_le _, Nat.zero_le _⟩ (Nat.le_of_ble_eq_true rfl) dX8_copy_106 rfl [(a0, .inr (8, [.int (iI r3.2), .ref a0_text, .int (iI a0_textSize), .ref a0_now, .ref a0_trial, .ref a0_diary, .int (iI a0_acts), .ref a0_kept, .ref a0_isKept, .ref a0_clip, .ref a0_line, .int (iI a0_lineSize), .ref a0_read, .int (iI a0_readSize), .ref a0_opens, .ref a0_chains, .ref a0_factors, .ref a0_plains, .ref a0_belows, .ref a0_owned, .int (iI a0_deep), .ref a0_wides, .ref a0_highs, .ref a0_lows, .ref a0_itemWides, .ref a0_pile])), (a0_clip, .inl (cs.1, 184, .inl (aI z4.1))), (a0_now, .inl (cs.1, 184, .inl (aI a0_nowF)))] rfl ?_
        obtain rfl := Option.some.inj h
        exact fin _ 109 dX8_copy_109
    · refine j_iconst (pc := 25) ok dX8_copy_25 ?_
      obtain rfl := Option.some.inj h
      exact fin _ 26 dX8_copy_26
  · refine j_icmp_ne (pc := 11) 18 ok dX8_copy_11 (by decide) h (fun h => ?_) (fun h => ?_)
    · refine j_iconst (pc := 18) ok dX8_copy_18 ?_
      exact hk1 0 h
    · refine j_iconst (pc := 14) ok dX8_copy_14 ?_
      refine j_goto (pc := 15) 19 ok dX8_copy_15 (by decide) ?_
      exact hk1 1 h
def f_X8_note_11 (a0_nowF : (Nat → Int)) (e11_40 : Int × (Nat → Int) × Int → Option (Int × (Nat → Int))) : Nat → Int → (Nat → Int) → Int → Option (Int × (Nat → Int))
  | 0, _, _, _ => none
  | n + 1, a0_acts, a0_diaryF, y1 => cLt y1 2392 (gIn (y1 + 184) 2576 (gIn y1 2576 (f_X8_note_11 a0_nowF e11_40 n a0_acts (va_up a0_diaryF y1.toNat (a0_diaryF (y1 + 184).toNat)) (y1 + 1)))) (e11_40 (a0_acts, a0_diaryF, y1))
set_option maxRecDepth 100000 in
theorem l_X8_note_11 {D : va_G} {cs : q_CS} {κ : q_X} {a0 a0_text a0_now a0_trial a0_diary a0_kept a0_isKept a0_clip a0_line a0_read a0_opens a0_chains a0_factors a0_plains a0_belows a0_owned a0_wides a0_highs a0_lows a0_itemWides a0_pile : Nat} {a0_refusal a0_textSize a0_lineSize a0_readSize a0_deep : Int} {a0_nowF : (Nat → Int)} {r : (Int × (Nat → Int))} {e11_40 : Int × (Nat → Int) × Int → Option (Int × (Nat → Int))} (ok : q_ok D cs κ cX8_note 2 RX8 (q_rm 1 24)) (fin : ∀ (lv : List (Nat × Value)) (pc : Nat), decode cX8_note pc = .ok (.return_, 1) → q_J D κ 2 0 0 [(a0, .inr (8, [.int (iI a0_refusal), .ref a0_text, .int (iI a0_textSize), .ref a0_now, .ref a0_trial, .ref a0_diary, .int (iI r.1), .ref a0_kept, .ref a0_isKept, .ref a0_clip, .ref a0_line, .int (iI a0_lineSize), .ref a0_read, .int (iI a0_readSize), .ref a0_opens, .ref a0_chains, .ref a0_factors, .ref a0_plains, .ref a0_belows, .ref a0_owned, .int (iI a0_deep), .ref a0_wides, .ref a0_highs, .ref a0_lows, .ref a0_itemWides, .ref a0_pile])), (a0_diary, .inl (cs.1, 2576, .inl (aI r.2))), (a0_now, .inl (cs.1, 184, .inl (aI a0_nowF)))] lv pc []) (he11_40 : ∀ x : Int × (Nat → Int) × Int, e11_40 x = some r → q_J D κ 2 0 0 [(a0, .inr (8, [.int (iI a0_refusal), .ref a0_text, .int (iI a0_textSize), .ref a0_now, .ref a0_trial, .ref a0_diary, .int (iI x.1), .ref a0_kept, .ref a0_isKept, .ref a0_clip, .ref a0_line, .int (iI a0_lineSize), .ref a0_read, .int (iI a0_readSize), .ref a0_opens, .ref a0_chains, .ref a0_factors, .ref a0_plains, .ref a0_belows, .ref a0_owned, .int (iI a0_deep), .ref a0_wides, .ref a0_highs, .ref a0_lows, .ref a0_itemWides, .ref a0_pile])), (a0_diary, .inl (cs.1, 2576, .inl (aI x.2.1))), (a0_now, .inl (cs.1, 184, .inl (aI a0_nowF)))] [(0, .ref a0)] 40 []) : ∀ (n : Nat) (a0_acts : Int) (a0_diaryF : (Nat → Int)) (y1 : Int), f_X8_note_11 a0_nowF e11_40 n a0_acts a0_diaryF y1 = some r → q_J D κ 2 0 0 [(a0, .inr (8, [.int (iI a0_refusal), .ref a0_text, .int (iI a0_textSize), .ref a0_now, .ref a0_trial, .ref a0_diary, .int (iI a0_acts), .ref a0_kept, .ref a0_isKept, .ref a0_clip, .ref a0_line, .int (iI a0_lineSize), .ref a0_read, .int (iI a0_readSize), .ref a0_opens, .ref a0_chains, .ref a0_factors, .ref a0_plains, .ref a0_belows, .ref a0_owned, .int (iI a0_deep), .ref a0_wides, .ref a0_highs, .ref a0_lows, .ref a0_itemWides, .ref a0_pile])), (a0_diary, .inl (cs.1, 2576, .inl (aI a0_diaryF))), (a0_now, .inl (cs.1, 184, .inl (aI a0_nowF)))] [(0, .ref a0), (1, .int (iI y1))] 11 [] := by
  intro n
  induction n with
  | zero =>
    intro a0_acts a0_diaryF y1 h
    exact absurd h (by unfold f_X8_note_11; exact fun z => by cases z)
  | succ n ih =>
    intro a0_acts a0_diaryF y1 h
    unfold f_X8_note_11 at h
    refine j_iload_n (pc := 11) 1 ok dX8_note_11 rfl rfl ?_
    refine j_sipush (pc := 12) ok dX8_note_12 (by decide) ?_
    refine j_icmp_ge (pc := 15) 40 ok dX8_note_15 (by decide) h (fun h => ?_) (fun h => ?_)
    · refine j_lv [0] rfl ?_
      exact he11_40 (a0_acts, a0_diaryF, y1) h
    · refine j_aload_n (pc := 18) 0 ok dX8_note_18 rfl rfl ?_
      refine gf_X8_19_8 (pc := 19) 0 ok rfl dX8_note_19 ?_
      refine j_iload_n (pc := 22) 1 ok dX8_note_22 rfl rfl ?_
      refine j_aload_n (pc := 23) 0 ok dX8_note_23 rfl rfl ?_
      refine gf_X8_19_8 (pc := 24) 0 ok rfl dX8_note_24 ?_
      refine j_iload_n (pc := 27) 1 ok dX8_note_27 rfl rfl ?_
      refine j_sipush (pc := 28) ok dX8_note_28 (by decide) ?_
      refine j_iadd (pc := 31) ok dX8_note_31 ?_
      refine j_iald (pc := 32) 1 ok rfl dX8_note_32 h (fun h => ?_)
      refine j_iastw (pc := 33) 1 ok rfl dX8_note_33 h [(a0, .inr (8, [.int (iI a0_refusal), .ref a0_text, .int (iI a0_textSize), .ref a0_now, .ref a0_trial, .ref a0_diary, .int (iI a0_acts), .ref a0_kept, .ref a0_isKept, .ref a0_clip, .ref a0_line, .int (iI a0_lineSize), .ref a0_read, .int (iI a0_readSize), .ref a0_opens, .ref a0_chains, .ref a0_factors, .ref a0_plains, .ref a0_belows, .ref a0_owned, .int (iI a0_deep), .ref a0_wides, .ref a0_highs, .ref a0_lows, .ref a0_itemWides, .ref a0_pile])), (a0_diary, .inl (cs.1, 2576, .inl (aI (va_up a0_diaryF y1.toNat (a0_diaryF (y1 + 184).toNat))))), (a0_now, .inl (cs.1, 184, .inl (aI a0_nowF)))] rfl (fun h => ?_)
      refine j_iinc (pc := 34) (lv' := [(1, .int (iI (y1 + 1))), (0, .ref a0)]) 1 ok dX8_note_34 rfl (by decide) rfl ?_
      refine j_goto (pc := 37) 11 ok dX8_note_37 (by decide) ?_
      refine j_lv [1, 0] rfl ?_
      exact ih _ _ _ h
def f_X8_note (a0_acts : Int) (a0_diaryF : (Nat → Int)) (a0_nowF : (Nat → Int)) : Option (Int × (Nat → Int)) := jn (fun (z3 : Int × (Nat → Int)) => bd (f_X8_copyPage 184 2576 a0_nowF z3.2 0 (184 * z3.1)) (fun r4 => some (z3.1 + 1, r4))) (fun k1 => cEq a0_acts 14 (f_X8_note_11 a0_nowF (fun (z2 : Int × (Nat → Int) × Int) => k1 (z2.1 - 1, z2.2.1)) fuel a0_acts a0_diaryF 0) (k1 (a0_acts, a0_diaryF)))
set_option maxRecDepth 100000 in
set_option maxHeartbeats 4000000 in
theorem k_X8_note {D : va_G} {cs : q_CS} {a0 a0_text a0_now a0_trial a0_diary a0_kept a0_isKept a0_clip a0_line a0_read a0_opens a0_chains a0_factors a0_plains a0_belows a0_owned a0_wides a0_highs a0_lows a0_itemWides a0_pile : Nat} {a0_refusal a0_textSize a0_acts a0_lineSize a0_readSize a0_deep : Int} {a0_diaryF a0_nowF : (Nat → Int)} {r : (Int × (Nat → Int))} (h : f_X8_note a0_acts a0_diaryF a0_nowF = some r) : q_M D cs yX8_note cX8_note 2 none 1 24 [.ref a0] [(a0, .inr (8, [.int (iI a0_refusal), .ref a0_text, .int (iI a0_textSize), .ref a0_now, .ref a0_trial, .ref a0_diary, .int (iI a0_acts), .ref a0_kept, .ref a0_isKept, .ref a0_clip, .ref a0_line, .int (iI a0_lineSize), .ref a0_read, .int (iI a0_readSize), .ref a0_opens, .ref a0_chains, .ref a0_factors, .ref a0_plains, .ref a0_belows, .ref a0_owned, .int (iI a0_deep), .ref a0_wides, .ref a0_highs, .ref a0_lows, .ref a0_itemWides, .ref a0_pile])), (a0_diary, .inl (cs.1, 2576, .inl (aI a0_diaryF))), (a0_now, .inl (cs.1, 184, .inl (aI a0_nowF)))] none [(a0, .inr (8, [.int (iI a0_refusal), .ref a0_text, .int (iI a0_textSize), .ref a0_now, .ref a0_trial, .ref a0_diary, .int (iI r.1), .ref a0_kept, .ref a0_isKept, .ref a0_clip, .ref a0_line, .int (iI a0_lineSize), .ref a0_read, .int (iI a0_readSize), .ref a0_opens, .ref a0_chains, .ref a0_factors, .ref a0_plains, .ref a0_belows, .ref a0_owned, .int (iI a0_deep), .ref a0_wides, .ref a0_highs, .ref a0_lows, .ref a0_itemWides, .ref a0_pile])), (a0_diary, .inl (cs.1, 2576, .inl (aI r.2))), (a0_now, .inl (cs.1, 184, .inl (aI a0_nowF)))] := by
  refine q_start_v [(0, .ref a0)] RX8 rfl (by decide +kernel) rfl (Nat.le_of_ble_eq_true rfl) (fun κ ok fin => ?_)
  unfold f_X8_note at h
  refine j_aload_n (pc := 0) 0 ok dX8_note_0 rfl rfl ?_
  refine gf_X8_182_8 (pc := 1) 0 ok rfl dX8_note_1 ?_
  refine j_bipush (pc := 4) ok dX8_note_4 (by decide) ?_
  refine jn_use (P := fun z3 => q_J D κ 2 0 0 [(a0, .inr (8, [.int (iI a0_refusal), .ref a0_text, .int (iI a0_textSize), .ref a0_now, .ref a0_trial, .ref a0_diary, .int (iI z3.1), .ref a0_kept, .ref a0_isKept, .ref a0_clip, .ref a0_line, .int (iI a0_lineSize), .ref a0_read, .int (iI a0_readSize), .ref a0_opens, .ref a0_chains, .ref a0_factors, .ref a0_plains, .ref a0_belows, .ref a0_owned, .int (iI a0_deep), .ref a0_wides, .ref a0_highs, .ref a0_lows, .ref a0_itemWides, .ref a0_pile])), (a0_diary, .inl (cs.1, 2576, .inl (aI z3.2))), (a0_now, .inl (cs.1, 184, .inl (aI a0_nowF)))] [(0, .ref a0)] 50 []) h (fun z3 h => ?_) (fun k1 hk1 h => ?_)
  · refine j_aload_n (pc := 50) 0 ok dX8_note_50 rfl rfl ?_
    refine gf_X8_13_8 (pc := 51) 0 ok rfl dX8_note_51 ?_
    refine j_iconst (pc := 54) ok dX8_note_54 ?_
    refine j_aload_n (pc := 55) 0 ok dX8_note_55 rfl rfl ?_
    refine gf_X8_19_8 (pc := 56) 0 ok rfl dX8_note_56 ?_
    refine j_sipush (pc := 59) ok dX8_note_59 (by decide) ?_
    refine j_aload_n (pc := 62) 0 ok dX8_note_62 rfl rfl ?_
    refine gf_X8_182_8 (pc := 63) 0 ok rfl dX8_note_63 ?_
    refine j_imul (pc := 66) ok dX8_note_66 ?_
    obtain ⟨r4, hr4, h⟩ := bd_inv h
    refine j_callS (pc := 67) ok (k_X8_copyPage (a0 := a0_now) (a0N := 184) (a2 := a0_diary) (a2N := 2576) (a0F := a0_nowF) (a2F := z3.2) (x1 := 0) (x3 := 184 * z3.1) hr4) gS_X8_226 hd_X8_copyPage [2, 1] (by decide) rfl rfl rfl rfl ⟨Nat.zero_le _, Nat.zero_le _⟩ (Nat.le_of_ble_eq_true rfl) dX8_note_67 rfl [(a0, .inr (8, [.int (iI a0_refusal), .ref a0_text, .int (iI a0_textSize), .ref a0_now, .ref a0_trial, .ref a0_diary, .int (iI z3.1), .ref a0_kept, .ref a0_isKept, .ref a0_clip, .ref a0_line, .int (iI a0_lineSize), .ref a0_read, .int (iI a0_readSize), .ref a0_opens, .ref a0_chains, .ref a0_factors, .ref a0_plains, .ref a0_belows, .ref a0_owned, .int (iI a0_deep), .ref a0_wides, .ref a0_highs, .ref a0_lows, .ref a0_itemWides, .ref a0_pile])), (a0_diary, .inl (cs.1, 2576, .inl (aI r4))), (a0_now, .inl (cs.1, 184, .inl (aI a0_nowF)))] rfl ?_
    refine j_aload_n (pc := 70) 0 ok dX8_note_70 rfl rfl ?_
    refine j_dup (pc := 71) ok dX8_note_71 rfl ?_
    refine gf_X8_182_8 (pc := 72) 0 ok rfl dX8_note_72 ?_
    refine j_iconst (pc := 75) ok dX8_note_75 ?_
    refine j_iadd (pc := 76) ok dX8_note_76 ?_
    refine pf_X8_182_8 (pc := 77) 0 ok rfl dX8_note_77 [(a0, .inr (8, [.int (iI a0_refusal), .ref a0_text, .int (iI a0_textSize), .ref a0_now, .ref a0_trial, .ref a0_diary, .int (iI (z3.1 + 1)), .ref a0_kept, .ref a0_isKept, .ref a0_clip, .ref a0_line, .int (iI a0_lineSize), .ref a0_read, .int (iI a0_readSize), .ref a0_opens, .ref a0_chains, .ref a0_factors, .ref a0_plains, .ref a0_belows, .ref a0_owned, .int (iI a0_deep), .ref a0_wides, .ref a0_highs, .ref a0_lows, .ref a0_itemWides, .ref a0_pile])), (a0_diary, .inl (cs.1, 2576, .inl (aI r4))), (a0_now, .inl (cs.1, 184, .inl (aI a0_nowF)))] rfl ?_
    obtain rfl := Option.some.inj h
    exact fin _ 80 dX8_note_80
  · refine j_icmp_ne (pc := 6) 50 ok dX8_note_6 (by decide) h (fun h => ?_) (fun h => ?_)
    · exact hk1 (a0_acts, a0_diaryF) h
    · refine j_iconst (pc := 9) ok dX8_note_9 ?_
      refine j_istore_n (pc := 10) (lv' := [(1, .int (iI 0)), (0, .ref a0)]) ok dX8_note_10 rfl (by decide) rfl ?_
      refine j_lv [1, 0] rfl ?_
      refine l_X8_note_11 ok fin (fun z2 h => ?_) fuel _ _ _ h
      · refine j_aload_n (pc := 40) 0 ok dX8_note_40 rfl rfl ?_
        refine j_dup (pc := 41) ok dX8_note_41 rfl ?_
        refine gf_X8_182_8 (pc := 42) 0 ok rfl dX8_note_42 ?_
        refine j_iconst (pc := 45) ok dX8_note_45 ?_
        refine j_isub (pc := 46) ok dX8_note_46 ?_
        refine pf_X8_182_8 (pc := 47) 0 ok rfl dX8_note_47 [(a0, .inr (8, [.int (iI a0_refusal), .ref a0_text, .int (iI a0_textSize), .ref a0_now, .ref a0_trial, .ref a0_diary, .int (iI (z2.1 - 1)), .ref a0_kept, .ref a0_isKept, .ref a0_clip, .ref a0_line, .int (iI a0_lineSize), .ref a0_read, .int (iI a0_readSize), .ref a0_opens, .ref a0_chains, .ref a0_factors, .ref a0_plains, .ref a0_belows, .ref a0_owned, .int (iI a0_deep), .ref a0_wides, .ref a0_highs, .ref a0_lows, .ref a0_itemWides, .ref a0_pile])), (a0_diary, .inl (cs.1, 2576, .inl (aI z2.2.1))), (a0_now, .inl (cs.1, 184, .inl (aI a0_nowF)))] rfl ?_
        exact hk1 (z2.1 - 1, z2.2.1) h
def f_X8_take (a0_acts : Int) (a0_diaryF : (Nat → Int)) (a0_nowF : (Nat → Int)) (a0_trialF : (Nat → Int)) : Option (Int × (Nat → Int) × (Nat → Int)) := bd (f_X8_note a0_acts a0_diaryF a0_nowF) (fun r1 => bd (f_X8_copyPage 184 184 a0_trialF a0_nowF 0 0) (fun r2 => some (r1.1, r1.2, r2)))
set_option maxRecDepth 100000 in
set_option maxHeartbeats 4000000 in
theorem k_X8_take {D : va_G} {cs : q_CS} {a0 a0_text a0_now a0_trial a0_diary a0_kept a0_isKept a0_clip a0_line a0_read a0_opens a0_chains a0_factors a0_plains a0_belows a0_owned a0_wides a0_highs a0_lows a0_itemWides a0_pile : Nat} {a0_refusal a0_textSize a0_acts a0_lineSize a0_readSize a0_deep : Int} {a0_diaryF a0_nowF a0_trialF : (Nat → Int)} {r : (Int × (Nat → Int) × (Nat → Int))} (h : f_X8_take a0_acts a0_diaryF a0_nowF a0_trialF = some r) : q_M D cs yX8_take cX8_take 1 none 2 45 [.ref a0] [(a0, .inr (8, [.int (iI a0_refusal), .ref a0_text, .int (iI a0_textSize), .ref a0_now, .ref a0_trial, .ref a0_diary, .int (iI a0_acts), .ref a0_kept, .ref a0_isKept, .ref a0_clip, .ref a0_line, .int (iI a0_lineSize), .ref a0_read, .int (iI a0_readSize), .ref a0_opens, .ref a0_chains, .ref a0_factors, .ref a0_plains, .ref a0_belows, .ref a0_owned, .int (iI a0_deep), .ref a0_wides, .ref a0_highs, .ref a0_lows, .ref a0_itemWides, .ref a0_pile])), (a0_diary, .inl (cs.1, 2576, .inl (aI a0_diaryF))), (a0_now, .inl (cs.1, 184, .inl (aI a0_nowF))), (a0_trial, .inl (cs.1, 184, .inl (aI a0_trialF)))] none [(a0, .inr (8, [.int (iI a0_refusal), .ref a0_text, .int (iI a0_textSize), .ref a0_now, .ref a0_trial, .ref a0_diary, .int (iI r.1), .ref a0_kept, .ref a0_isKept, .ref a0_clip, .ref a0_line, .int (iI a0_lineSize), .ref a0_read, .int (iI a0_readSize), .ref a0_opens, .ref a0_chains, .ref a0_factors, .ref a0_plains, .ref a0_belows, .ref a0_owned, .int (iI a0_deep), .ref a0_wides, .ref a0_highs, .ref a0_lows, .ref a0_itemWides, .ref a0_pile])), (a0_diary, .inl (cs.1, 2576, .inl (aI r.2.1))), (a0_now, .inl (cs.1, 184, .inl (aI r.2.2))), (a0_trial, .inl (cs.1, 184, .inl (aI a0_trialF)))] := by
  refine q_start_v [(0, .ref a0)] RX8 rfl (by decide +kernel) rfl (Nat.le_of_ble_eq_true rfl) (fun κ ok fin => ?_)
  unfold f_X8_take at h
  refine j_aload_n (pc := 0) 0 ok dX8_take_0 rfl rfl ?_
  obtain ⟨r1, hr1, h⟩ := bd_inv h
  refine j_callV (pc := 1) ok (k_X8_note (a0 := a0) (a0_text := a0_text) (a0_now := a0_now) (a0_trial := a0_trial) (a0_diary := a0_diary) (a0_kept := a0_kept) (a0_isKept := a0_isKept) (a0_clip := a0_clip) (a0_line := a0_line) (a0_read := a0_read) (a0_opens := a0_opens) (a0_chains := a0_chains) (a0_factors := a0_factors) (a0_plains := a0_plains) (a0_belows := a0_belows) (a0_owned := a0_owned) (a0_wides := a0_wides) (a0_highs := a0_highs) (a0_lows := a0_lows) (a0_itemWides := a0_itemWides) (a0_pile := a0_pile) (a0_refusal := a0_refusal) (a0_textSize := a0_textSize) (a0_acts := a0_acts) (a0_lineSize := a0_lineSize) (a0_readSize := a0_readSize) (a0_deep := a0_deep) (a0_diaryF := a0_diaryF) (a0_nowF := a0_nowF) hr1) gV_X8_230 ⟨rfl, hd_X8_note⟩ [0, 1, 2] (by decide) rfl rfl 0 rfl rfl rfl rfl ⟨Nat.zero_le _, Nat.zero_le _⟩ (Nat.le_of_ble_eq_true rfl) dX8_take_1 rfl [(a0, .inr (8, [.int (iI a0_refusal), .ref a0_text, .int (iI a0_textSize), .ref a0_now, .ref a0_trial, .ref a0_diary, .int (iI r1.1), .ref a0_kept, .ref a0_isKept, .ref a0_clip, .ref a0_line, .int (iI a0_lineSize), .ref a0_read, .int (iI a0_readSize), .ref a0_opens, .ref a0_chains, .ref a0_factors, .ref a0_plains, .ref a0_belows, .ref a0_owned, .int (iI a0_deep), .ref a0_wides, .ref a0_highs, .ref a0_lows, .ref a0_itemWides, .ref a0_pile])), (a0_diary, .inl (cs.1, 2576, .inl (aI r1.2))), (a0_now, .inl (cs.1, 184, .inl (aI a0_nowF))), (a0_trial, .inl (cs.1, 184, .inl (aI a0_trialF)))] rfl ?_
  refine j_aload_n (pc := 4) 0 ok dX8_take_4 rfl rfl ?_
  refine gf_X8_16_8 (pc := 5) 0 ok rfl dX8_take_5 ?_
  refine j_iconst (pc := 8) ok dX8_take_8 ?_
  refine j_aload_n (pc := 9) 0 ok dX8_take_9 rfl rfl ?_
  refine gf_X8_13_8 (pc := 10) 0 ok rfl dX8_take_10 ?_
  refine j_iconst (pc := 13) ok dX8_take_13 ?_
  obtain ⟨r2, hr2, h⟩ := bd_inv h
  refine j_callS (pc := 14) ok (k_X8_copyPage (a0 := a0_trial) (a0N := 184) (a2 := a0_now) (a2N := 184) (a0F := a0_trialF) (a2F := a0_nowF) (x1 := 0) (x3 := 0) hr2) gS_X8_226 hd_X8_copyPage [3, 2] (by decide) rfl rfl rfl rfl ⟨Nat.zero_le _, Nat.zero_le _⟩ (Nat.le_of_ble_eq_true rfl) dX8_take_14 rfl [(a0, .inr (8, [.int (iI a0_refusal), .ref a0_text, .int (iI a0_textSize), .ref a0_now, .ref a0_trial, .ref a0_diary, .int (iI r1.1), .ref a0_kept, .ref a0_isKept, .ref a0_clip, .ref a0_line, .int (iI a0_lineSize), .ref a0_read, .int (iI a0_readSize), .ref a0_opens, .ref a0_chains, .ref a0_factors, .ref a0_plains, .ref a0_belows, .ref a0_owned, .int (iI a0_deep), .ref a0_wides, .ref a0_highs, .ref a0_lows, .ref a0_itemWides, .ref a0_pile])), (a0_diary, .inl (cs.1, 2576, .inl (aI r1.2))), (a0_now, .inl (cs.1, 184, .inl (aI r2))), (a0_trial, .inl (cs.1, 184, .inl (aI a0_trialF)))] rfl ?_
  obtain rfl := Option.some.inj h
  exact fin _ 17 dX8_take_17
def f_X8_type (a0_refusal : Int) (a0_acts : Int) (a0_diaryF : (Nat → Int)) (a0_nowF : (Nat → Int)) (a0_trialF : (Nat → Int)) (x1 : Int) : Option (Int × Int × Int × (Nat → Int) × (Nat → Int) × (Nat → Int)) := bd (f_X8_copyPage 184 184 a0_nowF a0_trialF 0 0) (fun r1 => bd (f_X8_isSymbol x1) (fun r2 => jn (fun (z5 : (Nat → Int) × Int) => bd (f_X8_refused a0_refusal z5.2) (fun r6 => cEq r6.1 0 (bd (f_X8_take a0_acts a0_diaryF a0_nowF z5.1) (fun r7 => gIn 180 184 (bd (f_X8_allIn 184 r7.2.2 0 (r7.2.2 (180 : Int).toNat)) (fun r8 => some (r8, r6.2, r7.1, r7.2.1, r7.2.2, z5.1))))) (some (0, r6.2, a0_acts, a0_diaryF, a0_nowF, z5.1)))) (fun k3 => cEq r2 0 (k3 (r1, 1)) (bd (f_X8_types 184 r1 x1) (fun r4 => cEq r4.1 0 (k3 (r4.2, 2)) (k3 (r4.2, 0)))))))
set_option maxRecDepth 100000 in
set_option maxHeartbeats 4000000 in
theorem k_X8_type {D : va_G} {cs : q_CS} {a0 a0_text a0_now a0_trial a0_diary a0_kept a0_isKept a0_clip a0_line a0_read a0_opens a0_chains a0_factors a0_plains a0_belows a0_owned a0_wides a0_highs a0_lows a0_itemWides a0_pile : Nat} {a0_refusal a0_textSize a0_acts a0_lineSize a0_readSize a0_deep : Int} {a0_diaryF a0_nowF a0_trialF : (Nat → Int)} {x1 : Int} {r : (Int × Int × Int × (Nat → Int) × (Nat → Int) × (Nat → Int))} (h : f_X8_type a0_refusal a0_acts a0_diaryF a0_nowF a0_trialF x1 = some r) : q_M D cs yX8_type cX8_type 2 (some .int) 4 87 [.ref a0, .int (iI x1)] [(a0, .inr (8, [.int (iI a0_refusal), .ref a0_text, .int (iI a0_textSize), .ref a0_now, .ref a0_trial, .ref a0_diary, .int (iI a0_acts), .ref a0_kept, .ref a0_isKept, .ref a0_clip, .ref a0_line, .int (iI a0_lineSize), .ref a0_read, .int (iI a0_readSize), .ref a0_opens, .ref a0_chains, .ref a0_factors, .ref a0_plains, .ref a0_belows, .ref a0_owned, .int (iI a0_deep), .ref a0_wides, .ref a0_highs, .ref a0_lows, .ref a0_itemWides, .ref a0_pile])), (a0_diary, .inl (cs.1, 2576, .inl (aI a0_diaryF))), (a0_now, .inl (cs.1, 184, .inl (aI a0_nowF))), (a0_trial, .inl (cs.1, 184, .inl (aI a0_trialF)))] (some (.int (iI r.1))) [(a0, .inr (8, [.int (iI r.2.1), .ref a0_text, .int (iI a0_textSize), .ref a0_now, .ref a0_trial, .ref a0_diary, .int (iI r.2.2.1), .ref a0_kept, .ref a0_isKept, .ref a0_clip, .ref a0_line, .int (iI a0_lineSize), .ref a0_read, .int (iI a0_readSize), .ref a0_opens, .ref a0_chains, .ref a0_factors, .ref a0_plains, .ref a0_belows, .ref a0_owned, .int (iI a0_deep), .ref a0_wides, .ref a0_highs, .ref a0_lows, .ref a0_itemWides, .ref a0_pile])), (a0_diary, .inl (cs.1, 2576, .inl (aI r.2.2.2.1))), (a0_now, .inl (cs.1, 184, .inl (aI r.2.2.2.2.1))), (a0_trial, .inl (cs.1, 184, .inl (aI r.2.2.2.2.2)))] := by
  refine q_start_i [(0, .ref a0), (1, .int (iI x1))] RX8 rfl (by decide +kernel) rfl (Nat.le_of_ble_eq_true rfl) rfl (fun κ ok fin => ?_)
  unfold f_X8_type at h
  refine j_aload_n (pc := 0) 0 ok dX8_type_0 rfl rfl ?_
  refine gf_X8_13_8 (pc := 1) 0 ok rfl dX8_type_1 ?_
  refine j_iconst (pc := 4) ok dX8_type_4 ?_
  refine j_aload_n (pc := 5) 0 ok dX8_type_5 rfl rfl ?_
  refine gf_X8_16_8 (pc := 6) 0 ok rfl dX8_type_6 ?_
  refine j_iconst (pc := 9) ok dX8_type_9 ?_
  obtain ⟨r1, hr1, h⟩ := bd_inv h
  refine j_callS (pc := 10) ok (k_X8_copyPage (a0 := a0_now) (a0N := 184) (a2 := a0_trial) (a2N := 184) (a0F := a0_nowF) (a2F := a0_trialF) (x1 := 0) (x3 := 0) hr1) gS_X8_226 hd_X8_copyPage [2, 3] (by decide) rfl rfl rfl rfl ⟨Nat.zero_le _, Nat.zero_le _⟩ (Nat.le_of_ble_eq_true rfl) dX8_type_10 rfl [(a0, .inr (8, [.int (iI a0_refusal), .ref a0_text, .int (iI a0_textSize), .ref a0_now, .ref a0_trial, .ref a0_diary, .int (iI a0_acts), .ref a0_kept, .ref a0_isKept, .ref a0_clip, .ref a0_line, .int (iI a0_lineSize), .ref a0_read, .int (iI a0_readSize), .ref a0_opens, .ref a0_chains, .ref a0_factors, .ref a0_plains, .ref a0_belows, .ref a0_owned, .int (iI a0_deep), .ref a0_wides, .ref a0_highs, .ref a0_lows, .ref a0_itemWides, .ref a0_pile])), (a0_diary, .inl (cs.1, 2576, .inl (aI a0_diaryF))), (a0_now, .inl (cs.1, 184, .inl (aI a0_nowF))), (a0_trial, .inl (cs.1, 184, .inl (aI r1)))] rfl ?_
  refine j_aload_n (pc := 13) 0 ok dX8_type_13 rfl rfl ?_
  refine j_iload_n (pc := 14) 1 ok dX8_type_14 rfl rfl ?_
  obtain ⟨r2, hr2, h⟩ := bd_inv h
  refine j_callS (pc := 15) ok (k_X8_isSymbol (x0 := x1) hr2) gS_X8_118 hd_X8_isSymbol [] (by decide) rfl rfl rfl rfl ⟨Nat.zero_le _, Nat.zero_le _⟩ (Nat.le_of_ble_eq_true rfl) dX8_type_15 rfl [(a0, .inr (8, [.int (iI a0_refusal), .ref a0_text, .int (iI a0_textSize), .ref a0_now, .ref a0_trial, .ref a0_diary, .int (iI a0_acts), .ref a0_kept, .ref a0_isKept, .ref a0_clip, .ref a0_line, .int (iI a0_lineSize), .ref a0_read, .int (iI a0_readSize), .ref a0_opens, .ref a0_chains, .ref a0_factors, .ref a0_plains, .ref a0_belows, .ref a0_owned, .int (iI a0_deep), .ref a0_wides, .ref a0_highs, .ref a0_lows, .ref a0_itemWides, .ref a0_pile])), (a0_diary, .inl (cs.1, 2576, .inl (aI a0_diaryF))), (a0_now, .inl (cs.1, 184, .inl (aI a0_nowF))), (a0_trial, .inl (cs.1, 184, .inl (aI r1)))] rfl ?_
  refine jn_use (P := fun z5 => q_J D κ 2 0 0 [(a0, .inr (8, [.int (iI a0_refusal), .ref a0_text, .int (iI a0_textSize), .ref a0_now, .ref a0_trial, .ref a0_diary, .int (iI a0_acts), .ref a0_kept, .ref a0_isKept, .ref a0_clip, .ref a0_line, .int (iI a0_lineSize), .ref a0_read, .int (iI a0_readSize), .ref a0_opens, .ref a0_chains, .ref a0_factors, .ref a0_plains, .ref a0_belows, .ref a0_owned, .int (iI a0_deep), .ref a0_wides, .ref a0_highs, .ref a0_lows, .ref a0_itemWides, .ref a0_pile])), (a0_diary, .inl (cs.1, 2576, .inl (aI a0_diaryF))), (a0_now, .inl (cs.1, 184, .inl (aI a0_nowF))), (a0_trial, .inl (cs.1, 184, .inl (aI z5.1)))] [(0, .ref a0)] 41 [.int (iI z5.2), .ref a0]) h (fun z5 h => ?_) (fun k3 hk3 h => ?_)
  · obtain ⟨r6, hr6, h⟩ := bd_inv h
    refine j_callV (pc := 41) ok (k_X8_refused (a0 := a0) (a0_text := a0_text) (a0_now := a0_now) (a0_trial := a0_trial) (a0_diary := a0_diary) (a0_kept := a0_kept) (a0_isKept := a0_isKept) (a0_clip := a0_clip) (a0_line := a0_line) (a0_read := a0_read) (a0_opens := a0_opens) (a0_chains := a0_chains) (a0_factors := a0_factors) (a0_plains := a0_plains) (a0_belows := a0_belows) (a0_owned := a0_owned) (a0_wides := a0_wides) (a0_highs := a0_highs) (a0_lows := a0_lows) (a0_itemWides := a0_itemWides) (a0_pile := a0_pile) (a0_refusal := a0_refusal) (a0_textSize := a0_textSize) (a0_acts := a0_acts) (a0_lineSize := a0_lineSize) (a0_readSize := a0_readSize) (a0_deep := a0_deep) (x1 := z5.2) hr6) gV_X8_150 ⟨rfl, hd_X8_refused⟩ [0] (by decide) rfl rfl 0 rfl rfl rfl rfl ⟨Nat.zero_le _, Nat.zero_le _⟩ (Nat.le_of_ble_eq_true rfl) dX8_type_41 rfl [(a0, .inr (8, [.int (iI r6.2), .ref a0_text, .int (iI a0_textSize), .ref a0_now, .ref a0_trial, .ref a0_diary, .int (iI a0_acts), .ref a0_kept, .ref a0_isKept, .ref a0_clip, .ref a0_line, .int (iI a0_lineSize), .ref a0_read, .int (iI a0_readSize), .ref a0_opens, .ref a0_chains, .ref a0_factors, .ref a0_plains, .ref a0_belows, .ref a0_owned, .int (iI a0_deep), .ref a0_wides, .ref a0_highs, .ref a0_lows, .ref a0_itemWides, .ref a0_pile])), (a0_diary, .inl (cs.1, 2576, .inl (aI a0_diaryF))), (a0_now, .inl (cs.1, 184, .inl (aI a0_nowF))), (a0_trial, .inl (cs.1, 184, .inl (aI z5.1)))] rfl ?_
    refine j_if_eq (pc := 44) 49 ok dX8_type_44 (by decide) h (fun h => ?_) (fun h => ?_)
    · refine j_aload_n (pc := 49) 0 ok dX8_type_49 rfl rfl ?_
      obtain ⟨r7, hr7, h⟩ := bd_inv h
      refine j_callV (pc := 50) ok (k_X8_take (a0 := a0) (a0_text := a0_text) (a0_now := a0_now) (a0_trial := a0_trial) (a0_diary := a0_diary) (a0_kept := a0_kept) (a0_isKept := a0_isKept) (a0_clip := a0_clip) (a0_line := a0_line) (a0_read := a0_read) (a0_opens := a0_opens) (a0_chains := a0_chains) (a0_factors := a0_factors) (a0_plains := a0_plains) (a0_belows := a0_belows) (a0_owned := a0_owned) (a0_wides := a0_wides) (a0_highs := a0_highs) (a0_lows := a0_lows) (a0_itemWides := a0_itemWides) (a0_pile := a0_pile) (a0_refusal := r6.2) (a0_textSize := a0_textSize) (a0_acts := a0_acts) (a0_lineSize := a0_lineSize) (a0_readSize := a0_readSize) (a0_deep := a0_deep) (a0_diaryF := a0_diaryF) (a0_nowF := a0_nowF) (a0_trialF := z5.1) hr7) gV_X8_237 ⟨rfl, hd_X8_take⟩ [0, 1, 2, 3] (by decide) rfl rfl 0 rfl rfl rfl rfl ⟨Nat.zero_le _, Nat.zero_le _⟩ (Nat.le_of_ble_eq_true rfl) dX8_type_50 rfl [(a0, .inr (8, [.int (iI r6.2), .ref a0_text, .int (iI a0_textSize), .ref a0_now, .ref a0_trial, .ref a0_diary, .int (iI r7.1), .ref a0_kept, .ref a0_isKept, .ref a0_clip, .ref a0_line, .int (iI a0_lineSize), .ref a0_read, .int (iI a0_readSize), .ref a0_opens, .ref a0_chains, .ref a0_factors, .ref a0_plains, .ref a0_belows, .ref a0_owned, .int (iI a0_deep), .ref a0_wides, .ref a0_highs, .ref a0_lows, .ref a0_itemWides, .ref a0_pile])), (a0_diary, .inl (cs.1, 2576, .inl (aI r7.2.1))), (a0_now, .inl (cs.1, 184, .inl (aI r7.2.2))), (a0_trial, .inl (cs.1, 184, .inl (aI z5.1)))] rfl ?_
      refine j_aload_n (pc := 53) 0 ok dX8_type_53 rfl rfl ?_
      refine gf_X8_13_8 (pc := 54) 0 ok rfl dX8_type_54 ?_
      refine j_iconst (pc := 57) ok dX8_type_57 ?_
      refine j_aload_n (pc := 58) 0 ok dX8_type_58 rfl rfl ?_
      refine gf_X8_13_8 (pc := 59) 0 ok rfl dX8_type_59 ?_
      refine j_sipush (pc := 62) ok dX8_type_62 (by decide) ?_
      refine j_iald (pc := 65) 2 ok rfl dX8_type_65 h (fun h => ?_)
      obtain ⟨r8, hr8, h⟩ := bd_inv h
      refine j_callS (pc := 66) ok (k_X8_allIn (a0 := a0_now) (a0N := 184) (a0F := r7.2.2) (x1 := 0) (x2 := r7.2.2 (180 : Int).toNat) hr8) gS_X8_114 hd_X8_allIn [2] (by decide) rfl rfl rfl rfl ⟨Nat.zero_le _, Nat.zero_le _⟩ (Nat.le_of_ble_eq_true rfl) dX8_type_66 rfl [(a0, .inr (8, [.int (iI r6.2), .ref a0_text, .int (iI a0_textSize), .ref a0_now, .ref a0_trial, .ref a0_diary, .int (iI r7.1), .ref a0_kept, .ref a0_isKept, .ref a0_clip, .ref a0_line, .int (iI a0_lineSize), .ref a0_read, .int (iI a0_readSize), .ref a0_opens, .ref a0_chains, .ref a0_factors, .ref a0_plains, .ref a0_belows, .ref a0_owned, .int (iI a0_deep), .ref a0_wides, .ref a0_highs, .ref a0_lows, .ref a0_itemWides, .ref a0_pile])), (a0_diary, .inl (cs.1, 2576, .inl (aI r7.2.1))), (a0_now, .inl (cs.1, 184, .inl (aI r7.2.2))), (a0_trial, .inl (cs.1, 184, .inl (aI z5.1)))] rfl ?_
      obtain rfl := Option.some.inj h
      exact fin _ 69 dX8_type_69
    · refine j_iconst (pc := 47) ok dX8_type_47 ?_
      obtain rfl := Option.some.inj h
      exact fin _ 48 dX8_type_48
  · refine j_if_ne (pc := 18) 25 ok dX8_type_18 (by decide) h (fun h => ?_) (fun h => ?_)
    · refine j_aload_n (pc := 25) 0 ok dX8_type_25 rfl rfl ?_
      refine gf_X8_16_8 (pc := 26) 0 ok rfl dX8_type_26 ?_
      refine j_iload_n (pc := 29) 1 ok dX8_type_29 rfl rfl ?_
      obtain ⟨r4, hr4, h⟩ := bd_inv h
      refine j_callS (pc := 30) ok (k_X8_types (a0 := a0_trial) (a0N := 184) (a0F := r1) (x1 := x1) hr4) gS_X8_233 hd_X8_types [3] (by decide) rfl rfl rfl rfl ⟨Nat.zero_le _, Nat.zero_le _⟩ (Nat.le_of_ble_eq_true rfl) dX8_type_30 rfl [(a0, .inr (8, [.int (iI a0_refusal), .ref a0_text, .int (iI a0_textSize), .ref a0_now, .ref a0_trial, .ref a0_diary, .int (iI a0_acts), .ref a0_kept, .ref a0_isKept, .ref a0_clip, .ref a0_line, .int (iI a0_lineSize), .ref a0_read, .int (iI a0_readSize), .ref a0_opens, .ref a0_chains, .ref a0_factors, .ref a0_plains, .ref a0_belows, .ref a0_owned, .int (iI a0_deep), .ref a0_wides, .ref a0_highs, .ref a0_lows, .ref a0_itemWides, .ref a0_pile])), (a0_diary, .inl (cs.1, 2576, .inl (aI a0_diaryF))), (a0_now, .inl (cs.1, 184, .inl (aI a0_nowF))), (a0_trial, .inl (cs.1, 184, .inl (aI r4.2)))] rfl ?_
      refine j_if_eq (pc := 33) 40 ok dX8_type_33 (by decide) h (fun h => ?_) (fun h => ?_)
      · refine j_iconst (pc := 40) ok dX8_type_40 ?_
        refine j_lv [0] rfl ?_
        exact hk3 (r4.2, 2) h
      · refine j_iconst (pc := 36) ok dX8_type_36 ?_
        refine j_goto (pc := 37) 41 ok dX8_type_37 (by decide) ?_
        refine j_lv [0] rfl ?_
        exact hk3 (r4.2, 0) h
    · refine j_iconst (pc := 21) ok dX8_type_21 ?_
      refine j_goto (pc := 22) 41 ok dX8_type_22 (by decide) ?_
      refine j_lv [0] rfl ?_
      exact hk3 (r1, 1) h
def f_X8_wrap (a0_refusal : Int) (a0_acts : Int) (a0_diaryF : (Nat → Int)) (a0_nowF : (Nat → Int)) (a0_trialF : (Nat → Int)) (x1 : Int) : Option (Int × Int × Int × (Nat → Int) × (Nat → Int) × (Nat → Int)) := bd (f_X8_copyPage 184 184 a0_nowF a0_trialF 0 0) (fun r1 => gR x1 (bd (f_X8_in x1 1 5) (fun r2 => jn (fun (z5 : (Nat → Int) × Int) => bd (f_X8_refused a0_refusal z5.2) (fun r6 => cEq r6.1 0 (bd (f_X8_take a0_acts a0_diaryF a0_nowF z5.1) (fun r7 => gIn 181 184 (some (r7.2.2 (181 : Int).toNat, r6.2, r7.1, r7.2.1, r7.2.2, z5.1)))) (some (0, r6.2, a0_acts, a0_diaryF, a0_nowF, z5.1)))) (fun k3 => cEq r2 0 (k3 (r1, 1)) (bd (f_X8_wraps 184 r1 x1) (fun r4 => cEq r4.1 0 (k3 (r4.2, 2)) (k3 (r4.2, 0))))))))
set_option maxRecDepth 100000 in
set_option maxHeartbeats 4000000 in
theorem k_X8_wrap {D : va_G} {cs : q_CS} {a0 a0_text a0_now a0_trial a0_diary a0_kept a0_isKept a0_clip a0_line a0_read a0_opens a0_chains a0_factors a0_plains a0_belows a0_owned a0_wides a0_highs a0_lows a0_itemWides a0_pile : Nat} {a0_refusal a0_textSize a0_acts a0_lineSize a0_readSize a0_deep : Int} {a0_diaryF a0_nowF a0_trialF : (Nat → Int)} {x1 : Int} {r : (Int × Int × Int × (Nat → Int) × (Nat → Int) × (Nat → Int))} (h : f_X8_wrap a0_refusal a0_acts a0_diaryF a0_nowF a0_trialF x1 = some r) : q_M D cs yX8_wrap cX8_wrap 2 (some .int) 3 68 [.ref a0, .int (iI x1)] [(a0, .inr (8, [.int (iI a0_refusal), .ref a0_text, .int (iI a0_textSize), .ref a0_now, .ref a0_trial, .ref a0_diary, .int (iI a0_acts), .ref a0_kept, .ref a0_isKept, .ref a0_clip, .ref a0_line, .int (iI a0_lineSize), .ref a0_read, .int (iI a0_readSize), .ref a0_opens, .ref a0_chains, .ref a0_factors, .ref a0_plains, .ref a0_belows, .ref a0_owned, .int (iI a0_deep), .ref a0_wides, .ref a0_highs, .ref a0_lows, .ref a0_itemWides, .ref a0_pile])), (a0_diary, .inl (cs.1, 2576, .inl (aI a0_diaryF))), (a0_now, .inl (cs.1, 184, .inl (aI a0_nowF))), (a0_trial, .inl (cs.1, 184, .inl (aI a0_trialF)))] (some (.int (iI r.1))) [(a0, .inr (8, [.int (iI r.2.1), .ref a0_text, .int (iI a0_textSize), .ref a0_now, .ref a0_trial, .ref a0_diary, .int (iI r.2.2.1), .ref a0_kept, .ref a0_isKept, .ref a0_clip, .ref a0_line, .int (iI a0_lineSize), .ref a0_read, .int (iI a0_readSize), .ref a0_opens, .ref a0_chains, .ref a0_factors, .ref a0_plains, .ref a0_belows, .ref a0_owned, .int (iI a0_deep), .ref a0_wides, .ref a0_highs, .ref a0_lows, .ref a0_itemWides, .ref a0_pile])), (a0_diary, .inl (cs.1, 2576, .inl (aI r.2.2.2.1))), (a0_now, .inl (cs.1, 184, .inl (aI r.2.2.2.2.1))), (a0_trial, .inl (cs.1, 184, .inl (aI r.2.2.2.2.2)))] := by
  refine q_start_i [(0, .ref a0), (1, .int (iI x1))] RX8 rfl (by decide +kernel) rfl (Nat.le_of_ble_eq_true rfl) rfl (fun κ ok fin => ?_)
  unfold f_X8_wrap at h
  refine j_aload_n (pc := 0) 0 ok dX8_wrap_0 rfl rfl ?_
  refine gf_X8_13_8 (pc := 1) 0 ok rfl dX8_wrap_1 ?_
  refine j_iconst (pc := 4) ok dX8_wrap_4 ?_
  refine j_aload_n (pc := 5) 0 ok dX8_wrap_5 rfl rfl ?_
  refine gf_X8_16_8 (pc := 6) 0 ok rfl dX8_wrap_6 ?_
  refine j_iconst (pc := 9) ok dX8_wrap_9 ?_
  obtain ⟨r1, hr1, h⟩ := bd_inv h
  refine j_callS (pc := 10) ok (k_X8_copyPage (a0 := a0_now) (a0N := 184) (a2 := a0_trial) (a2N := 184) (a0F := a0_nowF) (a2F := a0_trialF) (x1 := 0) (x3 := 0) hr1) gS_X8_226 hd_X8_copyPage [2, 3] (by decide) rfl rfl rfl rfl ⟨Nat.zero_le _, Nat.zero_le _⟩ (Nat.le_of_ble_eq_true rfl) dX8_wrap_10 rfl [(a0, .inr (8, [.int (iI a0_refusal), .ref a0_text, .int (iI a0_textSize), .ref a0_now, .ref a0_trial, .ref a0_diary, .int (iI a0_acts), .ref a0_kept, .ref a0_isKept, .ref a0_clip, .ref a0_line, .int (iI a0_lineSize), .ref a0_read, .int (iI a0_readSize), .ref a0_opens, .ref a0_chains, .ref a0_factors, .ref a0_plains, .ref a0_belows, .ref a0_owned, .int (iI a0_deep), .ref a0_wides, .ref a0_highs, .ref a0_lows, .ref a0_itemWides, .ref a0_pile])), (a0_diary, .inl (cs.1, 2576, .inl (aI a0_diaryF))), (a0_now, .inl (cs.1, 184, .inl (aI a0_nowF))), (a0_trial, .inl (cs.1, 184, .inl (aI r1)))] rfl ?_
  refine j_aload_n (pc := 13) 0 ok dX8_wrap_13 rfl rfl ?_
  refine j_iload_n (pc := 14) 1 ok dX8_wrap_14 rfl rfl ?_
  refine j_i2l (pc := 15) ok dX8_wrap_15 h (fun h => ?_)
  refine j_lconst (pc := 16) 1 ok dX8_wrap_16 (by decide) ?_
  refine j_ldc2 (pc := 17) 5 ok dX8_wrap_17 (q_in 1308 (by decide +kernel) (by decide +kernel)) ?_
  obtain ⟨r2, hr2, h⟩ := bd_inv h
  refine j_callS (pc := 20) ok (k_X8_in (x0 := x1) (x1 := 1) (x2 := 5) hr2) gS_X8_79 hd_X8_in [] (by decide) rfl rfl rfl rfl ⟨Nat.zero_le _, Nat.zero_le _⟩ (Nat.le_of_ble_eq_true rfl) dX8_wrap_20 rfl [(a0, .inr (8, [.int (iI a0_refusal), .ref a0_text, .int (iI a0_textSize), .ref a0_now, .ref a0_trial, .ref a0_diary, .int (iI a0_acts), .ref a0_kept, .ref a0_isKept, .ref a0_clip, .ref a0_line, .int (iI a0_lineSize), .ref a0_read, .int (iI a0_readSize), .ref a0_opens, .ref a0_chains, .ref a0_factors, .ref a0_plains, .ref a0_belows, .ref a0_owned, .int (iI a0_deep), .ref a0_wides, .ref a0_highs, .ref a0_lows, .ref a0_itemWides, .ref a0_pile])), (a0_diary, .inl (cs.1, 2576, .inl (aI a0_diaryF))), (a0_now, .inl (cs.1, 184, .inl (aI a0_nowF))), (a0_trial, .inl (cs.1, 184, .inl (aI r1)))] rfl ?_
  refine jn_use (P := fun z5 => q_J D κ 2 0 0 [(a0, .inr (8, [.int (iI a0_refusal), .ref a0_text, .int (iI a0_textSize), .ref a0_now, .ref a0_trial, .ref a0_diary, .int (iI a0_acts), .ref a0_kept, .ref a0_isKept, .ref a0_clip, .ref a0_line, .int (iI a0_lineSize), .ref a0_read, .int (iI a0_readSize), .ref a0_opens, .ref a0_chains, .ref a0_factors, .ref a0_plains, .ref a0_belows, .ref a0_owned, .int (iI a0_deep), .ref a0_wides, .ref a0_highs, .ref a0_lows, .ref a0_itemWides, .ref a0_pile])), (a0_diary, .inl (cs.1, 2576, .inl (aI a0_diaryF))), (a0_now, .inl (cs.1, 184, .inl (aI a0_nowF))), (a0_trial, .inl (cs.1, 184, .inl (aI z5.1)))] [(0, .ref a0)] 46 [.int (iI z5.2), .ref a0]) h (fun z5 h => ?_) (fun k3 hk3 h => ?_)
  · obtain ⟨r6, hr6, h⟩ := bd_inv h
    refine j_callV (pc := 46) ok (k_X8_refused (a0 := a0) (a0_text := a0_text) (a0_now := a0_now) (a0_trial := a0_trial) (a0_diary := a0_diary) (a0_kept := a0_kept) (a0_isKept := a0_isKept) (a0_clip := a0_clip) (a0_line := a0_line) (a0_read := a0_read) (a0_opens := a0_opens) (a0_chains := a0_chains) (a0_factors := a0_factors) (a0_plains := a0_plains) (a0_belows := a0_belows) (a0_owned := a0_owned) (a0_wides := a0_wides) (a0_highs := a0_highs) (a0_lows := a0_lows) (a0_itemWides := a0_itemWides) (a0_pile := a0_pile) (a0_refusal := a0_refusal) (a0_textSize := a0_textSize) (a0_acts := a0_acts) (a0_lineSize := a0_lineSize) (a0_readSize := a0_readSize) (a0_deep := a0_deep) (x1 := z5.2) hr6) gV_X8_150 ⟨rfl, hd_X8_refused⟩ [0] (by decide) rfl rfl 0 rfl rfl rfl rfl ⟨Nat.zero_le _, Nat.zero_le _⟩ (Nat.le_of_ble_eq_true rfl) dX8_wrap_46 rfl [(a0, .inr (8, [.int (iI r6.2), .ref a0_text, .int (iI a0_textSize), .ref a0_now, .ref a0_trial, .ref a0_diary, .int (iI a0_acts), .ref a0_kept, .ref a0_isKept, .ref a0_clip, .ref a0_line, .int (iI a0_lineSize), .ref a0_read, .int (iI a0_readSize), .ref a0_opens, .ref a0_chains, .ref a0_factors, .ref a0_plains, .ref a0_belows, .ref a0_owned, .int (iI a0_deep), .ref a0_wides, .ref a0_highs, .ref a0_lows, .ref a0_itemWides, .ref a0_pile])), (a0_diary, .inl (cs.1, 2576, .inl (aI a0_diaryF))), (a0_now, .inl (cs.1, 184, .inl (aI a0_nowF))), (a0_trial, .inl (cs.1, 184, .inl (aI z5.1)))] rfl ?_
    refine j_if_eq (pc := 49) 54 ok dX8_wrap_49 (by decide) h (fun h => ?_) (fun h => ?_)
    · refine j_aload_n (pc := 54) 0 ok dX8_wrap_54 rfl rfl ?_
      obtain ⟨r7, hr7, h⟩ := bd_inv h
      refine j_callV (pc := 55) ok (k_X8_take (a0 := a0) (a0_text := a0_text) (a0_now := a0_now) (a0_trial := a0_trial) (a0_diary := a0_diary) (a0_kept := a0_kept) (a0_isKept := a0_isKept) (a0_clip := a0_clip) (a0_line := a0_line) (a0_read := a0_read) (a0_opens := a0_opens) (a0_chains := a0_chains) (a0_factors := a0_factors) (a0_plains := a0_plains) (a0_belows := a0_belows) (a0_owned := a0_owned) (a0_wides := a0_wides) (a0_highs := a0_highs) (a0_lows := a0_lows) (a0_itemWides := a0_itemWides) (a0_pile := a0_pile) (a0_refusal := r6.2) (a0_textSize := a0_textSize) (a0_acts := a0_acts) (a0_lineSize := a0_lineSize) (a0_readSize := a0_readSize) (a0_deep := a0_deep) (a0_diaryF := a0_diaryF) (a0_nowF := a0_nowF) (a0_trialF := z5.1) hr7) gV_X8_237 ⟨rfl, hd_X8_take⟩ [0, 1, 2, 3] (by decide) rfl rfl 0 rfl rfl rfl rfl ⟨Nat.zero_le _, Nat.zero_le _⟩ (Nat.le_of_ble_eq_true rfl) dX8_wrap_55 rfl [(a0, .inr (8, [.int (iI r6.2), .ref a0_text, .int (iI a0_textSize), .ref a0_now, .ref a0_trial, .ref a0_diary, .int (iI r7.1), .ref a0_kept, .ref a0_isKept, .ref a0_clip, .ref a0_line, .int (iI a0_lineSize), .ref a0_read, .int (iI a0_readSize), .ref a0_opens, .ref a0_chains, .ref a0_factors, .ref a0_plains, .ref a0_belows, .ref a0_owned, .int (iI a0_deep), .ref a0_wides, .ref a0_highs, .ref a0_lows, .ref a0_itemWides, .ref a0_pile])), (a0_diary, .inl (cs.1, 2576, .inl (aI r7.2.1))), (a0_now, .inl (cs.1, 184, .inl (aI r7.2.2))), (a0_trial, .inl (cs.1, 184, .inl (aI z5.1)))] rfl ?_
      refine j_aload_n (pc := 58) 0 ok dX8_wrap_58 rfl rfl ?_
      refine gf_X8_13_8 (pc := 59) 0 ok rfl dX8_wrap_59 ?_
      refine j_sipush (pc := 62) ok dX8_wrap_62 (by decide) ?_
      refine j_iald (pc := 65) 2 ok rfl dX8_wrap_65 h (fun h => ?_)
      obtain rfl := Option.some.inj h
      exact fin _ 66 dX8_wrap_66
    · refine j_iconst (pc := 52) ok dX8_wrap_52 ?_
      obtain rfl := Option.some.inj h
      exact fin _ 53 dX8_wrap_53
  · refine j_if_ne (pc := 23) 30 ok dX8_wrap_23 (by decide) h (fun h => ?_) (fun h => ?_)
    · refine j_aload_n (pc := 30) 0 ok dX8_wrap_30 rfl rfl ?_
      refine gf_X8_16_8 (pc := 31) 0 ok rfl dX8_wrap_31 ?_
      refine j_iload_n (pc := 34) 1 ok dX8_wrap_34 rfl rfl ?_
      obtain ⟨r4, hr4, h⟩ := bd_inv h
      refine j_callS (pc := 35) ok (k_X8_wraps (a0 := a0_trial) (a0N := 184) (a0F := r1) (x1 := x1) hr4) gS_X8_240 hd_X8_wraps [3] (by decide) rfl rfl rfl rfl ⟨Nat.zero_le _, Nat.zero_le _⟩ (Nat.le_of_ble_eq_true rfl) dX8_wrap_35 rfl [(a0, .inr (8, [.int (iI a0_refusal), .ref a0_text, .int (iI a0_textSize), .ref a0_now, .ref a0_trial, .ref a0_diary, .int (iI a0_acts), .ref a0_kept, .ref a0_isKept, .ref a0_clip, .ref a0_line, .int (iI a0_lineSize), .ref a0_read, .int (iI a0_readSize), .ref a0_opens, .ref a0_chains, .ref a0_factors, .ref a0_plains, .ref a0_belows, .ref a0_owned, .int (iI a0_deep), .ref a0_wides, .ref a0_highs, .ref a0_lows, .ref a0_itemWides, .ref a0_pile])), (a0_diary, .inl (cs.1, 2576, .inl (aI a0_diaryF))), (a0_now, .inl (cs.1, 184, .inl (aI a0_nowF))), (a0_trial, .inl (cs.1, 184, .inl (aI r4.2)))] rfl ?_
      refine j_if_eq (pc := 38) 45 ok dX8_wrap_38 (by decide) h (fun h => ?_) (fun h => ?_)
      · refine j_iconst (pc := 45) ok dX8_wrap_45 ?_
        refine j_lv [0] rfl ?_
        exact hk3 (r4.2, 2) h
      · refine j_iconst (pc := 41) ok dX8_wrap_41 ?_
        refine j_goto (pc := 42) 46 ok dX8_wrap_42 (by decide) ?_
        refine j_lv [0] rfl ?_
        exact hk3 (r4.2, 0) h
    · refine j_iconst (pc := 26) ok dX8_wrap_26 ?_
      refine j_goto (pc := 27) 46 ok dX8_wrap_27 (by decide) ?_
      refine j_lv [0] rfl ?_
      exact hk3 (r1, 1) h
def f_X8_backspace (a0_refusal : Int) (a0_acts : Int) (a0_diaryF : (Nat → Int)) (a0_nowF : (Nat → Int)) (a0_trialF : (Nat → Int)) : Option (Int × Int × Int × (Nat → Int) × (Nat → Int) × (Nat → Int)) := bd (f_X8_copyPage 184 184 a0_nowF a0_trialF 0 0) (fun r1 => bd (f_X8_backs 184 r1) (fun r2 => jn (fun (z4 : Int) => bd (f_X8_refused a0_refusal z4) (fun r5 => cEq r5.1 0 (gIn 180 184 (bd (f_X8_allIn 184 a0_nowF 0 (a0_nowF (180 : Int).toNat)) (fun r6 => bd (f_X8_take a0_acts a0_diaryF a0_nowF r2.2) (fun r7 => gIn 180 184 (bd (f_X8_allIn 184 r7.2.2 0 (r7.2.2 (180 : Int).toNat)) (fun r8 => some (r6 - r8, r5.2, r7.1, r7.2.1, r7.2.2, r2.2))))))) (some (0, r5.2, a0_acts, a0_diaryF, a0_nowF, r2.2)))) (fun k3 => cEq r2.1 0 (k3 1) (k3 0))))
set_option maxRecDepth 100000 in
set_option maxHeartbeats 4000000 in
theorem k_X8_backspace {D : va_G} {cs : q_CS} {a0 a0_text a0_now a0_trial a0_diary a0_kept a0_isKept a0_clip a0_line a0_read a0_opens a0_chains a0_factors a0_plains a0_belows a0_owned a0_wides a0_highs a0_lows a0_itemWides a0_pile : Nat} {a0_refusal a0_textSize a0_acts a0_lineSize a0_readSize a0_deep : Int} {a0_diaryF a0_nowF a0_trialF : (Nat → Int)} {r : (Int × Int × Int × (Nat → Int) × (Nat → Int) × (Nat → Int))} (h : f_X8_backspace a0_refusal a0_acts a0_diaryF a0_nowF a0_trialF = some r) : q_M D cs yX8_backspace cX8_backspace 2 (some .int) 4 90 [.ref a0] [(a0, .inr (8, [.int (iI a0_refusal), .ref a0_text, .int (iI a0_textSize), .ref a0_now, .ref a0_trial, .ref a0_diary, .int (iI a0_acts), .ref a0_kept, .ref a0_isKept, .ref a0_clip, .ref a0_line, .int (iI a0_lineSize), .ref a0_read, .int (iI a0_readSize), .ref a0_opens, .ref a0_chains, .ref a0_factors, .ref a0_plains, .ref a0_belows, .ref a0_owned, .int (iI a0_deep), .ref a0_wides, .ref a0_highs, .ref a0_lows, .ref a0_itemWides, .ref a0_pile])), (a0_diary, .inl (cs.1, 2576, .inl (aI a0_diaryF))), (a0_now, .inl (cs.1, 184, .inl (aI a0_nowF))), (a0_trial, .inl (cs.1, 184, .inl (aI a0_trialF)))] (some (.int (iI r.1))) [(a0, .inr (8, [.int (iI r.2.1), .ref a0_text, .int (iI a0_textSize), .ref a0_now, .ref a0_trial, .ref a0_diary, .int (iI r.2.2.1), .ref a0_kept, .ref a0_isKept, .ref a0_clip, .ref a0_line, .int (iI a0_lineSize), .ref a0_read, .int (iI a0_readSize), .ref a0_opens, .ref a0_chains, .ref a0_factors, .ref a0_plains, .ref a0_belows, .ref a0_owned, .int (iI a0_deep), .ref a0_wides, .ref a0_highs, .ref a0_lows, .ref a0_itemWides, .ref a0_pile])), (a0_diary, .inl (cs.1, 2576, .inl (aI r.2.2.2.1))), (a0_now, .inl (cs.1, 184, .inl (aI r.2.2.2.2.1))), (a0_trial, .inl (cs.1, 184, .inl (aI r.2.2.2.2.2)))] := by
  refine q_start_i [(0, .ref a0)] RX8 rfl (by decide +kernel) rfl (Nat.le_of_ble_eq_true rfl) rfl (fun κ ok fin => ?_)
  unfold f_X8_backspace at h
  refine j_aload_n (pc := 0) 0 ok dX8_backspace_0 rfl rfl ?_
  refine gf_X8_13_8 (pc := 1) 0 ok rfl dX8_backspace_1 ?_
  refine j_iconst (pc := 4) ok dX8_backspace_4 ?_
  refine j_aload_n (pc := 5) 0 ok dX8_backspace_5 rfl rfl ?_
  refine gf_X8_16_8 (pc := 6) 0 ok rfl dX8_backspace_6 ?_
  refine j_iconst (pc := 9) ok dX8_backspace_9 ?_
  obtain ⟨r1, hr1, h⟩ := bd_inv h
  refine j_callS (pc := 10) ok (k_X8_copyPage (a0 := a0_now) (a0N := 184) (a2 := a0_trial) (a2N := 184) (a0F := a0_nowF) (a2F := a0_trialF) (x1 := 0) (x3 := 0) hr1) gS_X8_226 hd_X8_copyPage [2, 3] (by decide) rfl rfl rfl rfl ⟨Nat.zero_le _, Nat.zero_le _⟩ (Nat.le_of_ble_eq_true rfl) dX8_backspace_10 rfl [(a0, .inr (8, [.int (iI a0_refusal), .ref a0_text, .int (iI a0_textSize), .ref a0_now, .ref a0_trial, .ref a0_diary, .int (iI a0_acts), .ref a0_kept, .ref a0_isKept, .ref a0_clip, .ref a0_line, .int (iI a0_lineSize), .ref a0_read, .int (iI a0_readSize), .ref a0_opens, .ref a0_chains, .ref a0_factors, .ref a0_plains, .ref a0_belows, .ref a0_owned, .int (iI a0_deep), .ref a0_wides, .ref a0_highs, .ref a0_lows, .ref a0_itemWides, .ref a0_pile])), (a0_diary, .inl (cs.1, 2576, .inl (aI a0_diaryF))), (a0_now, .inl (cs.1, 184, .inl (aI a0_nowF))), (a0_trial, .inl (cs.1, 184, .inl (aI r1)))] rfl ?_
  refine j_aload_n (pc := 13) 0 ok dX8_backspace_13 rfl rfl ?_
  refine j_aload_n (pc := 14) 0 ok dX8_backspace_14 rfl rfl ?_
  refine gf_X8_16_8 (pc := 15) 0 ok rfl dX8_backspace_15 ?_
  obtain ⟨r2, hr2, h⟩ := bd_inv h
  refine j_callS (pc := 18) ok (k_X8_backs (a0 := a0_trial) (a0N := 184) (a0F := r1) hr2) gS_X8_243 hd_X8_backs [3] (by decide) rfl rfl rfl rfl ⟨Nat.zero_le _, Nat.zero_le _⟩ (Nat.le_of_ble_eq_true rfl) dX8_backspace_18 rfl [(a0, .inr (8, [.int (iI a0_refusal), .ref a0_text, .int (iI a0_textSize), .ref a0_now, .ref a0_trial, .ref a0_diary, .int (iI a0_acts), .ref a0_kept, .ref a0_isKept, .ref a0_clip, .ref a0_line, .int (iI a0_lineSize), .ref a0_read, .int (iI a0_readSize), .ref a0_opens, .ref a0_chains, .ref a0_factors, .ref a0_plains, .ref a0_belows, .ref a0_owned, .int (iI a0_deep), .ref a0_wides, .ref a0_highs, .ref a0_lows, .ref a0_itemWides, .ref a0_pile])), (a0_diary, .inl (cs.1, 2576, .inl (aI a0_diaryF))), (a0_now, .inl (cs.1, 184, .inl (aI a0_nowF))), (a0_trial, .inl (cs.1, 184, .inl (aI r2.2)))] rfl ?_
  refine jn_use (P := fun z4 => q_J D κ 2 0 0 [(a0, .inr (8, [.int (iI a0_refusal), .ref a0_text, .int (iI a0_textSize), .ref a0_now, .ref a0_trial, .ref a0_diary, .int (iI a0_acts), .ref a0_kept, .ref a0_isKept, .ref a0_clip, .ref a0_line, .int (iI a0_lineSize), .ref a0_read, .int (iI a0_readSize), .ref a0_opens, .ref a0_chains, .ref a0_factors, .ref a0_plains, .ref a0_belows, .ref a0_owned, .int (iI a0_deep), .ref a0_wides, .ref a0_highs, .ref a0_lows, .ref a0_itemWides, .ref a0_pile])), (a0_diary, .inl (cs.1, 2576, .inl (aI a0_diaryF))), (a0_now, .inl (cs.1, 184, .inl (aI a0_nowF))), (a0_trial, .inl (cs.1, 184, .inl (aI r2.2)))] [(0, .ref a0)] 29 [.int (iI z4), .ref a0]) h (fun z4 h => ?_) (fun k3 hk3 h => ?_)
  · obtain ⟨r5, hr5, h⟩ := bd_inv h
    refine j_callV (pc := 29) ok (k_X8_refused (a0 := a0) (a0_text := a0_text) (a0_now := a0_now) (a0_trial := a0_trial) (a0_diary := a0_diary) (a0_kept := a0_kept) (a0_isKept := a0_isKept) (a0_clip := a0_clip) (a0_line := a0_line) (a0_read := a0_read) (a0_opens := a0_opens) (a0_chains := a0_chains) (a0_factors := a0_factors) (a0_plains := a0_plains) (a0_belows := a0_belows) (a0_owned := a0_owned) (a0_wides := a0_wides) (a0_highs := a0_highs) (a0_lows := a0_lows) (a0_itemWides := a0_itemWides) (a0_pile := a0_pile) (a0_refusal := a0_refusal) (a0_textSize := a0_textSize) (a0_acts := a0_acts) (a0_lineSize := a0_lineSize) (a0_readSize := a0_readSize) (a0_deep := a0_deep) (x1 := z4) hr5) gV_X8_150 ⟨rfl, hd_X8_refused⟩ [0] (by decide) rfl rfl 0 rfl rfl rfl rfl ⟨Nat.zero_le _, Nat.zero_le _⟩ (Nat.le_of_ble_eq_true rfl) dX8_backspace_29 rfl [(a0, .inr (8, [.int (iI r5.2), .ref a0_text, .int (iI a0_textSize), .ref a0_now, .ref a0_trial, .ref a0_diary, .int (iI a0_acts), .ref a0_kept, .ref a0_isKept, .ref a0_clip, .ref a0_line, .int (iI a0_lineSize), .ref a0_read, .int (iI a0_readSize), .ref a0_opens, .ref a0_chains, .ref a0_factors, .ref a0_plains, .ref a0_belows, .ref a0_owned, .int (iI a0_deep), .ref a0_wides, .ref a0_highs, .ref a0_lows, .ref a0_itemWides, .ref a0_pile])), (a0_diary, .inl (cs.1, 2576, .inl (aI a0_diaryF))), (a0_now, .inl (cs.1, 184, .inl (aI a0_nowF))), (a0_trial, .inl (cs.1, 184, .inl (aI r2.2)))] rfl ?_
    refine j_if_eq (pc := 32) 37 ok dX8_backspace_32 (by decide) h (fun h => ?_) (fun h => ?_)
    · refine j_aload_n (pc := 37) 0 ok dX8_backspace_37 rfl rfl ?_
      refine gf_X8_13_8 (pc := 38) 0 ok rfl dX8_backspace_38 ?_
      refine j_iconst (pc := 41) ok dX8_backspace_41 ?_
      refine j_aload_n (pc := 42) 0 ok dX8_backspace_42 rfl rfl ?_
      refine gf_X8_13_8 (pc := 43) 0 ok rfl dX8_backspace_43 ?_
      refine j_sipush (pc := 46) ok dX8_backspace_46 (by decide) ?_
      refine j_iald (pc := 49) 2 ok rfl dX8_backspace_49 h (fun h => ?_)
      obtain ⟨r6, hr6, h⟩ := bd_inv h
      refine j_callS (pc := 50) ok (k_X8_allIn (a0 := a0_now) (a0N := 184) (a0F := a0_nowF) (x1 := 0) (x2 := a0_nowF (180 : Int).toNat) hr6) gS_X8_114 hd_X8_allIn [2] (by decide) rfl rfl rfl rfl ⟨Nat.zero_le _, Nat.zero_le _⟩ (Nat.le_of_ble_eq_true rfl) dX8_backspace_50 rfl [(a0, .inr (8, [.int (iI r5.2), .ref a0_text, .int (iI a0_textSize), .ref a0_now, .ref a0_trial, .ref a0_diary, .int (iI a0_acts), .ref a0_kept, .ref a0_isKept, .ref a0_clip, .ref a0_line, .int (iI a0_lineSize), .ref a0_read, .int (iI a0_readSize), .ref a0_opens, .ref a0_chains, .ref a0_factors, .ref a0_plains, .ref a0_belows, .ref a0_owned, .int (iI a0_deep), .ref a0_wides, .ref a0_highs, .ref a0_lows, .ref a0_itemWides, .ref a0_pile])), (a0_diary, .inl (cs.1, 2576, .inl (aI a0_diaryF))), (a0_now, .inl (cs.1, 184, .inl (aI a0_nowF))), (a0_trial, .inl (cs.1, 184, .inl (aI r2.2)))] rfl ?_
      refine j_istore_n (pc := 53) (lv' := [(1, .int (iI r6)), (0, .ref a0)]) ok dX8_backspace_53 rfl (by decide) rfl ?_
      refine j_aload_n (pc := 54) 1 ok dX8_backspace_54 rfl rfl ?_
      obtain ⟨r7, hr7, h⟩ := bd_inv h
      refine j_callV (pc := 55) ok (k_X8_take (a0 := a0) (a0_text := a0_text) (a0_now := a0_now) (a0_trial := a0_trial) (a0_diary := a0_diary) (a0_kept := a0_kept) (a0_isKept := a0_isKept) (a0_clip := a0_clip) (a0_line := a0_line) (a0_read := a0_read) (a0_opens := a0_opens) (a0_chains := a0_chains) (a0_factors := a0_factors) (a0_plains := a0_plains) (a0_belows := a0_belows) (a0_owned := a0_owned) (a0_wides := a0_wides) (a0_highs := a0_highs) (a0_lows := a0_lows) (a0_itemWides := a0_itemWides) (a0_pile := a0_pile) (a0_refusal := r5.2) (a0_textSize := a0_textSize) (a0_acts := a0_acts) (a0_lineSize := a0_lineSize) (a0_readSize := a0_readSize) (a0_deep := a0_deep) (a0_diaryF := a0_diaryF) (a0_nowF := a0_nowF) (a0_trialF := r2.2) hr7) gV_X8_237 ⟨rfl, hd_X8_take⟩ [0, 1, 2, 3] (by decide) rfl rfl 0 rfl rfl rfl rfl ⟨Nat.zero_le _, Nat.zero_le _⟩ (Nat.le_of_ble_eq_true rfl) dX8_backspace_55 rfl [(a0, .inr (8, [.int (iI r5.2), .ref a0_text, .int (iI a0_textSize), .ref a0_now, .ref a0_trial, .ref a0_diary, .int (iI r7.1), .ref a0_kept, .ref a0_isKept, .ref a0_clip, .ref a0_line, .int (iI a0_lineSize), .ref a0_read, .int (iI a0_readSize), .ref a0_opens, .ref a0_chains, .ref a0_factors, .ref a0_plains, .ref a0_belows, .ref a0_owned, .int (iI a0_deep), .ref a0_wides, .ref a0_highs, .ref a0_lows, .ref a0_itemWides, .ref a0_pile])), (a0_diary, .inl (cs.1, 2576, .inl (aI r7.2.1))), (a0_now, .inl (cs.1, 184, .inl (aI r7.2.2))), (a0_trial, .inl (cs.1, 184, .inl (aI r2.2)))] rfl ?_
      refine j_iload_n (pc := 58) 0 ok dX8_backspace_58 rfl rfl ?_
      refine j_aload_n (pc := 59) 1 ok dX8_backspace_59 rfl rfl ?_
      refine gf_X8_13_8 (pc := 60) 0 ok rfl dX8_backspace_60 ?_
      refine j_iconst (pc := 63) ok dX8_backspace_63 ?_
      refine j_aload_n (pc := 64) 1 ok dX8_backspace_64 rfl rfl ?_
      refine gf_X8_13_8 (pc := 65) 0 ok rfl dX8_backspace_65 ?_
      refine j_sipush (pc := 68) ok dX8_backspace_68 (by decide) ?_
      refine j_iald (pc := 71) 2 ok rfl dX8_backspace_71 h (fun h => ?_)
      obtain ⟨r8, hr8, h⟩ := bd_inv h
      refine j_callS (pc := 72) ok (k_X8_allIn (a0 := a0_now) (a0N := 184) (a0F := r7.2.2) (x1 := 0) (x2 := r7.2.2 (180 : Int).toNat) hr8) gS_X8_114 hd_X8_allIn [2] (by decide) rfl rfl rfl rfl ⟨Nat.zero_le _, Nat.zero_le _⟩ (Nat.le_of_ble_eq_true rfl) dX8_backspace_72 rfl [(a0, .inr (8, [.int (iI r5.2), .ref a0_text, .int (iI a0_textSize), .ref a0_now, .ref a0_trial, .ref a0_diary, .int (iI r7.1), .ref a0_kept, .ref a0_isKept, .ref a0_clip, .ref a0_line, .int (iI a0_lineSize), .ref a0_read, .int (iI a0_readSize), .ref a0_opens, .ref a0_chains, .ref a0_factors, .ref a0_plains, .ref a0_belows, .ref a0_owned, .int (iI a0_deep), .ref a0_wides, .ref a0_highs, .ref a0_lows, .ref a0_itemWides, .ref a0_pile])), (a0_diary, .inl (cs.1, 2576, .inl (aI r7.2.1))), (a0_now, .inl (cs.1, 184, .inl (aI r7.2.2))), (a0_trial, .inl (cs.1, 184, .inl (aI r2.2)))] rfl ?_
      refine j_isub (pc := 75) ok dX8_backspace_75 ?_
      obtain rfl := Option.some.inj h
      exact fin _ 76 dX8_backspace_76
    · refine j_iconst (pc := 35) ok dX8_backspace_35 ?_
      obtain rfl := Option.some.inj h
      exact fin _ 36 dX8_backspace_36
  · refine j_if_eq (pc := 21) 28 ok dX8_backspace_21 (by decide) h (fun h => ?_) (fun h => ?_)
    · refine j_iconst (pc := 28) ok dX8_backspace_28 ?_
      exact hk3 1 h
    · refine j_iconst (pc := 24) ok dX8_backspace_24 ?_
      refine j_goto (pc := 25) 29 ok dX8_backspace_25 (by decide) ?_
      exact hk3 0 h
def f_X8_paste_131 (a0_clipF : (Nat → Int)) (e131_182 : (Nat → Int) × Int → Option (Int × Int × Int × (Nat → Int) × (Nat → Int) × (Nat → Int))) : Nat → (Nat → Int) → Int → Option (Int × Int × Int × (Nat → Int) × (Nat → Int) × (Nat → Int))
  | 0, _, _ => none
  | n + 1, a0_trialF, y2 => gIn 180 184 (cLt y2 (a0_clipF (180 : Int).toNat) (gIn 181 184 (gIn y2 184 (bd (f_X8_put 184 a0_trialF (a0_trialF (181 : Int).toNat) (a0_clipF y2.toNat)) (fun r16 => gIn 181 184 (gIn 181 184 (f_X8_paste_131 a0_clipF e131_182 n (va_up r16 (181 : Int).toNat ((r16 (181 : Int).toNat) + 1)) (y2 + 1))))))) (e131_182 (a0_trialF, y2)))
set_option maxRecDepth 100000 in
theorem l_X8_paste_131 {D : va_G} {cs : q_CS} {κ : q_X} {a0 a0_text a0_now a0_trial a0_diary a0_kept a0_isKept a0_clip a0_line a0_read a0_opens a0_chains a0_factors a0_plains a0_belows a0_owned a0_wides a0_highs a0_lows a0_itemWides a0_pile : Nat} {a0_refusal a0_textSize a0_acts a0_lineSize a0_readSize a0_deep : Int} {a0_clipF a0_diaryF a0_nowF : (Nat → Int)} {r : (Int × Int × Int × (Nat → Int) × (Nat → Int) × (Nat → Int))} {e131_182 : (Nat → Int) × Int → Option (Int × Int × Int × (Nat → Int) × (Nat → Int) × (Nat → Int))} (ok : q_ok D cs κ cX8_paste 3 RX8 (q_rm 3 65)) (fin : ∀ (lv : List (Nat × Value)) (pc : Nat), decode cX8_paste pc = .ok (.ireturn, 1) → q_J D κ 3 0 0 [(a0, .inr (8, [.int (iI r.2.1), .ref a0_text, .int (iI a0_textSize), .ref a0_now, .ref a0_trial, .ref a0_diary, .int (iI r.2.2.1), .ref a0_kept, .ref a0_isKept, .ref a0_clip, .ref a0_line, .int (iI a0_lineSize), .ref a0_read, .int (iI a0_readSize), .ref a0_opens, .ref a0_chains, .ref a0_factors, .ref a0_plains, .ref a0_belows, .ref a0_owned, .int (iI a0_deep), .ref a0_wides, .ref a0_highs, .ref a0_lows, .ref a0_itemWides, .ref a0_pile])), (a0_clip, .inl (cs.1, 184, .inl (aI a0_clipF))), (a0_diary, .inl (cs.1, 2576, .inl (aI r.2.2.2.1))), (a0_now, .inl (cs.1, 184, .inl (aI r.2.2.2.2.1))), (a0_trial, .inl (cs.1, 184, .inl (aI r.2.2.2.2.2)))] lv pc [.int (iI r.1)]) (he131_182 : ∀ x : (Nat → Int) × Int, e131_182 x = some r → q_J D κ 3 0 0 [(a0, .inr (8, [.int (iI a0_refusal), .ref a0_text, .int (iI a0_textSize), .ref a0_now, .ref a0_trial, .ref a0_diary, .int (iI a0_acts), .ref a0_kept, .ref a0_isKept, .ref a0_clip, .ref a0_line, .int (iI a0_lineSize), .ref a0_read, .int (iI a0_readSize), .ref a0_opens, .ref a0_chains, .ref a0_factors, .ref a0_plains, .ref a0_belows, .ref a0_owned, .int (iI a0_deep), .ref a0_wides, .ref a0_highs, .ref a0_lows, .ref a0_itemWides, .ref a0_pile])), (a0_clip, .inl (cs.1, 184, .inl (aI a0_clipF))), (a0_diary, .inl (cs.1, 2576, .inl (aI a0_diaryF))), (a0_now, .inl (cs.1, 184, .inl (aI a0_nowF))), (a0_trial, .inl (cs.1, 184, .inl (aI x.1)))] [(0, .ref a0)] 182 []) : ∀ (n : Nat) (a0_trialF : (Nat → Int)) (y2 : Int), f_X8_paste_131 a0_clipF e131_182 n a0_trialF y2 = some r → q_J D κ 3 0 0 [(a0, .inr (8, [.int (iI a0_refusal), .ref a0_text, .int (iI a0_textSize), .ref a0_now, .ref a0_trial, .ref a0_diary, .int (iI a0_acts), .ref a0_kept, .ref a0_isKept, .ref a0_clip, .ref a0_line, .int (iI a0_lineSize), .ref a0_read, .int (iI a0_readSize), .ref a0_opens, .ref a0_chains, .ref a0_factors, .ref a0_plains, .ref a0_belows, .ref a0_owned, .int (iI a0_deep), .ref a0_wides, .ref a0_highs, .ref a0_lows, .ref a0_itemWides, .ref a0_pile])), (a0_clip, .inl (cs.1, 184, .inl (aI a0_clipF))), (a0_diary, .inl (cs.1, 2576, .inl (aI a0_diaryF))), (a0_now, .inl (cs.1, 184, .inl (aI a0_nowF))), (a0_trial, .inl (cs.1, 184, .inl (aI a0_trialF)))] [(0, .ref a0), (2, .int (iI y2))] 131 [] := by
  intro n
  induction n with
  | zero =>
    intro a0_trialF y2 h
    exact absurd h (by unfold f_X8_paste_131; exact fun z => by cases z)
  | succ n ih =>
    intro a0_trialF y2 h
    unfold f_X8_paste_131 at h
    refine j_iload_n (pc := 131) 1 ok dX8_paste_131 rfl rfl ?_
    refine j_aload_n (pc := 132) 0 ok dX8_paste_132 rfl rfl ?_
    refine gf_X8_29_8 (pc := 133) 0 ok rfl dX8_paste_133 ?_
    refine j_sipush (pc := 136) ok dX8_paste_136 (by decide) ?_
    refine j_iald (pc := 139) 1 ok rfl dX8_paste_139 h (fun h => ?_)
    refine j_icmp_ge (pc := 140) 182 ok dX8_paste_140 (by decide) h (fun h => ?_) (fun h => ?_)
    · refine j_lv [0] rfl ?_
      exact he131_182 (a0_trialF, y2) h
    · refine j_aload_n (pc := 143) 0 ok dX8_paste_143 rfl rfl ?_
      refine gf_X8_16_8 (pc := 144) 0 ok rfl dX8_paste_144 ?_
      refine j_aload_n (pc := 147) 0 ok dX8_paste_147 rfl rfl ?_
      refine gf_X8_16_8 (pc := 148) 0 ok rfl dX8_paste_148 ?_
      refine j_sipush (pc := 151) ok dX8_paste_151 (by decide) ?_
      refine j_iald (pc := 154) 4 ok rfl dX8_paste_154 h (fun h => ?_)
      refine j_aload_n (pc := 155) 0 ok dX8_paste_155 rfl rfl ?_
      refine gf_X8_29_8 (pc := 156) 0 ok rfl dX8_paste_156 ?_
      refine j_iload_n (pc := 159) 1 ok dX8_paste_159 rfl rfl ?_
      refine j_iald (pc := 160) 1 ok rfl dX8_paste_160 h (fun h => ?_)
      obtain ⟨r16, hr16, h⟩ := bd_inv h
      refine j_callS (pc := 161) ok (k_X8_put (a0 := a0_trial) (a0N := 184) (a0F := a0_trialF) (x1 := a0_trialF (181 : Int).toNat) (x2 := a0_clipF y2.toNat) hr16) gS_X8_125 hd_X8_put [4] (by decide) rfl rfl rfl rfl ⟨Nat.zero_le _, Nat.zero_le _⟩ (Nat.le_of_ble_eq_true rfl) dX8_paste_161 rfl [(a0, .inr (8, [.int (iI a0_refusal), .ref a0_text, .int (iI a0_textSize), .ref a0_now, .ref a0_trial, .ref a0_diary, .int (iI a0_acts), .ref a0_kept, .ref a0_isKept, .ref a0_clip, .ref a0_line, .int (iI a0_lineSize), .ref a0_read, .int (iI a0_readSize), .ref a0_opens, .ref a0_chains, .ref a0_factors, .ref a0_plains, .ref a0_belows, .ref a0_owned, .int (iI a0_deep), .ref a0_wides, .ref a0_highs, .ref a0_lows, .ref a0_itemWides, .ref a0_pile])), (a0_clip, .inl (cs.1, 184, .inl (aI a0_clipF))), (a0_diary, .inl (cs.1, 2576, .inl (aI a0_diaryF))), (a0_now, .inl (cs.1, 184, .inl (aI a0_nowF))), (a0_trial, .inl (cs.1, 184, .inl (aI r16)))] rfl ?_
      refine j_aload_n (pc := 164) 0 ok dX8_paste_164 rfl rfl ?_
      refine gf_X8_16_8 (pc := 165) 0 ok rfl dX8_paste_165 ?_
      refine j_sipush (pc := 168) ok dX8_paste_168 (by decide) ?_
      refine j_dup2 (pc := 171) ok dX8_paste_171 rfl rfl ?_
      refine j_iald (pc := 172) 4 ok rfl dX8_paste_172 h (fun h => ?_)
      refine j_iconst (pc := 173) ok dX8_paste_173 ?_
      refine j_iadd (pc := 174) ok dX8_paste_174 ?_
      refine j_iastw (pc := 175) 4 ok rfl dX8_paste_175 h [(a0, .inr (8, [.int (iI a0_refusal), .ref a0_text, .int (iI a0_textSize), .ref a0_now, .ref a0_trial, .ref a0_diary, .int (iI a0_acts), .ref a0_kept, .ref a0_isKept, .ref a0_clip, .ref a0_line, .int (iI a0_lineSize), .ref a0_read, .int (iI a0_readSize), .ref a0_opens, .ref a0_chains, .ref a0_factors, .ref a0_plains, .ref a0_belows, .ref a0_owned, .int (iI a0_deep), .ref a0_wides, .ref a0_highs, .ref a0_lows, .ref a0_itemWides, .ref a0_pile])), (a0_clip, .inl (cs.1, 184, .inl (aI a0_clipF))), (a0_diary, .inl (cs.1, 2576, .inl (aI a0_diaryF))), (a0_now, .inl (cs.1, 184, .inl (aI a0_nowF))), (a0_trial, .inl (cs.1, 184, .inl (aI (va_up r16 (181 : Int).toNat ((r16 (181 : Int).toNat) + 1)))))] rfl (fun h => ?_)
      refine j_iinc (pc := 176) (lv' := [(2, .int (iI (y2 + 1))), (0, .ref a0)]) 1 ok dX8_paste_176 rfl (by decide) rfl ?_
      refine j_goto (pc := 179) 131 ok dX8_paste_179 (by decide) ?_
      refine j_lv [1, 0] rfl ?_
      exact ih _ _ h
def f_X8_paste (a0_refusal : Int) (a0_acts : Int) (a0_clipF : (Nat → Int)) (a0_diaryF : (Nat → Int)) (a0_nowF : (Nat → Int)) (a0_trialF : (Nat → Int)) : Option (Int × Int × Int × (Nat → Int) × (Nat → Int) × (Nat → Int)) := bd (f_X8_copyPage 184 184 a0_nowF a0_trialF 0 0) (fun r1 => bd (f_X8_clear 184 r1) (fun r2 => gIn 180 184 (bd (f_X8_allIn 184 r2 0 (r2 (180 : Int).toNat)) (fun r3 => gIn 180 184 (bd (f_X8_allIn 184 a0_clipF 0 (a0_clipF (180 : Int).toNat)) (fun r4 => jn (fun (z10 : Int) => gIn 180 184 (jn (fun (z14 : Int) => bd (f_X8_refused a0_refusal z14) (fun r15 => cEq r15.1 0 (f_X8_paste_131 a0_clipF (fun (z17 : (Nat → Int) × Int) => bd (f_X8_take a0_acts a0_diaryF a0_nowF z17.1) (fun r18 => gIn 180 184 (bd (f_X8_allIn 184 r18.2.2 0 (r18.2.2 (180 : Int).toNat)) (fun r19 => some (r19, r15.2, r18.1, r18.2.1, r18.2.2, z17.1))))) fuel r2 0) (some (0, r15.2, a0_acts, a0_diaryF, a0_nowF, r2)))) (fun k12 => jn (fun (z13 : Unit) => k12 1) (fun k11 => cLt 0 (a0_clipF (180 : Int).toNat) (cEq z10 0 (k11 ()) (k12 0)) (k11 ()))))) (fun k6 => jn (fun (z9 : Unit) => k6 0) (fun k5 => cLt 60 (r3 + r4) (k5 ()) (gIn 181 184 (bd (f_X8_levelAt 184 r2 (r2 (181 : Int).toNat)) (fun r7 => gIn 180 184 (bd (f_X8_deepest 184 a0_clipF 0 (a0_clipF (180 : Int).toNat)) (fun r8 => cLt 5 (r7 + r8) (k5 ()) (k6 1))))))))))))))
set_option maxRecDepth 100000 in
set_option maxHeartbeats 4000000 in
theorem k_X8_paste {D : va_G} {cs : q_CS} {a0 a0_text a0_now a0_trial a0_diary a0_kept a0_isKept a0_clip a0_line a0_read a0_opens a0_chains a0_factors a0_plains a0_belows a0_owned a0_wides a0_highs a0_lows a0_itemWides a0_pile : Nat} {a0_refusal a0_textSize a0_acts a0_lineSize a0_readSize a0_deep : Int} {a0_clipF a0_diaryF a0_nowF a0_trialF : (Nat → Int)} {r : (Int × Int × Int × (Nat → Int) × (Nat → Int) × (Nat → Int))} (h : f_X8_paste a0_refusal a0_acts a0_clipF a0_diaryF a0_nowF a0_trialF = some r) : q_M D cs yX8_paste cX8_paste 3 (some .int) 3 65 [.ref a0] [(a0, .inr (8, [.int (iI a0_refusal), .ref a0_text, .int (iI a0_textSize), .ref a0_now, .ref a0_trial, .ref a0_diary, .int (iI a0_acts), .ref a0_kept, .ref a0_isKept, .ref a0_clip, .ref a0_line, .int (iI a0_lineSize), .ref a0_read, .int (iI a0_readSize), .ref a0_opens, .ref a0_chains, .ref a0_factors, .ref a0_plains, .ref a0_belows, .ref a0_owned, .int (iI a0_deep), .ref a0_wides, .ref a0_highs, .ref a0_lows, .ref a0_itemWides, .ref a0_pile])), (a0_clip, .inl (cs.1, 184, .inl (aI a0_clipF))), (a0_diary, .inl (cs.1, 2576, .inl (aI a0_diaryF))), (a0_now, .inl (cs.1, 184, .inl (aI a0_nowF))), (a0_trial, .inl (cs.1, 184, .inl (aI a0_trialF)))] (some (.int (iI r.1))) [(a0, .inr (8, [.int (iI r.2.1), .ref a0_text, .int (iI a0_textSize), .ref a0_now, .ref a0_trial, .ref a0_diary, .int (iI r.2.2.1), .ref a0_kept, .ref a0_isKept, .ref a0_clip, .ref a0_line, .int (iI a0_lineSize), .ref a0_read, .int (iI a0_readSize), .ref a0_opens, .ref a0_chains, .ref a0_factors, .ref a0_plains, .ref a0_belows, .ref a0_owned, .int (iI a0_deep), .ref a0_wides, .ref a0_highs, .ref a0_lows, .ref a0_itemWides, .ref a0_pile])), (a0_clip, .inl (cs.1, 184, .inl (aI a0_clipF))), (a0_diary, .inl (cs.1, 2576, .inl (aI r.2.2.2.1))), (a0_now, .inl (cs.1, 184, .inl (aI r.2.2.2.2.1))), (a0_trial, .inl (cs.1, 184, .inl (aI r.2.2.2.2.2)))] := by
  refine q_start_i [(0, .ref a0)] RX8 rfl (by decide +kernel) rfl (Nat.le_of_ble_eq_true rfl) rfl (fun κ ok fin => ?_)
  unfold f_X8_paste at h
  refine j_aload_n (pc := 0) 0 ok dX8_paste_0 rfl rfl ?_
  refine gf_X8_13_8 (pc := 1) 0 ok rfl dX8_paste_1 ?_
  refine j_iconst (pc := 4) ok dX8_paste_4 ?_
  refine j_aload_n (pc := 5) 0 ok dX8_paste_5 rfl rfl ?_
  refine gf_X8_16_8 (pc := 6) 0 ok rfl dX8_paste_6 ?_
  refine j_iconst (pc := 9) ok dX8_paste_9 ?_
  obtain ⟨r1, hr1, h⟩ := bd_inv h
  refine j_callS (pc := 10) ok (k_X8_copyPage (a0 := a0_now) (a0N := 184) (a2 := a0_trial) (a2N := 184) (a0F := a0_nowF) (a2F := a0_trialF) (x1 := 0) (x3 := 0) hr1) gS_X8_226 hd_X8_copyPage [3, 4] (by decide) rfl rfl rfl rfl ⟨Nat.zero_le _, Nat.zero_le _⟩ (Nat.le_of_ble_eq_true rfl) dX8_paste_10 rfl [(a0, .inr (8, [.int (iI a0_refusal), .ref a0_text, .int (iI a0_textSize), .ref a0_now, .ref a0_trial, .ref a0_diary, .int (iI a0_acts), .ref a0_kept, .ref a0_isKept, .ref a0_clip, .ref a0_line, .int (iI a0_lineSize), .ref a0_read, .int (iI a0_readSize), .ref a0_opens, .ref a0_chains, .ref a0_factors, .ref a0_plains, .ref a0_belows, .ref a0_owned, .int (iI a0_deep), .ref a0_wides, .ref a0_highs, .ref a0_lows, .ref a0_itemWides, .ref a0_pile])), (a0_clip, .inl (cs.1, 184, .inl (aI a0_clipF))), (a0_diary, .inl (cs.1, 2576, .inl (aI a0_diaryF))), (a0_now, .inl (cs.1, 184, .inl (aI a0_nowF))), (a0_trial, .inl (cs.1, 184, .inl (aI r1)))] rfl ?_
  refine j_aload_n (pc := 13) 0 ok dX8_paste_13 rfl rfl ?_
  refine gf_X8_16_8 (pc := 14) 0 ok rfl dX8_paste_14 ?_
  obtain ⟨r2, hr2, h⟩ := bd_inv h
  refine j_callS (pc := 17) ok (k_X8_clear (a0 := a0_trial) (a0N := 184) (a0F := r1) hr2) gS_X8_121 hd_X8_clear [4] (by decide) rfl rfl rfl rfl ⟨Nat.zero_le _, Nat.zero_le _⟩ (Nat.le_of_ble_eq_true rfl) dX8_paste_17 rfl [(a0, .inr (8, [.int (iI a0_refusal), .ref a0_text, .int (iI a0_textSize), .ref a0_now, .ref a0_trial, .ref a0_diary, .int (iI a0_acts), .ref a0_kept, .ref a0_isKept, .ref a0_clip, .ref a0_line, .int (iI a0_lineSize), .ref a0_read, .int (iI a0_readSize), .ref a0_opens, .ref a0_chains, .ref a0_factors, .ref a0_plains, .ref a0_belows, .ref a0_owned, .int (iI a0_deep), .ref a0_wides, .ref a0_highs, .ref a0_lows, .ref a0_itemWides, .ref a0_pile])), (a0_clip, .inl (cs.1, 184, .inl (aI a0_clipF))), (a0_diary, .inl (cs.1, 2576, .inl (aI a0_diaryF))), (a0_now, .inl (cs.1, 184, .inl (aI a0_nowF))), (a0_trial, .inl (cs.1, 184, .inl (aI r2)))] rfl ?_
  refine j_aload_n (pc := 20) 0 ok dX8_paste_20 rfl rfl ?_
  refine gf_X8_16_8 (pc := 21) 0 ok rfl dX8_paste_21 ?_
  refine j_iconst (pc := 24) ok dX8_paste_24 ?_
  refine j_aload_n (pc := 25) 0 ok dX8_paste_25 rfl rfl ?_
  refine gf_X8_16_8 (pc := 26) 0 ok rfl dX8_paste_26 ?_
  refine j_sipush (pc := 29) ok dX8_paste_29 (by decide) ?_
  refine j_iald (pc := 32) 4 ok rfl dX8_paste_32 h (fun h => ?_)
  obtain ⟨r3, hr3, h⟩ := bd_inv h
  refine j_callS (pc := 33) ok (k_X8_allIn (a0 := a0_trial) (a0N := 184) (a0F := r2) (x1 := 0) (x2 := r2 (180 : Int).toNat) hr3) gS_X8_114 hd_X8_allIn [4] (by decide) rfl rfl rfl rfl ⟨Nat.zero_le _, Nat.zero_le _⟩ (Nat.le_of_ble_eq_true rfl) dX8_paste_33 rfl [(a0, .inr (8, [.int (iI a0_refusal), .ref a0_text, .int (iI a0_textSize), .ref a0_now, .ref a0_trial, .ref a0_diary, .int (iI a0_acts), .ref a0_kept, .ref a0_isKept, .ref a0_clip, .ref a0_line, .int (iI a0_lineSize), .ref a0_read, .int (iI a0_readSize), .ref a0_opens, .ref a0_chains, .ref a0_factors, .ref a0_plains, .ref a0_belows, .ref a0_owned, .int (iI a0_deep), .ref a0_wides, .ref a0_highs, .ref a0_lows, .ref a0_itemWides, .ref a0_pile])), (a0_clip, .inl (cs.1, 184, .inl (aI a0_clipF))), (a0_diary, .inl (cs.1, 2576, .inl (aI a0_diaryF))), (a0_now, .inl (cs.1, 184, .inl (aI a0_nowF))), (a0_trial, .inl (cs.1, 184, .inl (aI r2)))] rfl ?_
  refine j_aload_n (pc := 36) 0 ok dX8_paste_36 rfl rfl ?_
  refine gf_X8_29_8 (pc := 37) 0 ok rfl dX8_paste_37 ?_
  refine j_iconst (pc := 40) ok dX8_paste_40 ?_
  refine j_aload_n (pc := 41) 0 ok dX8_paste_41 rfl rfl ?_
  refine gf_X8_29_8 (pc := 42) 0 ok rfl dX8_paste_42 ?_
  refine j_sipush (pc := 45) ok dX8_paste_45 (by decide) ?_
  refine j_iald (pc := 48) 1 ok rfl dX8_paste_48 h (fun h => ?_)
  obtain ⟨r4, hr4, h⟩ := bd_inv h
  refine j_callS (pc := 49) ok (k_X8_allIn (a0 := a0_clip) (a0N := 184) (a0F := a0_clipF) (x1 := 0) (x2 := a0_clipF (180 : Int).toNat) hr4) gS_X8_114 hd_X8_allIn [1] (by decide) rfl rfl rfl rfl ⟨Nat.zero_le _, Nat.zero_le _⟩ (Nat.le_of_ble_eq_true rfl) dX8_paste_49 rfl [(a0, .inr (8, [.int (iI a0_refusal), .ref a0_text, .int (iI a0_textSize), .ref a0_now, .ref a0_trial, .ref a0_diary, .int (iI a0_acts), .ref a0_kept, .ref a0_isKept, .ref a0_clip, .ref a0_line, .int (iI a0_lineSize), .ref a0_read, .int (iI a0_readSize), .ref a0_opens, .ref a0_chains, .ref a0_factors, .ref a0_plains, .ref a0_belows, .ref a0_owned, .int (iI a0_deep), .ref a0_wides, .ref a0_highs, .ref a0_lows, .ref a0_itemWides, .ref a0_pile])), (a0_clip, .inl (cs.1, 184, .inl (aI a0_clipF))), (a0_diary, .inl (cs.1, 2576, .inl (aI a0_diaryF))), (a0_now, .inl (cs.1, 184, .inl (aI a0_nowF))), (a0_trial, .inl (cs.1, 184, .inl (aI r2)))] rfl ?_
  refine j_iadd (pc := 52) ok dX8_paste_52 ?_
  refine j_bipush (pc := 53) ok dX8_paste_53 (by decide) ?_
  refine jn_use (P := fun z10 => q_J D κ 3 0 0 [(a0, .inr (8, [.int (iI a0_refusal), .ref a0_text, .int (iI a0_textSize), .ref a0_now, .ref a0_trial, .ref a0_diary, .int (iI a0_acts), .ref a0_kept, .ref a0_isKept, .ref a0_clip, .ref a0_line, .int (iI a0_lineSize), .ref a0_read, .int (iI a0_readSize), .ref a0_opens, .ref a0_chains, .ref a0_factors, .ref a0_plains, .ref a0_belows, .ref a0_owned, .int (iI a0_deep), .ref a0_wides, .ref a0_highs, .ref a0_lows, .ref a0_itemWides, .ref a0_pile])), (a0_clip, .inl (cs.1, 184, .inl (aI a0_clipF))), (a0_diary, .inl (cs.1, 2576, .inl (aI a0_diaryF))), (a0_now, .inl (cs.1, 184, .inl (aI a0_nowF))), (a0_trial, .inl (cs.1, 184, .inl (aI r2)))] [(0, .ref a0)] 99 [.int (iI z10)]) h (fun z10 h => ?_) (fun k6 hk6 h => ?_)
  · refine j_istore_n (pc := 99) (lv' := [(1, .int (iI z10)), (0, .ref a0)]) ok dX8_paste_99 rfl (by decide) rfl ?_
    refine j_aload_n (pc := 100) 1 ok dX8_paste_100 rfl rfl ?_
    refine j_aload_n (pc := 101) 1 ok dX8_paste_101 rfl rfl ?_
    refine gf_X8_29_8 (pc := 102) 0 ok rfl dX8_paste_102 ?_
    refine j_sipush (pc := 105) ok dX8_paste_105 (by decide) ?_
    refine j_iald (pc := 108) 1 ok rfl dX8_paste_108 h (fun h => ?_)
    refine jn_use (P := fun z14 => q_J D κ 3 0 0 [(a0, .inr (8, [.int (iI a0_refusal), .ref a0_text, .int (iI a0_textSize), .ref a0_now, .ref a0_trial, .ref a0_diary, .int (iI a0_acts), .ref a0_kept, .ref a0_isKept, .ref a0_clip, .ref a0_line, .int (iI a0_lineSize), .ref a0_read, .int (iI a0_readSize), .ref a0_opens, .ref a0_chains, .ref a0_factors, .ref a0_plains, .ref a0_belows, .ref a0_owned, .int (iI a0_deep), .ref a0_wides, .ref a0_highs, .ref a0_lows, .ref a0_itemWides, .ref a0_pile])), (a0_clip, .inl (cs.1, 184, .inl (aI a0_clipF))), (a0_diary, .inl (cs.1, 2576, .inl (aI a0_diaryF))), (a0_now, .inl (cs.1, 184, .inl (aI a0_nowF))), (a0_trial, .inl (cs.1, 184, .inl (aI r2)))] [(0, .ref a0)] 121 [.int (iI z14), .ref a0]) h (fun z14 h => ?_) (fun k12 hk12 h => ?_)
    · obtain ⟨r15, hr15, h⟩ := bd_inv h
      refine j_callV (pc := 121) ok (k_X8_refused (a0 := a0) (a0_text := a0_text) (a0_now := a0_now) (a0_trial := a0_trial) (a0_diary := a0_diary) (a0_kept := a0_kept) (a0_isKept := a0_isKept) (a0_clip := a0_clip) (a0_line := a0_line) (a0_read := a0_read) (a0_opens := a0_opens) (a0_chains := a0_chains) (a0_factors := a0_factors) (a0_plains := a0_plains) (a0_belows := a0_belows) (a0_owned := a0_owned) (a0_wides := a0_wides) (a0_highs := a0_highs) (a0_lows := a0_lows) (a0_itemWides := a0_itemWides) (a0_pile := a0_pile) (a0_refusal := a0_refusal) (a0_textSize := a0_textSize) (a0_acts := a0_acts) (a0_lineSize := a0_lineSize) (a0_readSize := a0_readSize) (a0_deep := a0_deep) (x1 := z14) hr15) gV_X8_150 ⟨rfl, hd_X8_refused⟩ [0] (by decide) rfl rfl 0 rfl rfl rfl rfl ⟨Nat.zero_le _, Nat.zero_le _⟩ (Nat.le_of_ble_eq_true rfl) dX8_paste_121 rfl [(a0, .inr (8, [.int (iI r15.2), .ref a0_text, .int (iI a0_textSize), .ref a0_now, .ref a0_trial, .ref a0_diary, .int (iI a0_acts), .ref a0_kept, .ref a0_isKept, .ref a0_clip, .ref a0_line, .int (iI a0_lineSize), .ref a0_read, .int (iI a0_readSize), .ref a0_opens, .ref a0_chains, .ref a0_factors, .ref a0_plains, .ref a0_belows, .ref a0_owned, .int (iI a0_deep), .ref a0_wides, .ref a0_highs, .ref a0_lows, .ref a0_itemWides, .ref a0_pile])), (a0_clip, .inl (cs.1, 184, .inl (aI a0_clipF))), (a0_diary, .inl (cs.1, 2576, .inl (aI a0_diaryF))), (a0_now, .inl (cs.1, 184, .inl (aI a0_nowF))), (a0_trial, .inl (cs.1, 184, .inl (aI r2)))] rfl ?_
      refine j_if_eq (pc := 124) 129 ok dX8_paste_124 (by decide) h (fun h => ?_) (fun h => ?_)
      · refine j_iconst (pc := 129) ok dX8_paste_129 ?_
        refine j_istore_n (pc := 130) (lv' := [(2, .int (iI 0)), (0, .ref a0)]) ok dX8_paste_130 rfl (by decide) rfl ?_
        refine j_lv [1, 0] rfl ?_
        refine l_X8_paste_131 ok fin (fun z17 h => ?_) fuel _ _ h
        · refine j_aload_n (pc := 182) 0 ok dX8_paste_182 rfl rfl ?_
          obtain ⟨r18, hr18, h⟩ := bd_inv h
          refine j_callV (pc := 183) ok (k_X8_take (a0 := a0) (a0_text := a0_text) (a0_now := a0_now) (a0_trial := a0_trial) (a0_diary := a0_diary) (a0_kept := a0_kept) (a0_isKept := a0_isKept) (a0_clip := a0_clip) (a0_line := a0_line) (a0_read := a0_read) (a0_opens := a0_opens) (a0_chains := a0_chains) (a0_factors := a0_factors) (a0_plains := a0_plains) (a0_belows := a0_belows) (a0_owned := a0_owned) (a0_wides := a0_wides) (a0_highs := a0_highs) (a0_lows := a0_lows) (a0_itemWides := a0_itemWides) (a0_pile := a0_pile) (a0_refusal := r15.2) (a0_textSize := a0_textSize) (a0_acts := a0_acts) (a0_lineSize := a0_lineSize) (a0_readSize := a0_readSize) (a0_deep := a0_deep) (a0_diaryF := a0_diaryF) (a0_nowF := a0_nowF) (a0_trialF := z17.1) hr18) gV_X8_237 ⟨rfl, hd_X8_take⟩ [0, 2, 3, 4] (by decide) rfl rfl 0 rfl rfl rfl rfl ⟨Nat.zero_le _, Nat.zero_le _⟩ (Nat.le_of_ble_eq_true rfl) dX8_paste_183 rfl [(a0, .inr (8, [.int (iI r15.2), .ref a0_text, .int (iI a0_textSize), .ref a0_now, .ref a0_trial, .ref a0_diary, .int (iI r18.1), .ref a0_kept, .ref a0_isKept, .ref a0_clip, .ref a0_line, .int (iI a0_lineSize), .ref a0_read, .int (iI a0_readSize), .ref a0_opens, .ref a0_chains, .ref a0_factors, .ref a0_plains, .ref a0_belows, .ref a0_owned, .int (iI a0_deep), .ref a0_wides, .ref a0_highs, .ref a0_lows, .ref a0_itemWides, .ref a0_pile])), (a0_clip, .inl (cs.1, 184, .inl (aI a0_clipF))), (a0_diary, .inl (cs.1, 2576, .inl (aI r18.2.1))), (a0_now, .inl (cs.1, 184, .inl (aI r18.2.2))), (a0_trial, .inl (cs.1, 184, .inl (aI z17.1)))] rfl ?_
          refine j_aload_n (pc := 186) 0 ok dX8_paste_186 rfl rfl ?_
          refine gf_X8_13_8 (pc := 187) 0 ok rfl dX8_paste_187 ?_
          refine j_iconst (pc := 190) ok dX8_paste_190 ?_
          refine j_aload_n (pc := 191) 0 ok dX8_paste_191 rfl rfl ?_
          refine gf_X8_13_8 (pc := 192) 0 ok rfl dX8_paste_192 ?_
          refine j_sipush (pc := 195) ok dX8_paste_195 (by decide) ?_
          refine j_iald (pc := 198) 3 ok rfl dX8_paste_198 h (fun h => ?_)
          obtain ⟨r19, hr19, h⟩ := bd_inv h
          refine j_callS (pc := 199) ok (k_X8_allIn (a0 := a0_now) (a0N := 184) (a0F := r18.2.2) (x1 := 0) (x2 := r18.2.2 (180 : Int).toNat) hr19) gS_X8_114 hd_X8_allIn [3] (by decide) rfl rfl rfl rfl ⟨Nat.zero_le _, Nat.zero_le _⟩ (Nat.le_of_ble_eq_true rfl) dX8_paste_199 rfl [(a0, .inr (8, [.int (iI r15.2), .ref a0_text, .int (iI a0_textSize), .ref a0_now, .ref a0_trial, .ref a0_diary, .int (iI r18.1), .ref a0_kept, .ref a0_isKept, .ref a0_clip, .ref a0_line, .int (iI a0_lineSize), .ref a0_read, .int (iI a0_readSize), .ref a0_opens, .ref a0_chains, .ref a0_factors, .ref a0_plains, .ref a0_belows, .ref a0_owned, .int (iI a0_deep), .ref a0_wides, .ref a0_highs, .ref a0_lows, .ref a0_itemWides, .ref a0_pile])), (a0_clip, .inl (cs.1, 184, .inl (aI a0_clipF))), (a0_diary, .inl (cs.1, 2576, .inl (aI r18.2.1))), (a0_now, .inl (cs.1, 184, .inl (aI r18.2.2))), (a0_trial, .inl (cs.1, 184, .inl (aI z17.1)))] rfl ?_
          obtain rfl := Option.some.inj h
          exact fin _ 202 dX8_paste_202
      · refine j_iconst (pc := 127) ok dX8_paste_127 ?_
        obtain rfl := Option.some.inj h
        exact fin _ 128 dX8_paste_128
    · refine jn_use (P := fun z13 => q_J D κ 3 0 0 [(a0, .inr (8, [.int (iI a0_refusal), .ref a0_text, .int (iI a0_textSize), .ref a0_now, .ref a0_trial, .ref a0_diary, .int (iI a0_acts), .ref a0_kept, .ref a0_isKept, .ref a0_clip, .ref a0_line, .int (iI a0_lineSize), .ref a0_read, .int (iI a0_readSize), .ref a0_opens, .ref a0_chains, .ref a0_factors, .ref a0_plains, .ref a0_belows, .ref a0_owned, .int (iI a0_deep), .ref a0_wides, .ref a0_highs, .ref a0_lows, .ref a0_itemWides, .ref a0_pile])), (a0_clip, .inl (cs.1, 184, .inl (aI a0_clipF))), (a0_diary, .inl (cs.1, 2576, .inl (aI a0_diaryF))), (a0_now, .inl (cs.1, 184, .inl (aI a0_nowF))), (a0_trial, .inl (cs.1, 184, .inl (aI r2)))] [(0, .ref a0)] 120 [.ref a0]) h (fun z13 h => ?_) (fun k11 hk11 h => ?_)
      · refine j_iconst (pc := 120) ok dX8_paste_120 ?_
        exact hk12 1 h
      · refine j_if_le (pc := 109) 120 ok dX8_paste_109 (by decide) h (fun h => ?_) (fun h => ?_)
        · refine j_lv [1] rfl ?_
          exact hk11 () h
        · refine j_iload_n (pc := 112) 0 ok dX8_paste_112 rfl rfl ?_
          refine j_if_eq (pc := 113) 120 ok dX8_paste_113 (by decide) h (fun h => ?_) (fun h => ?_)
          · refine j_lv [1] rfl ?_
            exact hk11 () h
          · refine j_iconst (pc := 116) ok dX8_paste_116 ?_
            refine j_goto (pc := 117) 121 ok dX8_paste_117 (by decide) ?_
            refine j_lv [1] rfl ?_
            exact hk12 0 h
  · refine jn_use (P := fun z9 => q_J D κ 3 0 0 [(a0, .inr (8, [.int (iI a0_refusal), .ref a0_text, .int (iI a0_textSize), .ref a0_now, .ref a0_trial, .ref a0_diary, .int (iI a0_acts), .ref a0_kept, .ref a0_isKept, .ref a0_clip, .ref a0_line, .int (iI a0_lineSize), .ref a0_read, .int (iI a0_readSize), .ref a0_opens, .ref a0_chains, .ref a0_factors, .ref a0_plains, .ref a0_belows, .ref a0_owned, .int (iI a0_deep), .ref a0_wides, .ref a0_highs, .ref a0_lows, .ref a0_itemWides, .ref a0_pile])), (a0_clip, .inl (cs.1, 184, .inl (aI a0_clipF))), (a0_diary, .inl (cs.1, 2576, .inl (aI a0_diaryF))), (a0_now, .inl (cs.1, 184, .inl (aI a0_nowF))), (a0_trial, .inl (cs.1, 184, .inl (aI r2)))] [(0, .ref a0)] 98 []) h (fun z9 h => ?_) (fun k5 hk5 h => ?_)
    · refine j_iconst (pc := 98) ok dX8_paste_98 ?_
      exact hk6 0 h
    · refine j_icmp_gt (pc := 55) 98 ok dX8_paste_55 (by decide) h (fun h => ?_) (fun h => ?_)
      · exact hk5 () h
      · refine j_aload_n (pc := 58) 0 ok dX8_paste_58 rfl rfl ?_
        refine gf_X8_16_8 (pc := 59) 0 ok rfl dX8_paste_59 ?_
        refine j_aload_n (pc := 62) 0 ok dX8_paste_62 rfl rfl ?_
        refine gf_X8_16_8 (pc := 63) 0 ok rfl dX8_paste_63 ?_
        refine j_sipush (pc := 66) ok dX8_paste_66 (by decide) ?_
        refine j_iald (pc := 69) 4 ok rfl dX8_paste_69 h (fun h => ?_)
        obtain ⟨r7, hr7, h⟩ := bd_inv h
        refine j_callS (pc := 70) ok (k_X8_levelAt (a0 := a0_trial) (a0N := 184) (a0F := r2) (x1 := r2 (181 : Int).toNat) hr7) gS_X8_130 hd_X8_levelAt [4] (by decide) rfl rfl rfl rfl ⟨Nat.zero_le _, Nat.zero_le _⟩ (Nat.le_of_ble_eq_true rfl) dX8_paste_70 rfl [(a0, .inr (8, [.int (iI a0_refusal), .ref a0_text, .int (iI a0_textSize), .ref a0_now, .ref a0_trial, .ref a0_diary, .int (iI a0_acts), .ref a0_kept, .ref a0_isKept, .ref a0_clip, .ref a0_line, .int (iI a0_lineSize), .ref a0_read, .int (iI a0_readSize), .ref a0_opens, .ref a0_chains, .ref a0_factors, .ref a0_plains, .ref a0_belows, .ref a0_owned, .int (iI a0_deep), .ref a0_wides, .ref a0_highs, .ref a0_lows, .ref a0_itemWides, .ref a0_pile])), (a0_clip, .inl (cs.1, 184, .inl (aI a0_clipF))), (a0_diary, .inl (cs.1, 2576, .inl (aI a0_diaryF))), (a0_now, .inl (cs.1, 184, .inl (aI a0_nowF))), (a0_trial, .inl (cs.1, 184, .inl (aI r2)))] rfl ?_
        refine j_aload_n (pc := 73) 0 ok dX8_paste_73 rfl rfl ?_
        refine gf_X8_29_8 (pc := 74) 0 ok rfl dX8_paste_74 ?_
        refine j_iconst (pc := 77) ok dX8_paste_77 ?_
        refine j_aload_n (pc := 78) 0 ok dX8_paste_78 rfl rfl ?_
        refine gf_X8_29_8 (pc := 79) 0 ok rfl dX8_paste_79 ?_
        refine j_sipush (pc := 82) ok dX8_paste_82 (by decide) ?_
        refine j_iald (pc := 85) 1 ok rfl dX8_paste_85 h (fun h => ?_)
        obtain ⟨r8, hr8, h⟩ := bd_inv h
        refine j_callS (pc := 86) ok (k_X8_deepest (a0 := a0_clip) (a0N := 184) (a0F := a0_clipF) (x1 := 0) (x2 := a0_clipF (180 : Int).toNat) hr8) gS_X8_133 hd_X8_deepest [1] (by decide) rfl rfl rfl rfl ⟨Nat.zero_le _, Nat.zero_le _⟩ (Nat.le_of_ble_eq_true rfl) dX8_paste_86 rfl [(a0, .inr (8, [.int (iI a0_refusal), .ref a0_text, .int (iI a0_textSize), .ref a0_now, .ref a0_trial, .ref a0_diary, .int (iI a0_acts), .ref a0_kept, .ref a0_isKept, .ref a0_clip, .ref a0_line, .int (iI a0_lineSize), .ref a0_read, .int (iI a0_readSize), .ref a0_opens, .ref a0_chains, .ref a0_factors, .ref a0_plains, .ref a0_belows, .ref a0_owned, .int (iI a0_deep), .ref a0_wides, .ref a0_highs, .ref a0_lows, .ref a0_itemWides, .ref a0_pile])), (a0_clip, .inl (cs.1, 184, .inl (aI a0_clipF))), (a0_diary, .inl (cs.1, 2576, .inl (aI a0_diaryF))), (a0_now, .inl (cs.1, 184, .inl (aI a0_nowF))), (a0_trial, .inl (cs.1, 184, .inl (aI r2)))] rfl ?_
        refine j_iadd (pc := 89) ok dX8_paste_89 ?_
        refine j_iconst (pc := 90) ok dX8_paste_90 ?_
        refine j_icmp_gt (pc := 91) 98 ok dX8_paste_91 (by decide) h (fun h => ?_) (fun h => ?_)
        · exact hk5 () h
        · refine j_iconst (pc := 94) ok dX8_paste_94 ?_
          refine j_goto (pc := 95) 99 ok dX8_paste_95 (by decide) ?_
          exact hk6 1 h
