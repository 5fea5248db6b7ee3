def f_X8_replace_37 (y1 : Int) (y2 : Int) (e37_104 : (Nat → Int) × Int × Int → Option (Int × Int × Int × (Nat → Int) × (Nat → Int))) : Nat → (Nat → Int) → Int → Int → Option (Int × Int × Int × (Nat → Int) × (Nat → Int))
  | 0, _, _, _ => none
  | n + 1, a0_nowF, y3, y4 => gIn 180 184 (cLt y4 (a0_nowF (180 : Int).toNat) (gIn y4 184 (jn (fun (z10 : Int) => gIn y4 184 (jn (fun (z12 : Int) => gIn y4 184 (f_X8_replace_37 y1 y2 e37_104 n (va_up a0_nowF y4.toNat z12) (y3 + z10) (y4 + 1))) (fun k11 => cEq (a0_nowF y4.toNat) y1 (k11 y2) (gIn y4 184 (k11 (a0_nowF y4.toNat)))))) (fun k9 => cEq (a0_nowF y4.toNat) y1 (k9 1) (k9 0)))) (e37_104 (a0_nowF, y3, y4)))
set_option maxRecDepth 100000 in
theorem l_X8_replace_37 {D : va_G} {cs : q_CS} {κ : q_X} {a0 a0_text a0_now a0_trial a0_diary a0_kept a0_isKept a0_clip a0_line a0_read a0_opens a0_chains a0_factors a0_plains a0_belows a0_owned a0_wides a0_highs a0_lows a0_itemWides a0_pile : Nat} {a0_refusal a0_textSize a0_acts a0_lineSize a0_readSize a0_deep : Int} {a0_diaryF : (Nat → Int)} {y1 y2 : Int} {r : (Int × Int × Int × (Nat → Int) × (Nat → Int))} {e37_104 : (Nat → Int) × Int × Int → Option (Int × Int × Int × (Nat → Int) × (Nat → Int))} (ok : q_ok D cs κ cX8_replace 5 RX8 (q_rm 3 65)) (fin : ∀ (lv : List (Nat × Value)) (pc : Nat), decode cX8_replace pc = .ok (.ireturn, 1) → q_J D κ 5 0 0 [(a0, .inr (8, [.int (iI r.2.1), .ref a0_text, .int (iI a0_textSize), .ref a0_now, .ref a0_trial, .ref a0_diary, .int (iI r.2.2.1), .ref a0_kept, .ref a0_isKept, .ref a0_clip, .ref a0_line, .int (iI a0_lineSize), .ref a0_read, .int (iI a0_readSize), .ref a0_opens, .ref a0_chains, .ref a0_factors, .ref a0_plains, .ref a0_belows, .ref a0_owned, .int (iI a0_deep), .ref a0_wides, .ref a0_highs, .ref a0_lows, .ref a0_itemWides, .ref a0_pile])), (a0_diary, .inl (cs.1, 2576, .inl (aI r.2.2.2.1))), (a0_now, .inl (cs.1, 184, .inl (aI r.2.2.2.2)))] lv pc [.int (iI r.1)]) (he37_104 : ∀ x : (Nat → Int) × Int × Int, e37_104 x = some r → q_J D κ 5 0 0 [(a0, .inr (8, [.int (iI a0_refusal), .ref a0_text, .int (iI a0_textSize), .ref a0_now, .ref a0_trial, .ref a0_diary, .int (iI a0_acts), .ref a0_kept, .ref a0_isKept, .ref a0_clip, .ref a0_line, .int (iI a0_lineSize), .ref a0_read, .int (iI a0_readSize), .ref a0_opens, .ref a0_chains, .ref a0_factors, .ref a0_plains, .ref a0_belows, .ref a0_owned, .int (iI a0_deep), .ref a0_wides, .ref a0_highs, .ref a0_lows, .ref a0_itemWides, .ref a0_pile])), (a0_diary, .inl (cs.1, 2576, .inl (aI a0_diaryF))), (a0_now, .inl (cs.1, 184, .inl (aI x.1)))] [(3, .int (iI x.2.1))] 104 []) : ∀ (n : Nat) (a0_nowF : (Nat → Int)) (y3 : Int) (y4 : Int), f_X8_replace_37 y1 y2 e37_104 n a0_nowF y3 y4 = some r → q_J D κ 5 0 0 [(a0, .inr (8, [.int (iI a0_refusal), .ref a0_text, .int (iI a0_textSize), .ref a0_now, .ref a0_trial, .ref a0_diary, .int (iI a0_acts), .ref a0_kept, .ref a0_isKept, .ref a0_clip, .ref a0_line, .int (iI a0_lineSize), .ref a0_read, .int (iI a0_readSize), .ref a0_opens, .ref a0_chains, .ref a0_factors, .ref a0_plains, .ref a0_belows, .ref a0_owned, .int (iI a0_deep), .ref a0_wides, .ref a0_highs, .ref a0_lows, .ref a0_itemWides, .ref a0_pile])), (a0_diary, .inl (cs.1, 2576, .inl (aI a0_diaryF))), (a0_now, .inl (cs.1, 184, .inl (aI a0_nowF)))] [(0, .ref a0), (1, .int (iI y1)), (2, .int (iI y2)), (3, .int (iI y3)), (4, .int (iI y4))] 37 [] := by
  intro n
  induction n with
  | zero =>
    intro a0_nowF y3 y4 h
    exact absurd h (by unfold f_X8_replace_37; exact fun z => by cases z)
  | succ n ih =>
    intro a0_nowF y3 y4 h
    unfold f_X8_replace_37 at h
    refine j_iload (pc := 37) 4 ok dX8_replace_37 rfl ?_
    refine j_aload_n (pc := 39) 0 ok dX8_replace_39 rfl rfl ?_
    refine gf_X8_13_8 (pc := 40) 0 ok rfl dX8_replace_40 ?_
    refine j_sipush (pc := 43) ok dX8_replace_43 (by decide) ?_
    refine j_iald (pc := 46) 2 ok rfl dX8_replace_46 h (fun h => ?_)
    refine j_icmp_ge (pc := 47) 104 ok dX8_replace_47 (by decide) h (fun h => ?_) (fun h => ?_)
    · refine j_lv [3] rfl ?_
      exact he37_104 (a0_nowF, y3, y4) h
    · refine j_iload_n (pc := 50) 3 ok dX8_replace_50 rfl rfl ?_
      refine j_aload_n (pc := 51) 0 ok dX8_replace_51 rfl rfl ?_
      refine gf_X8_13_8 (pc := 52) 0 ok rfl dX8_replace_52 ?_
      refine j_iload (pc := 55) 4 ok dX8_replace_55 rfl ?_
      refine j_iald (pc := 57) 2 ok rfl dX8_replace_57 h (fun h => ?_)
      refine j_iload_n (pc := 58) 1 ok dX8_replace_58 rfl rfl ?_
      refine jn_use (P := fun z10 => q_J D κ 5 0 0 [(a0, .inr (8, [.int (iI a0_refusal), .ref a0_text, .int (iI a0_textSize), .ref a0_now, .ref a0_trial, .ref a0_diary, .int (iI a0_acts), .ref a0_kept, .ref a0_isKept, .ref a0_clip, .ref a0_line, .int (iI a0_lineSize), .ref a0_read, .int (iI a0_readSize), .ref a0_opens, .ref a0_chains, .ref a0_factors, .ref a0_plains, .ref a0_belows, .ref a0_owned, .int (iI a0_deep), .ref a0_wides, .ref a0_highs, .ref a0_lows, .ref a0_itemWides, .ref a0_pile])), (a0_diary, .inl (cs.1, 2576, .inl (aI a0_diaryF))), (a0_now, .inl (cs.1, 184, .inl (aI a0_nowF)))] [(0, .ref a0), (1, .int (iI y1)), (2, .int (iI y2)), (4, .int (iI y4))] 67 [.int (iI z10), .int (iI y3)]) h (fun z10 h => ?_) (fun k9 hk9 h => ?_)
      · refine j_iadd (pc := 67) ok dX8_replace_67 ?_
        refine j_istore_n (pc := 68) (lv' := [(3, .int (iI (y3 + z10))), (0, .ref a0), (1, .int (iI y1)), (2, .int (iI y2)), (4, .int (iI y4))]) ok dX8_replace_68 rfl (by decide) rfl ?_
        refine j_aload_n (pc := 69) 1 ok dX8_replace_69 rfl rfl ?_
        refine gf_X8_13_8 (pc := 70) 0 ok rfl dX8_replace_70 ?_
        refine j_iload (pc := 73) 4 ok dX8_replace_73 rfl ?_
        refine j_aload_n (pc := 75) 1 ok dX8_replace_75 rfl rfl ?_
        refine gf_X8_13_8 (pc := 76) 0 ok rfl dX8_replace_76 ?_
        refine j_iload (pc := 79) 4 ok dX8_replace_79 rfl ?_
        refine j_iald (pc := 81) 2 ok rfl dX8_replace_81 h (fun h => ?_)
        refine j_iload_n (pc := 82) 2 ok dX8_replace_82 rfl rfl ?_
        refine jn_use (P := fun z12 => q_J D κ 5 0 0 [(a0, .inr (8, [.int (iI a0_refusal), .ref a0_text, .int (iI a0_textSize), .ref a0_now, .ref a0_trial, .ref a0_diary, .int (iI a0_acts), .ref a0_kept, .ref a0_isKept, .ref a0_clip, .ref a0_line, .int (iI a0_lineSize), .ref a0_read, .int (iI a0_readSize), .ref a0_opens, .ref a0_chains, .ref a0_factors, .ref a0_plains, .ref a0_belows, .ref a0_owned, .int (iI a0_deep), .ref a0_wides, .ref a0_highs, .ref a0_lows, .ref a0_itemWides, .ref a0_pile])), (a0_diary, .inl (cs.1, 2576, .inl (aI a0_diaryF))), (a0_now, .inl (cs.1, 184, .inl (aI a0_nowF)))] [(0, .ref a0), (1, .int (iI y1)), (2, .int (iI y2)), (3, .int (iI (y3 + z10))), (4, .int (iI y4))] 97 [.int (iI z12), .int (iI y4), .ref a0_now]) h (fun z12 h => ?_) (fun k11 hk11 h => ?_)
        · refine j_iastw (pc := 97) 2 ok rfl dX8_replace_97 h [(a0, .inr (8, [.int (iI a0_refusal), .ref a0_text, .int (iI a0_textSize), .ref a0_now, .ref a0_trial, .ref a0_diary, .int (iI a0_acts), .ref a0_kept, .ref a0_isKept, .ref a0_clip, .ref a0_line, .int (iI a0_lineSize), .ref a0_read, .int (iI a0_readSize), .ref a0_opens, .ref a0_chains, .ref a0_factors, .ref a0_plains, .ref a0_belows, .ref a0_owned, .int (iI a0_deep), .ref a0_wides, .ref a0_highs, .ref a0_lows, .ref a0_itemWides, .ref a0_pile])), (a0_diary, .inl (cs.1, 2576, .inl (aI a0_diaryF))), (a0_now, .inl (cs.1, 184, .inl (aI (va_up a0_nowF y4.toNat z12))))] rfl (fun h => ?_)
          refine j_iinc (pc := 98) (lv' := [(4, .int (iI (y4 + 1))), (0, .ref a0), (1, .int (iI y1)), (2, .int (iI y2)), (3, .int (iI (y3 + z10)))]) 4 ok dX8_replace_98 rfl (by decide) rfl ?_
          refine j_goto (pc := 101) 37 ok dX8_replace_101 (by decide) ?_
          refine j_lv [1, 2, 3, 4, 0] rfl ?_
          exact ih _ _ _ h
        · refine j_icmp_ne (pc := 83) 90 ok dX8_replace_83 (by decide) h (fun h => ?_) (fun h => ?_)
          · refine j_aload_n (pc := 90) 1 ok dX8_replace_90 rfl rfl ?_
            refine gf_X8_13_8 (pc := 91) 0 ok rfl dX8_replace_91 ?_
            refine j_iload (pc := 94) 4 ok dX8_replace_94 rfl ?_
            refine j_iald (pc := 96) 2 ok rfl dX8_replace_96 h (fun h => ?_)
            refine j_lv [1, 2, 3, 0, 4] rfl ?_
            exact hk11 (a0_nowF y4.toNat) h
          · refine j_iload_n (pc := 86) 3 ok dX8_replace_86 rfl rfl ?_
            refine j_goto (pc := 87) 97 ok dX8_replace_87 (by decide) ?_
            refine j_lv [1, 2, 3, 0, 4] rfl ?_
            exact hk11 y2 h
      · refine j_icmp_ne (pc := 59) 66 ok dX8_replace_59 (by decide) h (fun h => ?_) (fun h => ?_)
        · refine j_iconst (pc := 66) ok dX8_replace_66 ?_
          refine j_lv [0, 1, 2, 4] rfl ?_
          exact hk9 0 h
        · refine j_iconst (pc := 62) ok dX8_replace_62 ?_
          refine j_goto (pc := 63) 67 ok dX8_replace_63 (by decide) ?_
          refine j_lv [0, 1, 2, 4] rfl ?_
          exact hk9 1 h
def f_X8_replace (a0_refusal : Int) (a0_acts : Int) (a0_diaryF : (Nat → Int)) (a0_nowF : (Nat → Int)) (x1 : Int) (x2 : Int) : Option (Int × Int × Int × (Nat → Int) × (Nat → Int)) := bd (f_X8_isSymbol x1) (fun r1 => jn (fun (z6 : Int) => bd (f_X8_refused a0_refusal z6) (fun r7 => cEq r7.1 0 (bd (f_X8_note a0_acts a0_diaryF a0_nowF) (fun r8 => f_X8_replace_37 x1 x2 (fun (z13 : (Nat → Int) × Int × Int) => some (z13.2.1, r7.2, r8.1, r8.2, z13.1)) fuel a0_nowF 0 0)) (some (0, r7.2, a0_acts, a0_diaryF, a0_nowF)))) (fun k3 => jn (fun (z5 : Unit) => k3 1) (fun k2 => cEq r1 0 (k2 ()) (bd (f_X8_isSymbol x2) (fun r4 => cEq r4 0 (k2 ()) (k3 0))))))
set_option maxRecDepth 100000 in
set_option maxHeartbeats 4000000 in
theorem k_X8_replace {D : va_G} {cs : q_CS} {a0 a0_text a0_now a0_trial a0_diary a0_kept a0_isKept a0_clip a0_line a0_read a0_opens a0_chains a0_factors a0_plains a0_belows a0_owned a0_wides a0_highs a0_lows a0_itemWides a0_pile : Nat} {a0_refusal a0_textSize a0_acts a0_lineSize a0_readSize a0_deep : Int} {a0_diaryF a0_nowF : (Nat → Int)} {x1 x2 : Int} {r : (Int × Int × Int × (Nat → Int) × (Nat → Int))} (h : f_X8_replace a0_refusal a0_acts a0_diaryF a0_nowF x1 x2 = some r) : q_M D cs yX8_replace cX8_replace 5 (some .int) 3 65 [.ref a0, .int (iI x1), .int (iI x2)] [(a0, .inr (8, [.int (iI a0_refusal), .ref a0_text, .int (iI a0_textSize), .ref a0_now, .ref a0_trial, .ref a0_diary, .int (iI a0_acts), .ref a0_kept, .ref a0_isKept, .ref a0_clip, .ref a0_line, .int (iI a0_lineSize), .ref a0_read, .int (iI a0_readSize), .ref a0_opens, .ref a0_chains, .ref a0_factors, .ref a0_plains, .ref a0_belows, .ref a0_owned, .int (iI a0_deep), .ref a0_wides, .ref a0_highs, .ref a0_lows, .ref a0_itemWides, .ref a0_pile])), (a0_diary, .inl (cs.1, 2576, .inl (aI a0_diaryF))), (a0_now, .inl (cs.1, 184, .inl (aI a0_nowF)))] (some (.int (iI r.1))) [(a0, .inr (8, [.int (iI r.2.1), .ref a0_text, .int (iI a0_textSize), .ref a0_now, .ref a0_trial, .ref a0_diary, .int (iI r.2.2.1), .ref a0_kept, .ref a0_isKept, .ref a0_clip, .ref a0_line, .int (iI a0_lineSize), .ref a0_read, .int (iI a0_readSize), .ref a0_opens, .ref a0_chains, .ref a0_factors, .ref a0_plains, .ref a0_belows, .ref a0_owned, .int (iI a0_deep), .ref a0_wides, .ref a0_highs, .ref a0_lows, .ref a0_itemWides, .ref a0_pile])), (a0_diary, .inl (cs.1, 2576, .inl (aI r.2.2.2.1))), (a0_now, .inl (cs.1, 184, .inl (aI r.2.2.2.2)))] := by
  refine q_start_i [(0, .ref a0), (1, .int (iI x1)), (2, .int (iI x2))] RX8 rfl (by decide +kernel) rfl (Nat.le_of_ble_eq_true rfl) rfl (fun κ ok fin => ?_)
  unfold f_X8_replace at h
  refine j_aload_n (pc := 0) 0 ok dX8_replace_0 rfl rfl ?_
  refine j_iload_n (pc := 1) 1 ok dX8_replace_1 rfl rfl ?_
  obtain ⟨r1, hr1, h⟩ := bd_inv h
  refine j_callS (pc := 2) ok (k_X8_isSymbol (x0 := x1) hr1) gS_X8_118 hd_X8_isSymbol [] (by decide) rfl rfl rfl rfl ⟨Nat.zero_le _, Nat.zero_le _⟩ (Nat.le_of_ble_eq_true rfl) dX8_replace_2 rfl [(a0, .inr (8, [.int (iI a0_refusal), .ref a0_text, .int (iI a0_textSize), .ref a0_now, .ref a0_trial, .ref a0_diary, .int (iI a0_acts), .ref a0_kept, .ref a0_isKept, .ref a0_clip, .ref a0_line, .int (iI a0_lineSize), .ref a0_read, .int (iI a0_readSize), .ref a0_opens, .ref a0_chains, .ref a0_factors, .ref a0_plains, .ref a0_belows, .ref a0_owned, .int (iI a0_deep), .ref a0_wides, .ref a0_highs, .ref a0_lows, .ref a0_itemWides, .ref a0_pile])), (a0_diary, .inl (cs.1, 2576, .inl (aI a0_diaryF))), (a0_now, .inl (cs.1, 184, .inl (aI a0_nowF)))] rfl ?_
  refine jn_use (P := fun z6 => q_J D κ 5 0 0 [(a0, .inr (8, [.int (iI a0_refusal), .ref a0_text, .int (iI a0_textSize), .ref a0_now, .ref a0_trial, .ref a0_diary, .int (iI a0_acts), .ref a0_kept, .ref a0_isKept, .ref a0_clip, .ref a0_line, .int (iI a0_lineSize), .ref a0_read, .int (iI a0_readSize), .ref a0_opens, .ref a0_chains, .ref a0_factors, .ref a0_plains, .ref a0_belows, .ref a0_owned, .int (iI a0_deep), .ref a0_wides, .ref a0_highs, .ref a0_lows, .ref a0_itemWides, .ref a0_pile])), (a0_diary, .inl (cs.1, 2576, .inl (aI a0_diaryF))), (a0_now, .inl (cs.1, 184, .inl (aI a0_nowF)))] [(0, .ref a0), (1, .int (iI x1)), (2, .int (iI x2))] 20 [.int (iI z6), .ref a0]) h (fun z6 h => ?_) (fun k3 hk3 h => ?_)
  · obtain ⟨r7, hr7, h⟩ := bd_inv h
    refine j_callV (pc := 20) ok (k_X8_refused (a0 := a0) (a0_text := a0_text) (a0_now := a0_now) (a0_trial := a0_trial) (a0_diary := a0_diary) (a0_kept := a0_kept) (a0_isKept := a0_isKept) (a0_clip := a0_clip) (a0_line := a0_line) (a0_read := a0_read) (a0_opens := a0_opens) (a0_chains := a0_chains) (a0_factors := a0_factors) (a0_plains := a0_plains) (a0_belows := a0_belows) (a0_owned := a0_owned) (a0_wides := a0_wides) (a0_highs := a0_highs) (a0_lows := a0_lows) (a0_itemWides := a0_itemWides) (a0_pile := a0_pile) (a0_refusal := a0_refusal) (a0_textSize := a0_textSize) (a0_acts := a0_acts) (a0_lineSize := a0_lineSize) (a0_readSize := a0_readSize) (a0_deep := a0_deep) (x1 := z6) hr7) gV_X8_150 ⟨rfl, hd_X8_refused⟩ [0] (by decide) rfl rfl 0 rfl rfl rfl rfl ⟨Nat.zero_le _, Nat.zero_le _⟩ (Nat.le_of_ble_eq_true rfl) dX8_replace_20 rfl [(a0, .inr (8, [.int (iI r7.2), .ref a0_text, .int (iI a0_textSize), .ref a0_now, .ref a0_trial, .ref a0_diary, .int (iI a0_acts), .ref a0_kept, .ref a0_isKept, .ref a0_clip, .ref a0_line, .int (iI a0_lineSize), .ref a0_read, .int (iI a0_readSize), .ref a0_opens, .ref a0_chains, .ref a0_factors, .ref a0_plains, .ref a0_belows, .ref a0_owned, .int (iI a0_deep), .ref a0_wides, .ref a0_highs, .ref a0_lows, .ref a0_itemWides, .ref a0_pile])), (a0_diary, .inl (cs.1, 2576, .inl (aI a0_diaryF))), (a0_now, .inl (cs.1, 184, .inl (aI a0_nowF)))] rfl ?_
    refine j_if_eq (pc := 23) 28 ok dX8_replace_23 (by decide) h (fun h => ?_) (fun h => ?_)
    · refine j_aload_n (pc := 28) 0 ok dX8_replace_28 rfl rfl ?_
      obtain ⟨r8, hr8, h⟩ := bd_inv h
      refine j_callV (pc := 29) ok (k_X8_note (a0 := a0) (a0_text := a0_text) (a0_now := a0_now) (a0_trial := a0_trial) (a0_diary := a0_diary) (a0_kept := a0_kept) (a0_isKept := a0_isKept) (a0_clip := a0_clip) (a0_line := a0_line) (a0_read := a0_read) (a0_opens := a0_opens) (a0_chains := a0_chains) (a0_factors := a0_factors) (a0_plains := a0_plains) (a0_belows := a0_belows) (a0_owned := a0_owned) (a0_wides := a0_wides) (a0_highs := a0_highs) (a0_lows := a0_lows) (a0_itemWides := a0_itemWides) (a0_pile := a0_pile) (a0_refusal := r7.2) (a0_textSize := a0_textSize) (a0_acts := a0_acts) (a0_lineSize := a0_lineSize) (a0_readSize := a0_readSize) (a0_deep := a0_deep) (a0_diaryF := a0_diaryF) (a0_nowF := a0_nowF) hr8) gV_X8_230 ⟨rfl, hd_X8_note⟩ [0, 1, 2] (by decide) rfl rfl 0 rfl rfl rfl rfl ⟨Nat.zero_le _, Nat.zero_le _⟩ (Nat.le_of_ble_eq_true rfl) dX8_replace_29 rfl [(a0, .inr (8, [.int (iI r7.2), .ref a0_text, .int (iI a0_textSize), .ref a0_now, .ref a0_trial, .ref a0_diary, .int (iI r8.1), .ref a0_kept, .ref a0_isKept, .ref a0_clip, .ref a0_line, .int (iI a0_lineSize), .ref a0_read, .int (iI a0_readSize), .ref a0_opens, .ref a0_chains, .ref a0_factors, .ref a0_plains, .ref a0_belows, .ref a0_owned, .int (iI a0_deep), .ref a0_wides, .ref a0_highs, .ref a0_lows, .ref a0_itemWides, .ref a0_pile])), (a0_diary, .inl (cs.1, 2576, .inl (aI r8.2))), (a0_now, .inl (cs.1, 184, .inl (aI a0_nowF)))] rfl ?_
      refine j_iconst (pc := 32) ok dX8_replace_32 ?_
      refine j_istore_n (pc := 33) (lv' := [(3, .int (iI 0)), (0, .ref a0), (1, .int (iI x1)), (2, .int (iI x2))]) ok dX8_replace_33 rfl (by decide) rfl ?_
      refine j_iconst (pc := 34) ok dX8_replace_34 ?_
      refine j_istore (pc := 35) (lv' := [(4, .int (iI 0)), (3, .int (iI 0)), (0, .ref a0), (1, .int (iI x1)), (2, .int (iI x2))]) ok dX8_replace_35 (by decide) rfl ?_
      refine j_lv [2, 3, 4, 1, 0] rfl ?_
      refine l_X8_replace_37 ok fin (fun z13 h => ?_) fuel _ _ _ h
      · refine j_iload_n (pc := 104) 0 ok dX8_replace_104 rfl rfl ?_
        obtain rfl := Option.some.inj h
        exact fin _ 105 dX8_replace_105
    · refine j_iconst (pc := 26) ok dX8_replace_26 ?_
      obtain rfl := Option.some.inj h
      exact fin _ 27 dX8_replace_27
  · refine jn_use (P := fun z5 => q_J D κ 5 0 0 [(a0, .inr (8, [.int (iI a0_refusal), .ref a0_text, .int (iI a0_textSize), .ref a0_now, .ref a0_trial, .ref a0_diary, .int (iI a0_acts), .ref a0_kept, .ref a0_isKept, .ref a0_clip, .ref a0_line, .int (iI a0_lineSize), .ref a0_read, .int (iI a0_readSize), .ref a0_opens, .ref a0_chains, .ref a0_factors, .ref a0_plains, .ref a0_belows, .ref a0_owned, .int (iI a0_deep), .ref a0_wides, .ref a0_highs, .ref a0_lows, .ref a0_itemWides, .ref a0_pile])), (a0_diary, .inl (cs.1, 2576, .inl (aI a0_diaryF))), (a0_now, .inl (cs.1, 184, .inl (aI a0_nowF)))] [(0, .ref a0), (1, .int (iI x1)), (2, .int (iI x2))] 19 [.ref a0]) h (fun z5 h => ?_) (fun k2 hk2 h => ?_)
    · refine j_iconst (pc := 19) ok dX8_replace_19 ?_
      exact hk3 1 h
    · refine j_if_eq (pc := 5) 19 ok dX8_replace_5 (by decide) h (fun h => ?_) (fun h => ?_)
      · exact hk2 () h
      · refine j_iload_n (pc := 8) 2 ok dX8_replace_8 rfl rfl ?_
        obtain ⟨r4, hr4, h⟩ := bd_inv h
        refine j_callS (pc := 9) ok (k_X8_isSymbol (x0 := x2) hr4) gS_X8_118 hd_X8_isSymbol [] (by decide) rfl rfl rfl rfl ⟨Nat.zero_le _, Nat.zero_le _⟩ (Nat.le_of_ble_eq_true rfl) dX8_replace_9 rfl [(a0, .inr (8, [.int (iI a0_refusal), .ref a0_text, .int (iI a0_textSize), .ref a0_now, .ref a0_trial, .ref a0_diary, .int (iI a0_acts), .ref a0_kept, .ref a0_isKept, .ref a0_clip, .ref a0_line, .int (iI a0_lineSize), .ref a0_read, .int (iI a0_readSize), .ref a0_opens, .ref a0_chains, .ref a0_factors, .ref a0_plains, .ref a0_belows, .ref a0_owned, .int (iI a0_deep), .ref a0_wides, .ref a0_highs, .ref a0_lows, .ref a0_itemWides, .ref a0_pile])), (a0_diary, .inl (cs.1, 2576, .inl (aI a0_diaryF))), (a0_now, .inl (cs.1, 184, .inl (aI a0_nowF)))] rfl ?_
        refine j_if_eq (pc := 12) 19 ok dX8_replace_12 (by decide) h (fun h => ?_) (fun h => ?_)
        · exact hk2 () h
        · refine j_iconst (pc := 15) ok dX8_replace_15 ?_
          refine j_goto (pc := 16) 20 ok dX8_replace_16 (by decide) ?_
          exact hk3 0 h
def f_X8_undo (a0_refusal : Int) (a0_acts : Int) (a0_diaryF : (Nat → Int)) (a0_nowF : (Nat → Int)) : Option (Int × Int × Int × (Nat → Int)) := jn (fun (z2 : Int) => bd (f_X8_refused a0_refusal z2) (fun r3 => cEq r3.1 0 (bd (f_X8_copyPage 2576 184 a0_diaryF a0_nowF (184 * (a0_acts - 1)) 0) (fun r4 => some (a0_acts - 1, r3.2, a0_acts - 1, r4))) (some (0, r3.2, a0_acts, a0_nowF)))) (fun k1 => cEq a0_acts 0 (k1 1) (k1 0))
set_option maxRecDepth 100000 in
set_option maxHeartbeats 4000000 in
theorem k_X8_undo {D : va_G} {cs : q_CS} {a0 a0_text a0_now a0_trial a0_diary a0_kept a0_isKept a0_clip a0_line a0_read a0_opens a0_chains a0_factors a0_plains a0_belows a0_owned a0_wides a0_highs a0_lows a0_itemWides a0_pile : Nat} {a0_refusal a0_textSize a0_acts a0_lineSize a0_readSize a0_deep : Int} {a0_diaryF a0_nowF : (Nat → Int)} {r : (Int × Int × Int × (Nat → Int))} (h : f_X8_undo a0_refusal a0_acts a0_diaryF a0_nowF = some r) : q_M D cs yX8_undo cX8_undo 1 (some .int) 1 24 [.ref a0] [(a0, .inr (8, [.int (iI a0_refusal), .ref a0_text, .int (iI a0_textSize), .ref a0_now, .ref a0_trial, .ref a0_diary, .int (iI a0_acts), .ref a0_kept, .ref a0_isKept, .ref a0_clip, .ref a0_line, .int (iI a0_lineSize), .ref a0_read, .int (iI a0_readSize), .ref a0_opens, .ref a0_chains, .ref a0_factors, .ref a0_plains, .ref a0_belows, .ref a0_owned, .int (iI a0_deep), .ref a0_wides, .ref a0_highs, .ref a0_lows, .ref a0_itemWides, .ref a0_pile])), (a0_diary, .inl (cs.1, 2576, .inl (aI a0_diaryF))), (a0_now, .inl (cs.1, 184, .inl (aI a0_nowF)))] (some (.int (iI r.1))) [(a0, .inr (8, [.int (iI r.2.1), .ref a0_text, .int (iI a0_textSize), .ref a0_now, .ref a0_trial, .ref a0_diary, .int (iI r.2.2.1), .ref a0_kept, .ref a0_isKept, .ref a0_clip, .ref a0_line, .int (iI a0_lineSize), .ref a0_read, .int (iI a0_readSize), .ref a0_opens, .ref a0_chains, .ref a0_factors, .ref a0_plains, .ref a0_belows, .ref a0_owned, .int (iI a0_deep), .ref a0_wides, .ref a0_highs, .ref a0_lows, .ref a0_itemWides, .ref a0_pile])), (a0_diary, .inl (cs.1, 2576, .inl (aI a0_diaryF))), (a0_now, .inl (cs.1, 184, .inl (aI r.2.2.2)))] := by
  refine q_start_i [(0, .ref a0)] RX8 rfl (by decide +kernel) rfl (Nat.le_of_ble_eq_true rfl) rfl (fun κ ok fin => ?_)
  unfold f_X8_undo at h
  refine j_aload_n (pc := 0) 0 ok dX8_undo_0 rfl rfl ?_
  refine j_aload_n (pc := 1) 0 ok dX8_undo_1 rfl rfl ?_
  refine gf_X8_182_8 (pc := 2) 0 ok rfl dX8_undo_2 ?_
  refine jn_use (P := fun z2 => q_J D κ 1 0 0 [(a0, .inr (8, [.int (iI a0_refusal), .ref a0_text, .int (iI a0_textSize), .ref a0_now, .ref a0_trial, .ref a0_diary, .int (iI a0_acts), .ref a0_kept, .ref a0_isKept, .ref a0_clip, .ref a0_line, .int (iI a0_lineSize), .ref a0_read, .int (iI a0_readSize), .ref a0_opens, .ref a0_chains, .ref a0_factors, .ref a0_plains, .ref a0_belows, .ref a0_owned, .int (iI a0_deep), .ref a0_wides, .ref a0_highs, .ref a0_lows, .ref a0_itemWides, .ref a0_pile])), (a0_diary, .inl (cs.1, 2576, .inl (aI a0_diaryF))), (a0_now, .inl (cs.1, 184, .inl (aI a0_nowF)))] [(0, .ref a0)] 13 [.int (iI z2), .ref a0]) h (fun z2 h => ?_) (fun k1 hk1 h => ?_)
  · obtain ⟨r3, hr3, h⟩ := bd_inv h
    refine j_callV (pc := 13) ok (k_X8_refused (a0 := a0) (a0_text := a0_text) (a0_now := a0_now) (a0_trial := a0_trial) (a0_diary := a0_diary) (a0_kept := a0_kept) (a0_isKept := a0_isKept) (a0_clip := a0_clip) (a0_line := a0_line) (a0_read := a0_read) (a0_opens := a0_opens) (a0_chains := a0_chains) (a0_factors := a0_factors) (a0_plains := a0_plains) (a0_belows := a0_belows) (a0_owned := a0_owned) (a0_wides := a0_wides) (a0_highs := a0_highs) (a0_lows := a0_lows) (a0_itemWides := a0_itemWides) (a0_pile := a0_pile) (a0_refusal := a0_refusal) (a0_textSize := a0_textSize) (a0_acts := a0_acts) (a0_lineSize := a0_lineSize) (a0_readSize := a0_readSize) (a0_deep := a0_deep) (x1 := z2) hr3) gV_X8_150 ⟨rfl, hd_X8_refused⟩ [0] (by decide) rfl rfl 0 rfl rfl rfl rfl ⟨Nat.zero_le _, Nat.zero_le _⟩ (Nat.le_of_ble_eq_true rfl) dX8_undo_13 rfl [(a0, .inr (8, [.int (iI r3.2), .ref a0_text, .int (iI a0_textSize), .ref a0_now, .ref a0_trial, .ref a0_diary, .int (iI a0_acts), .ref a0_kept, .ref a0_isKept, .ref a0_clip, .ref a0_line, .int (iI a0_lineSize), .ref a0_read, .int (iI a0_readSize), .ref a0_opens, .ref a0_chains, .ref a0_factors, .ref a0_plains, .ref a0_belows, .ref a0_owned, .int (iI a0_deep), .ref a0_wides, .ref a0_highs, .ref a0_lows, .ref a0_itemWides, .ref a0_pile])), (a0_diary, .inl (cs.1, 2576, .inl (aI a0_diaryF))), (a0_now, .inl (cs.1, 184, .inl (aI a0_nowF)))] rfl ?_
    refine j_if_eq (pc := 16) 21 ok dX8_undo_16 (by decide) h (fun h => ?_) (fun h => ?_)
    · refine j_aload_n (pc := 21) 0 ok dX8_undo_21 rfl rfl ?_
      refine j_dup (pc := 22) ok dX8_undo_22 rfl ?_
      refine gf_X8_182_8 (pc := 23) 0 ok rfl dX8_undo_23 ?_
      refine j_iconst (pc := 26) ok dX8_undo_26 ?_
      refine j_isub (pc := 27) ok dX8_undo_27 ?_
      refine pf_X8_182_8 (pc := 28) 0 ok rfl dX8_undo_28 [(a0, .inr (8, [.int (iI r3.2), .ref a0_text, .int (iI a0_textSize), .ref a0_now, .ref a0_trial, .ref a0_diary, .int (iI (a0_acts - 1)), .ref a0_kept, .ref a0_isKept, .ref a0_clip, .ref a0_line, .int (iI a0_lineSize), .ref a0_read, .int (iI a0_readSize), .ref a0_opens, .ref a0_chains, .ref a0_factors, .ref a0_plains, .ref a0_belows, .ref a0_owned, .int (iI a0_deep), .ref a0_wides, .ref a0_highs, .ref a0_lows, .ref a0_itemWides, .ref a0_pile])), (a0_diary, .inl (cs.1, 2576, .inl (aI a0_diaryF))), (a0_now, .inl (cs.1, 184, .inl (aI a0_nowF)))] rfl ?_
      refine j_aload_n (pc := 31) 0 ok dX8_undo_31 rfl rfl ?_
      refine gf_X8_19_8 (pc := 32) 0 ok rfl dX8_undo_32 ?_
      refine j_sipush (pc := 35) ok dX8_undo_35 (by decide) ?_
      refine j_aload_n (pc := 38) 0 ok dX8_undo_38 rfl rfl ?_
      refine gf_X8_182_8 (pc := 39) 0 ok rfl dX8_undo_39 ?_
      refine j_imul (pc := 42) ok dX8_undo_42 ?_
      refine j_aload_n (pc := 43) 0 ok dX8_undo_43 rfl rfl ?_
      refine gf_X8_13_8 (pc := 44) 0 ok rfl dX8_undo_44 ?_
      refine j_iconst (pc := 47) ok dX8_undo_47 ?_
      obtain ⟨r4, hr4, h⟩ := bd_inv h
      refine j_callS (pc := 48) ok (k_X8_copyPage (a0 := a0_diary) (a0N := 2576) (a2 := a0_now) (a2N := 184) (a0F := a0_diaryF) (a2F := a0_nowF) (x1 := 184 * (a0_acts - 1)) (x3 := 0) hr4) gS_X8_226 hd_X8_copyPage [1, 2] (by decide) rfl rfl rfl rfl ⟨Nat.zero_le _, Nat.zero_le _⟩ (Nat.le_of_ble_eq_true rfl) dX8_undo_48 rfl [(a0, .inr (8, [.int (iI r3.2), .ref a0_text, .int (iI a0_textSize), .ref a0_now, .ref a0_trial, .ref a0_diary, .int (iI (a0_acts - 1)), .ref a0_kept, .ref a0_isKept, .ref a0_clip, .ref a0_line, .int (iI a0_lineSize), .ref a0_read, .int (iI a0_readSize), .ref a0_opens, .ref a0_chains, .ref a0_factors, .ref a0_plains, .ref a0_belows, .ref a0_owned, .int (iI a0_deep), .ref a0_wides, .ref a0_highs, .ref a0_lows, .ref a0_itemWides, .ref a0_pile])), (a0_diary, .inl (cs.1, 2576, .inl (aI a0_diaryF))), (a0_now, .inl (cs.1, 184, .inl (aI r4)))] rfl ?_
      refine j_aload_n (pc := 51) 0 ok dX8_undo_51 rfl rfl ?_
      refine gf_X8_182_8 (pc := 52) 0 ok rfl dX8_undo_52 ?_
      obtain rfl := Option.some.inj h
      exact fin _ 55 dX8_undo_55
    · refine j_iconst (pc := 19) ok dX8_undo_19 ?_
      obtain rfl := Option.some.inj h
      exact fin _ 20 dX8_undo_20
  · refine j_if_ne (pc := 5) 12 ok dX8_undo_5 (by decide) h (fun h => ?_) (fun h => ?_)
    · refine j_iconst (pc := 12) ok dX8_undo_12 ?_
      exact hk1 0 h
    · refine j_iconst (pc := 8) ok dX8_undo_8 ?_
      refine j_goto (pc := 9) 13 ok dX8_undo_9 (by decide) ?_
      exact hk1 1 h
def f_X8_layRow_39 (a1N : Nat) (a1F : (Nat → Int)) (y2 : Int) (e39_374 : (Nat → Int) × (Nat → Int) × (Nat → Int) × (Nat → Int) × Int × Int → Option ((Nat → Int) × (Nat → Int) × (Nat → Int) × (Nat → Int))) : Nat → (Nat → Int) → (Nat → Int) → (Nat → Int) → (Nat → Int) → Int → Int → Option ((Nat → Int) × (Nat → Int) × (Nat → Int) × (Nat → Int))
  | 0, _, _, _, _, _, _ => none
  | n + 1, a0_highsF, a0_itemWidesF, a0_lowsF, a0_widesF, y3, y4 => cLt y4 y3 (gIn y4 512 (gIn y4 a1N (bd (f_X8_isBegin (a1F y4.toNat)) (fun r4 => jn (fun (z15 : (Nat → Int) × Int × Int) => gIn y2 512 (gIn y4 512 (gIn y2 512 (gIn y2 512 (jn (fun (z17 : Int) => gIn y2 512 (gIn y2 512 (jn (fun (z19 : Int) => gIn y2 512 (bd (f_X8_itemEnd a1N a1F y4) (fun r20 => f_X8_layRow_39 a1N a1F y2 e39_374 n (va_up a0_highsF y2.toNat z17) z15.1 (va_up a0_lowsF y2.toNat z19) (va_up a0_widesF y2.toNat ((a0_widesF y2.toNat) + (z15.1 y4.toNat))) y3 r20))) (fun k18 => cLt (a0_lowsF y2.toNat) z15.2.2 (k18 z15.2.2) (gIn y2 512 (k18 (a0_lowsF y2.toNat))))))) (fun k16 => cLt (a0_highsF y2.toNat) z15.2.1 (k16 z15.2.1) (gIn y2 512 (k16 (a0_highsF y2.toNat))))))))) (fun k5 => cEq r4 0 (k5 (va_up a0_itemWidesF y4.toNat 1, 0, 0)) (gIn (y4 + 1) 512 (gIn (y4 + 1) 512 (gIn y4 a1N (gIn (y4 + 1) 512 (jn (fun (z7 : Int) => gIn y4 512 (jn (fun (z9 : Int) => jn (fun (z11 : Int) => cEq (-(a1F y4.toNat)) 1 (bd (f_X8_rowEnd a1N a1F (y4 + 1)) (fun r12 => gIn (r12 + 1) 512 (gIn (r12 + 1) 512 (gIn (r12 + 1) 512 (gIn (y4 + 1) 512 (jn (fun (z14 : Int) => gIn y4 512 (k5 (va_up (va_up (va_up a0_itemWidesF y4.toNat 1) y4.toNat ((a0_widesF (y4 + 1).toNat) + z7)) y4.toNat z14, z9, ((a0_highsF (r12 + 1).toNat) + 1) + (a0_lowsF (r12 + 1).toNat)))) (fun k13 => cLt (a0_widesF (y4 + 1).toNat) (a0_widesF (r12 + 1).toNat) (gIn (r12 + 1) 512 (k13 (a0_widesF (r12 + 1).toNat))) (gIn (y4 + 1) 512 (k13 (a0_widesF (y4 + 1).toNat)))))))))) (k5 (va_up (va_up a0_itemWidesF y4.toNat 1) y4.toNat ((a0_widesF (y4 + 1).toNat) + z7), z9, z11))) (fun k10 => cEq (-(a1F y4.toNat)) 3 (k10 (((a0_highsF (y4 + 1).toNat) + 1) + (a0_lowsF (y4 + 1).toNat))) (cLt 3 (-(a1F y4.toNat)) (gIn (y4 + 1) 512 (k10 (a0_lowsF (y4 + 1).toNat))) (k10 0)))) (fun k8 => cLt (-(a1F y4.toNat)) 3 (k8 (((a0_highsF (y4 + 1).toNat) + 1) + (a0_lowsF (y4 + 1).toNat))) (cEq (-(a1F y4.toNat)) 3 (k8 0) (cEq (-(a1F y4.toNat)) 4 (gIn (y4 + 1) 512 (k8 ((a0_highsF (y4 + 1).toNat) + 1))) (gIn (y4 + 1) 512 (k8 (a0_highsF (y4 + 1).toNat)))))))) (fun k6 => cEq (-(a1F y4.toNat)) 4 (k6 1) (cEq (-(a1F y4.toNat)) 5 (k6 2) (k6 0))))))))))))) (e39_374 (a0_highsF, a0_itemWidesF, a0_lowsF, a0_widesF, y3, y4))
set_option maxRecDepth 100000 in
theorem l_X8_layRow_39 {D : va_G} {cs : q_CS} {κ : q_X} {a0 a0_text a0_now a0_trial a0_diary a0_kept a0_isKept a0_clip a0_line a0_read a0_opens a0_chains a0_factors a0_plains a0_belows a0_owned a0_wides a0_highs a0_lows a0_itemWides a0_pile a1 : Nat} {a1N : Nat} {a0_refusal a0_textSize a0_acts a0_lineSize a0_readSize a0_deep : Int} {a1F : (Nat → Int)} {y2 : Int} {r : ((Nat → Int) × (Nat → Int) × (Nat → Int) × (Nat → Int))} {e39_374 : (Nat → Int) × (Nat → Int) × (Nat → Int) × (Nat → Int) × Int × Int → Option ((Nat → Int) × (Nat → Int) × (Nat → Int) × (Nat → Int))} (ok : q_ok D cs κ cX8_layRow 11 RX8 (q_rm 3 64)) (fin : ∀ (lv : List (Nat × Value)) (pc : Nat), decode cX8_layRow pc = .ok (.return_, 1) → q_J D κ 11 0 0 [(a0, .inr (8, [.int (iI a0_refusal), .ref a0_text, .int (iI a0_textSize), .ref a0_now, .ref a0_trial, .ref a0_diary, .int (iI a0_acts), .ref a0_kept, .ref a0_isKept, .ref a0_clip, .ref a0_line, .int (iI a0_lineSize), .ref a0_read, .int (iI a0_readSize), .ref a0_opens, .ref a0_chains, .ref a0_factors, .ref a0_plains, .ref a0_belows, .ref a0_owned, .int (iI a0_deep), .ref a0_wides, .ref a0_highs, .ref a0_lows, .ref a0_itemWides, .ref a0_pile])), (a0_highs, .inl (cs.1, 512, .inl (aI r.1))), (a0_itemWides, .inl (cs.1, 512, .inl (aI r.2.1))), (a0_lows, .inl (cs.1, 512, .inl (aI r.2.2.1))), (a0_wides, .inl (cs.1, 512, .inl (aI r.2.2.2))), (a1, .inl (cs.1, a1N, .inl (aI a1F)))] lv pc []) (he39_374 : ∀ x : (Nat → Int) × (Nat → Int) × (Nat → Int) × (Nat → Int) × Int × Int, e39_374 x = some r → q_J D κ 11 0 0 [(a0, .inr (8, [.int (iI a0_refusal), .ref a0_text, .int (iI a0_textSize), .ref a0_now, .ref a0_trial, .ref a0_diary, .int (iI a0_acts), .ref a0_kept, .ref a0_isKept, .ref a0_clip, .ref a0_line, .int (iI a0_lineSize), .ref a0_read, .int (iI a0_readSize), .ref a0_opens, .ref a0_chains, .ref a0_factors, .ref a0_plains, .ref a0_belows, .ref a0_owned, .int (iI a0_deep), .ref a0_wides, .ref a0_highs, .ref a0_lows, .ref a0_itemWides, .ref a0_pile])), (a0_highs, .inl (cs.1, 512, .inl (aI x.1))), (a0_itemWides, .inl (cs.1, 512, .inl (aI x.2.1))), (a0_lows, .inl (cs.1, 512, .inl (aI x.2.2.1))), (a0_wides, .inl (cs.1, 512, .inl (aI x.2.2.2.1))), (a1, .inl (cs.1, a1N, .inl (aI a1F)))] [] 374 []) : ∀ (n : Nat) (a0_highsF : (Nat → Int)) (a0_itemWidesF : (Nat → Int)) (a0_lowsF : (Nat → Int)) (a0_widesF : (Nat → Int)) (y3 : Int) (y4 : Int), f_X8_layRow_39 a1N a1F y2 e39_374 n a0_highsF a0_itemWidesF a0_lowsF a0_widesF y3 y4 = some r → q_J D κ 11 0 0 [(a0, .inr (8, [.int (iI a0_refusal), .ref a0_text, .int (iI a0_textSize), .ref a0_now, .ref a0_trial, .ref a0_diary, .int (iI a0_acts), .ref a0_kept, .ref a0_isKept, .ref a0_clip, .ref a0_line, .int (iI a0_lineSize), .ref a0_read, .int (iI a0_readSize), .ref a0_opens, .ref a0_chains, .ref a0_factors, .ref a0_plains, .ref a0_belows, .ref a0_owned, .int (iI a0_deep), .ref a0_wides, .ref a0_highs, .ref a0_lows, .ref a0_itemWides, .ref a0_pile])), (a0_highs, .inl (cs.1, 512, .inl (aI a0_highsF))), (a0_itemWides, .inl (cs.1, 512, .inl (aI a0_itemWidesF))), (a0_lows, .inl (cs.1, 512, .inl (aI a0_lowsF))), (a0_wides, .inl (cs.1, 512, .inl (aI a0_widesF))), (a1, .inl (cs.1, a1N, .inl (aI a1F)))] [(0, .ref a0), (1, .ref a1), (2, .int (iI y2)), (3, .int (iI y3)), (4, .int (iI y4))] 39 [] := by
  intro n
  induction n with
  | zero =>
    intro a0_highsF a0_itemWidesF a0_lowsF a0_widesF y3 y4 h
    exact absurd h (by unfold f_X8_layRow_39; exact fun z => by cases z)
  | succ n ih =>
    intro a0_highsF a0_itemWidesF a0_lowsF a0_widesF y3 y4 h
    unfold f_X8_layRow_39 at h
    refine j_iload (pc := 39) 4 ok dX8_layRow_39 rfl ?_
    refine j_iload_n (pc := 41) 3 ok dX8_layRow_41 rfl rfl ?_
    refine j_icmp_ge (pc := 42) 374 ok dX8_layRow_42 (by decide) h (fun h => ?_) (fun h => ?_)
    · refine j_lv [] rfl ?_
      exact he39_374 (a0_highsF, a0_itemWidesF, a0_lowsF, a0_widesF, y3, y4) h
    · refine j_iconst (pc := 45) ok dX8_layRow_45 ?_
      refine j_istore (pc := 46) (lv' := [(5, .int (iI 0)), (0, .ref a0), (1, .ref a1), (2, .int (iI y2)), (3, .int (iI y3)), (4, .int (iI y4))]) ok dX8_layRow_46 (by decide) rfl ?_
      refine j_iconst (pc := 48) ok dX8_layRow_48 ?_
      refine j_istore (pc := 49) (lv' := [(6, .int (iI 0)), (5, .int (iI 0)), (0, .ref a0), (1, .ref a1), (2, .int (iI y2)), (3, .int (iI y3)), (4, .int (iI y4))]) ok dX8_layRow_49 (by decide) rfl ?_
      refine j_aload_n (pc := 51) 2 ok dX8_layRow_51 rfl rfl ?_
      refine gf_X8_65_8 (pc := 52) 0 ok rfl dX8_layRow_52 ?_
      refine j_iload (pc := 55) 6 ok dX8_layRow_55 rfl ?_
      refine j_iconst (pc := 57) ok dX8_layRow_57 ?_
      refine j_iastw (pc := 58) 2 ok rfl dX8_layRow_58 h [(a0, .inr (8, [.int (iI a0_refusal), .ref a0_text, .int (iI a0_textSize), .ref a0_now, .ref a0_trial, .ref a0_diary, .int (iI a0_acts), .ref a0_kept, .ref a0_isKept, .ref a0_clip, .ref a0_line, .int (iI a0_lineSize), .ref a0_read, .int (iI a0_readSize), .ref a0_opens, .ref a0_chains, .ref a0_factors, .ref a0_plains, .ref a0_belows, .ref a0_owned, .int (iI a0_deep), .ref a0_wides, .ref a0_highs, .ref a0_lows, .ref a0_itemWides, .ref a0_pile])), (a0_highs, .inl (cs.1, 512, .inl (aI a0_highsF))), (a0_itemWides, .inl (cs.1, 512, .inl (aI (va_up a0_itemWidesF y4.toNat 1)))), (a0_lows, .inl (cs.1, 512, .inl (aI a0_lowsF))), (a0_wides, .inl (cs.1, 512, .inl (aI a0_widesF))), (a1, .inl (cs.1, a1N, .inl (aI a1F)))] rfl (fun h => ?_)
      refine j_aload_n (pc := 59) 3 ok dX8_layRow_59 rfl rfl ?_
      refine j_iload (pc := 60) 6 ok dX8_layRow_60 rfl ?_
      refine j_iald (pc := 62) 5 ok rfl dX8_layRow_62 h (fun h => ?_)
      obtain ⟨r4, hr4, h⟩ := bd_inv h
      refine j_callS (pc := 63) ok (k_X8_isBegin (x0 := a1F y4.toNat) hr4) gS_X8_97 hd_X8_isBegin [] (by decide) rfl rfl rfl rfl ⟨Nat.zero_le _, Nat.zero_le _⟩ (Nat.le_of_ble_eq_true rfl) dX8_layRow_63 rfl [(a0, .inr (8, [.int (iI a0_refusal), .ref a0_text, .int (iI a0_textSize), .ref a0_now, .ref a0_trial, .ref a0_diary, .int (iI a0_acts), .ref a0_kept, .ref a0_isKept, .ref a0_clip, .ref a0_line, .int (iI a0_lineSize), .ref a0_read, .int (iI a0_readSize), .ref a0_opens, .ref a0_chains, .ref a0_factors, .ref a0_plains, .ref a0_belows, .ref a0_owned, .int (iI a0_deep), .ref a0_wides, .ref a0_highs, .ref a0_lows, .ref a0_itemWides, .ref a0_pile])), (a0_highs, .inl (cs.1, 512, .inl (aI a0_highsF))), (a0_itemWides, .inl (cs.1, 512, .inl (aI (va_up a0_itemWidesF y4.toNat 1)))), (a0_lows, .inl (cs.1, 512, .inl (aI a0_lowsF))), (a0_wides, .inl (cs.1, 512, .inl (aI a0_widesF))), (a1, .inl (cs.1, a1N, .inl (aI a1F)))] rfl ?_
      refine jn_use (P := fun z15 => q_J D κ 11 0 0 [(a0, .inr (8, [.int (iI a0_refusal), .ref a0_text, .int (iI a0_textSize), .ref a0_now, .ref a0_trial, .ref a0_diary, .int (iI a0_acts), .ref a0_kept, .ref a0_isKept, .ref a0_clip, .ref a0_line, .int (iI a0_lineSize), .ref a0_read, .int (iI a0_readSize), .ref a0_opens, .ref a0_chains, .ref a0_factors, .ref a0_plains, .ref a0_belows, .ref a0_owned, .int (iI a0_deep), .ref a0_wides, .ref a0_highs, .ref a0_lows, .ref a0_itemWides, .ref a0_pile])), (a0_highs, .inl (cs.1, 512, .inl (aI a0_highsF))), (a0_itemWides, .inl (cs.1, 512, .inl (aI z15.1))), (a0_lows, .inl (cs.1, 512, .inl (aI a0_lowsF))), (a0_wides, .inl (cs.1, 512, .inl (aI a0_widesF))), (a1, .inl (cs.1, a1N, .inl (aI a1F)))] [(0, .ref a0), (1, .ref a1), (2, .int (iI y2)), (3, .int (iI y3)), (4, .int (iI y4)), (5, .int (iI z15.2.1)), (6, .int (iI z15.2.2))] 291 []) h (fun z15 h => ?_) (fun k5 hk5 h => ?_)
      · refine j_aload_n (pc := 291) 0 ok dX8_layRow_291 rfl rfl ?_
        refine gf_X8_56_8 (pc := 292) 0 ok rfl dX8_layRow_292 ?_
        refine j_iload_n (pc := 295) 2 ok dX8_layRow_295 rfl rfl ?_
        refine j_dup2 (pc := 296) ok dX8_layRow_296 rfl rfl ?_
        refine j_iald (pc := 297) 4 ok rfl dX8_layRow_297 h (fun h => ?_)
        refine j_aload_n (pc := 298) 0 ok dX8_layRow_298 rfl rfl ?_
        refine gf_X8_65_8 (pc := 299) 0 ok rfl dX8_layRow_299 ?_
        refine j_iload (pc := 302) 4 ok dX8_layRow_302 rfl ?_
        refine j_iald (pc := 304) 2 ok rfl dX8_layRow_304 h (fun h => ?_)
        refine j_iadd (pc := 305) ok dX8_layRow_305 ?_
        refine j_iastw (pc := 306) 4 ok rfl dX8_layRow_306 h [(a0, .inr (8, [.int (iI a0_refusal), .ref a0_text, .int (iI a0_textSize), .ref a0_now, .ref a0_trial, .ref a0_diary, .int (iI a0_acts), .ref a0_kept, .ref a0_isKept, .ref a0_clip, .ref a0_line, .int (iI a0_lineSize), .ref a0_read, .int (iI a0_readSize), .ref a0_opens, .ref a0_chains, .ref a0_factors, .ref a0_plains, .ref a0_belows, .ref a0_owned, .int (iI a0_deep), .ref a0_wides, .ref a0_highs, .ref a0_lows, .ref a0_itemWides, .ref a0_pile])), (a0_highs, .inl (cs.1, 512, .inl (aI a0_highsF))), (a0_itemWides, .inl (cs.1, 512, .inl (aI z15.1))), (a0_lows, .inl (cs.1, 512, .inl (aI a0_lowsF))), (a0_wides, .inl (cs.1, 512, .inl (aI (va_up a0_widesF y2.toNat ((a0_widesF y2.toNat) + (z15.1 y4.toNat)))))), (a1, .inl (cs.1, a1N, .inl (aI a1F)))] rfl (fun h => ?_)
        refine j_aload_n (pc := 307) 0 ok dX8_layRow_307 rfl rfl ?_
        refine gf_X8_59_8 (pc := 308) 0 ok rfl dX8_layRow_308 ?_
        refine j_iload_n (pc := 311) 2 ok dX8_layRow_311 rfl rfl ?_
        refine j_iload (pc := 312) 5 ok dX8_layRow_312 rfl ?_
        refine j_aload_n (pc := 314) 0 ok dX8_layRow_314 rfl rfl ?_
        refine gf_X8_59_8 (pc := 315) 0 ok rfl dX8_layRow_315 ?_
        refine j_iload_n (pc := 318) 2 ok dX8_layRow_318 rfl rfl ?_
        refine j_iald (pc := 319) 1 ok rfl dX8_layRow_319 h (fun h => ?_)
        refine jn_use (P := fun z17 => q_J D κ 11 0 0 [(a0, .inr (8, [.int (iI a0_refusal), .ref a0_text, .int (iI a0_textSize), .ref a0_now, .ref a0_trial, .ref a0_diary, .int (iI a0_acts), .ref a0_kept, .ref a0_isKept, .ref a0_clip, .ref a0_line, .int (iI a0_lineSize), .ref a0_read, .int (iI a0_readSize), .ref a0_opens, .ref a0_chains, .ref a0_factors, .ref a0_plains, .ref a0_belows, .ref a0_owned, .int (iI a0_deep), .ref a0_wides, .ref a0_highs, .ref a0_lows, .ref a0_itemWides, .ref a0_pile])), (a0_highs, .inl (cs.1, 512, .inl (aI a0_highsF))), (a0_itemWides, .inl (cs.1, 512, .inl (aI z15.1))), (a0_lows, .inl (cs.1, 512, .inl (aI a0_lowsF))), (a0_wides, .inl (cs.1, 512, .inl (aI (va_up a0_widesF y2.toNat ((a0_widesF y2.toNat) + (z15.1 y4.toNat)))))), (a1, .inl (cs.1, a1N, .inl (aI a1F)))] [(0, .ref a0), (1, .ref a1), (2, .int (iI y2)), (3, .int (iI y3)), (4, .int (iI y4)), (6, .int (iI z15.2.2))] 334 [.int (iI z17), .int (iI y2), .ref a0_highs]) h (fun z17 h => ?_) (fun k16 hk16 h => ?_)
        · refine j_iastw (pc := 334) 1 ok rfl dX8_layRow_334 h [(a0, .inr (8, [.int (iI a0_refusal), .ref a0_text, .int (iI a0_textSize), .ref a0_now, .ref a0_trial, .ref a0_diary, .int (iI a0_acts), .ref a0_kept, .ref a0_isKept, .ref a0_clip, .ref a0_line, .int (iI a0_lineSize), .ref a0_read, .int (iI a0_readSize), .ref a0_opens, .ref a0_chains, .ref a0_factors, .ref a0_plains, .ref a0_belows, .ref a0_owned, .int (iI a0_deep), .ref a0_wides, .ref a0_highs, .ref a0_lows, .ref a0_itemWides, .ref a0_pile])), (a0_highs, .inl (cs.1, 512, .inl (aI (va_up a0_highsF y2.toNat z17)))), (a0_itemWides, .inl (cs.1, 512, .inl (aI z15.1))), (a0_lows, .inl (cs.1, 512, .inl (aI a0_lowsF))), (a0_wides, .inl (cs.1, 512, .inl (aI (va_up a0_widesF y2.toNat ((a0_widesF y2.toNat) + (z15.1 y4.toNat)))))), (a1, .inl (cs.1, a1N, .inl (aI a1F)))] rfl (fun h => ?_)
          refine j_aload_n (pc := 335) 0 ok dX8_layRow_335 rfl rfl ?_
          refine gf_X8_62_8 (pc := 336) 0 ok rfl dX8_layRow_336 ?_
          refine j_iload_n (pc := 339) 2 ok dX8_layRow_339 rfl rfl ?_
          refine j_iload (pc := 340) 5 ok dX8_layRow_340 rfl ?_
          refine j_aload_n (pc := 342) 0 ok dX8_layRow_342 rfl rfl ?_
          refine gf_X8_62_8 (pc := 343) 0 ok rfl dX8_layRow_343 ?_
          refine j_iload_n (pc := 346) 2 ok dX8_layRow_346 rfl rfl ?_
          refine j_iald (pc := 347) 3 ok rfl dX8_layRow_347 h (fun h => ?_)
          refine jn_use (P := fun z19 => q_J D κ 11 0 0 [(a0, .inr (8, [.int (iI a0_refusal), .ref a0_text, .int (iI a0_textSize), .ref a0_now, .ref a0_trial, .ref a0_diary, .int (iI a0_acts), .ref a0_kept, .ref a0_isKept, .ref a0_clip, .ref a0_line, .int (iI a0_lineSize), .ref a0_read, .int (iI a0_readSize), .ref a0_opens, .ref a0_chains, .ref a0_factors, .ref a0_plains, .ref a0_belows, .ref a0_owned, .int (iI a0_deep), .ref a0_wides, .ref a0_highs, .ref a0_lows, .ref a0_itemWides, .ref a0_pile])), (a0_highs, .inl (cs.1, 512, .inl (aI (va_up a0_highsF y2.toNat z17)))), (a0_itemWides, .inl (cs.1, 512, .inl (aI z15.1))), (a0_lows, .inl (cs.1, 512, .inl (aI a0_lowsF))), (a0_wides, .inl (cs.1, 512, .inl (aI (va_up a0_widesF y2.toNat ((a0_widesF y2.toNat) + (z15.1 y4.toNat)))))), (a1, .inl (cs.1, a1N, .inl (aI a1F)))] [(0, .ref a0), (1, .ref a1), (2, .int (iI y2)), (3, .int (iI y3)), (4, .int (iI y4))] 362 [.int (iI z19), .int (iI y2), .ref a0_lows]) h (fun z19 h => ?_) (fun k18 hk18 h => ?_)
          · refine j_iastw (pc := 362) 3 ok rfl dX8_layRow_362 h [(a0, .inr (8, [.int (iI a0_refusal), .ref a0_text, .int (iI a0_textSize), .ref a0_now, .ref a0_trial, .ref a0_diary, .int (iI a0_acts), .ref a0_kept, .ref a0_isKept, .ref a0_clip, .ref a0_line, .int (iI a0_lineSize), .ref a0_read, .int (iI a0_readSize), .ref a0_opens, .ref a0_chains, .ref a0_factors, .ref a0_plains, .ref a0_belows, .ref a0_owned, .int (iI a0_deep), .ref a0_wides, .ref a0_highs, .ref a0_lows, .ref a0_itemWides, .ref a0_pile])), (a0_highs, .inl (cs.1, 512, .inl (aI (va_up a0_highsF y2.toNat z17)))), (a0_itemWides, .inl (cs.1, 512, .inl (aI z15.1))), (a0_lows, .inl (cs.1, 512, .inl (aI (va_up a0_lowsF y2.toNat z19)))), (a0_wides, .inl (cs.1, 512, .inl (aI (va_up a0_widesF y2.toNat ((a0_widesF y2.toNat) + (z15.1 y4.toNat)))))), (a1, .inl (cs.1, a1N, .inl (aI a1F)))] rfl (fun h => ?_)
            refine j_aload_n (pc := 363) 1 ok dX8_layRow_363 rfl rfl ?_
            refine j_iload (pc := 364) 4 ok dX8_layRow_364 rfl ?_
            obtain ⟨r20, hr20, h⟩ := bd_inv h
            refine j_callS (pc := 366) ok (k_X8_itemEnd (a0 := a1) (a0N := a1N) (a0F := a1F) (x1 := y4) hr20) gS_X8_107 hd_X8_itemEnd [5] (by decide) rfl rfl rfl rfl ⟨Nat.zero_le _, Nat.zero_le _⟩ (Nat.le_of_ble_eq_true rfl) dX8_layRow_366 rfl [(a0, .inr (8, [.int (iI a0_refusal), .ref a0_text, .int (iI a0_textSize), .ref a0_now, .ref a0_trial, .ref a0_diary, .int (iI a0_acts), .ref a0_kept, .ref a0_isKept, .ref a0_clip, .ref a0_line, .int (iI a0_lineSize), .ref a0_read, .int (iI a0_readSize), .ref a0_opens, .ref a0_chains, .ref a0_factors, .ref a0_plains, .ref a0_belows, .ref a0_owned, .int (iI a0_deep), .ref a0_wides, .ref a0_highs, .ref a0_lows, .ref a0_itemWides, .ref a0_pile])), (a0_highs, .inl (cs.1, 512, .inl (aI (va_up a0_highsF y2.toNat z17)))), (a0_itemWides, .inl (cs.1, 512, .inl (aI z15.1))), (a0_lows, .inl (cs.1, 512, .inl (aI (va_up a0_lowsF y2.toNat z19)))), (a0_wides, .inl (cs.1, 512, .inl (aI (va_up a0_widesF y2.toNat ((a0_widesF y2.toNat) + (z15.1 y4.toNat)))))), (a1, .inl (cs.1, a1N, .inl (aI a1F)))] rfl ?_
            refine j_istore (pc := 369) (lv' := [(4, .int (iI r20)), (0, .ref a0), (1, .ref a1), (2, .int (iI y2)), (3, .int (iI y3))]) ok dX8_layRow_369 (by decide) rfl ?_
            refine j_goto (pc := 371) 39 ok dX8_layRow_371 (by decide) ?_
            refine j_lv [1, 2, 3, 4, 0] rfl ?_
            exact ih _ _ _ _ _ _ h
          · refine j_icmp_le (pc := 348) 356 ok dX8_layRow_348 (by decide) h (fun h => ?_) (fun h => ?_)
            · refine j_aload_n (pc := 356) 0 ok dX8_layRow_356 rfl rfl ?_
              refine gf_X8_62_8 (pc := 357) 0 ok rfl dX8_layRow_357 ?_
              refine j_iload_n (pc := 360) 2 ok dX8_layRow_360 rfl rfl ?_
              refine j_iald (pc := 361) 3 ok rfl dX8_layRow_361 h (fun h => ?_)
              refine j_lv [0, 1, 2, 3, 4] rfl ?_
              exact hk18 (a0_lowsF y2.toNat) h
            · refine j_iload (pc := 351) 5 ok dX8_layRow_351 rfl ?_
              refine j_goto (pc := 353) 362 ok dX8_layRow_353 (by decide) ?_
              refine j_lv [0, 1, 2, 3, 4] rfl ?_
              exact hk18 z15.2.2 h
        · refine j_icmp_le (pc := 320) 328 ok dX8_layRow_320 (by decide) h (fun h => ?_) (fun h => ?_)
          · refine j_aload_n (pc := 328) 0 ok dX8_layRow_328 rfl rfl ?_
            refine gf_X8_59_8 (pc := 329) 0 ok rfl dX8_layRow_329 ?_
            refine j_iload_n (pc := 332) 2 ok dX8_layRow_332 rfl rfl ?_
            refine j_iald (pc := 333) 1 ok rfl dX8_layRow_333 h (fun h => ?_)
            refine j_lv [0, 1, 2, 3, 4, 6] rfl ?_
            exact hk16 (a0_highsF y2.toNat) h
          · refine j_iload (pc := 323) 5 ok dX8_layRow_323 rfl ?_
            refine j_goto (pc := 325) 334 ok dX8_layRow_325 (by decide) ?_
            refine j_lv [0, 1, 2, 3, 4, 6] rfl ?_
            exact hk16 z15.2.1 h
      · refine j_if_eq (pc := 66) 291 ok dX8_layRow_66 (by decide) h (fun h => ?_) (fun h => ?_)
        · refine j_lv [2, 3, 4, 5, 6, 1, 0] rfl ?_
          exact hk5 (va_up a0_itemWidesF y4.toNat 1, 0, 0) h
        · refine j_iload (pc := 69) 6 ok dX8_layRow_69 rfl ?_
          refine j_iconst (pc := 71) ok dX8_layRow_71 ?_
          refine j_iadd (pc := 72) ok dX8_layRow_72 ?_
          refine j_istore (pc := 73) (lv' := [(7, .int (iI (y4 + 1))), (6, .int (iI 0)), (5, .int (iI 0)), (0, .ref a0), (1, .ref a1), (2, .int (iI y2)), (3, .int (iI y3)), (4, .int (iI y4))]) ok dX8_layRow_73 (by decide) rfl ?_
          refine j_aload_n (pc := 75) 3 ok dX8_layRow_75 rfl rfl ?_
          refine gf_X8_59_8 (pc := 76) 0 ok rfl dX8_layRow_76 ?_
          refine j_iload (pc := 79) 0 ok dX8_layRow_79 rfl ?_
          refine j_iald (pc := 81) 1 ok rfl dX8_layRow_81 h (fun h => ?_)
          refine j_iconst (pc := 82) ok dX8_layRow_82 ?_
          refine j_iadd (pc := 83) ok dX8_layRow_83 ?_
          refine j_aload_n (pc := 84) 3 ok dX8_layRow_84 rfl rfl ?_
          refine gf_X8_62_8 (pc := 85) 0 ok rfl dX8_layRow_85 ?_
          refine j_iload (pc := 88) 0 ok dX8_layRow_88 rfl ?_
          refine j_iald (pc := 90) 3 ok rfl dX8_layRow_90 h (fun h => ?_)
          refine j_iadd (pc := 91) ok dX8_layRow_91 ?_
          refine j_istore (pc := 92) (lv' := [(8, .int (iI (((a0_highsF (y4 + 1).toNat) + 1) + (a0_lowsF (y4 + 1).toNat)))), (7, .int (iI (y4 + 1))), (6, .int (iI 0)), (5, .int (iI 0)), (0, .ref a0), (1, .ref a1), (2, .int (iI y2)), (3, .int (iI y3)), (4, .int (iI y4))]) ok dX8_layRow_92 (by decide) rfl ?_
          refine j_aload_n (pc := 94) 5 ok dX8_layRow_94 rfl rfl ?_
          refine j_iload (pc := 95) 8 ok dX8_layRow_95 rfl ?_
          refine j_iald (pc := 97) 5 ok rfl dX8_layRow_97 h (fun h => ?_)
          refine j_ineg (pc := 98) ok dX8_layRow_98 ?_
          refine j_istore (pc := 99) (lv' := [(9, .int (iI (-(a1F y4.toNat)))), (8, .int (iI (((a0_highsF (y4 + 1).toNat) + 1) + (a0_lowsF (y4 + 1).toNat)))), (7, .int (iI (y4 + 1))), (6, .int (iI 0)), (5, .int (iI 0)), (0, .ref a0), (1, .ref a1), (2, .int (iI y2)), (3, .int (iI y3)), (4, .int (iI y4))]) ok dX8_layRow_99 (by decide) rfl ?_
          refine j_aload_n (pc := 101) 5 ok dX8_layRow_101 rfl rfl ?_
          refine gf_X8_65_8 (pc := 102) 0 ok rfl dX8_layRow_102 ?_
          refine j_iload (pc := 105) 9 ok dX8_layRow_105 rfl ?_
          refine j_aload_n (pc := 107) 5 ok dX8_layRow_107 rfl rfl ?_
          refine gf_X8_56_8 (pc := 108) 0 ok rfl dX8_layRow_108 ?_
          refine j_iload (pc := 111) 2 ok dX8_layRow_111 rfl ?_
          refine j_iald (pc := 113) 4 ok rfl dX8_layRow_113 h (fun h => ?_)
          refine j_iload (pc := 114) 0 ok dX8_layRow_114 rfl ?_
          refine j_iconst (pc := 116) ok dX8_layRow_116 ?_
          refine jn_use (P := fun z7 => q_J D κ 11 0 0 [(a0, .inr (8, [.int (iI a0_refusal), .ref a0_text, .int (iI a0_textSize), .ref a0_now, .ref a0_trial, .ref a0_diary, .int (iI a0_acts), .ref a0_kept, .ref a0_isKept, .ref a0_clip, .ref a0_line, .int (iI a0_lineSize), .ref a0_read, .int (iI a0_readSize), .ref a0_opens, .ref a0_chains, .ref a0_factors, .ref a0_plains, .ref a0_belows, .ref a0_owned, .int (iI a0_deep), .ref a0_wides, .ref a0_highs, .ref a0_lows, .ref a0_itemWides, .ref a0_pile])), (a0_highs, .inl (cs.1, 512, .inl (aI a0_highsF))), (a0_itemWides, .inl (cs.1, 512, .inl (aI (va_up a0_itemWidesF y4.toNat 1)))), (a0_lows, .inl (cs.1, 512, .inl (aI a0_lowsF))), (a0_wides, .inl (cs.1, 512, .inl (aI a0_widesF))), (a1, .inl (cs.1, a1N, .inl (aI a1F)))] [(0, .ref a0), (1, .ref a1), (2, .int (iI y2)), (3, .int (iI y3)), (4, .int (iI y4)), (7, .int (iI (y4 + 1))), (8, .int (iI (((a0_highsF (y4 + 1).toNat) + 1) + (a0_lowsF (y4 + 1).toNat)))), (9, .int (iI (-(a1F y4.toNat))))] 135 [.int (iI z7), .int (iI (a0_widesF (y4 + 1).toNat)), .int (iI y4), .ref a0_itemWides]) h (fun z7 h => ?_) (fun k6 hk6 h => ?_)
          · refine j_iadd (pc := 135) ok dX8_layRow_135 ?_
            refine j_iastw (pc := 136) 2 ok rfl dX8_layRow_136 h [(a0, .inr (8, [.int (iI a0_refusal), .ref a0_text, .int (iI a0_textSize), .ref a0_now, .ref a0_trial, .ref a0_diary, .int (iI a0_acts), .ref a0_kept, .ref a0_isKept, .ref a0_clip, .ref a0_line, .int (iI a0_lineSize), .ref a0_read, .int (iI a0_readSize), .ref a0_opens, .ref a0_chains, .ref a0_factors, .ref a0_plains, .ref a0_belows, .ref a0_owned, .int (iI a0_deep), .ref a0_wides, .ref a0_highs, .ref a0_lows, .ref a0_itemWides, .ref a0_pile])), (a0_highs, .inl (cs.1, 512, .inl (aI a0_highsF))), (a0_itemWides, .inl (cs.1, 512, .inl (aI (va_up (va_up a0_itemWidesF y4.toNat 1) y4.toNat ((a0_widesF (y4 + 1).toNat) + z7))))), (a0_lows, .inl (cs.1, 512, .inl (aI a0_lowsF))), (a0_wides, .inl (cs.1, 512, .inl (aI a0_widesF))), (a1, .inl (cs.1, a1N, .inl (aI a1F)))] rfl (fun h => ?_)
            refine j_iload (pc := 137) 7 ok dX8_layRow_137 rfl ?_
            refine j_iconst (pc := 139) ok dX8_layRow_139 ?_
            refine jn_use (P := fun z9 => q_J D κ 11 0 0 [(a0, .inr (8, [.int (iI a0_refusal), .ref a0_text, .int (iI a0_textSize), .ref a0_now, .ref a0_trial, .ref a0_diary, .int (iI a0_acts), .ref a0_kept, .ref a0_isKept, .ref a0_clip, .ref a0_line, .int (iI a0_lineSize), .ref a0_read, .int (iI a0_readSize), .ref a0_opens, .ref a0_chains, .ref a0_factors, .ref a0_plains, .ref a0_belows, .ref a0_owned, .int (iI a0_deep), .ref a0_wides, .ref a0_highs, .ref a0_lows, .ref a0_itemWides, .ref a0_pile])), (a0_highs, .inl (cs.1, 512, .inl (aI a0_highsF))), (a0_itemWides, .inl (cs.1, 512, .inl (aI (va_up (va_up a0_itemWidesF y4.toNat 1) y4.toNat ((a0_widesF (y4 + 1).toNat) + z7))))), (a0_lows, .inl (cs.1, 512, .inl (aI a0_lowsF))), (a0_wides, .inl (cs.1, 512, .inl (aI a0_widesF))), (a1, .inl (cs.1, a1N, .inl (aI a1F)))] [(0, .ref a0), (1, .ref a1), (2, .int (iI y2)), (3, .int (iI y3)), (4, .int (iI y4)), (7, .int (iI (y4 + 1))), (8, .int (iI (((a0_highsF (y4 + 1).toNat) + 1) + (a0_lowsF (y4 + 1).toNat)))), (9, .int (iI (-(a1F y4.toNat))))] 183 [.int (iI z9)]) h (fun z9 h => ?_) (fun k8 hk8 h => ?_)
            · refine j_istore (pc := 183) (lv' := [(5, .int (iI z9)), (0, .ref a0), (1, .ref a1), (2, .int (iI y2)), (3, .int (iI y3)), (4, .int (iI y4)), (7, .int (iI (y4 + 1))), (8, .int (iI (((a0_highsF (y4 + 1).toNat) + 1) + (a0_lowsF (y4 + 1).toNat)))), (9, .int (iI (-(a1F y4.toNat))))]) ok dX8_layRow_183 (by decide) rfl ?_
              refine j_iload (pc := 185) 8 ok dX8_layRow_185 rfl ?_
              refine j_iconst (pc := 187) ok dX8_layRow_187 ?_
              refine jn_use (P := fun z11 => q_J D κ 11 0 0 [(a0, .inr (8, [.int (iI a0_refusal), .ref a0_text, .int (iI a0_textSize), .ref a0_now, .ref a0_trial, .ref a0_diary, .int (iI a0_acts), .ref a0_kept, .ref a0_isKept, .ref a0_clip, .ref a0_line, .int (iI a0_lineSize), .ref a0_read, .int (iI a0_readSize), .ref a0_opens, .ref a0_chains, .ref a0_factors, .ref a0_plains, .ref a0_belows, .ref a0_owned, .int (iI a0_deep), .ref a0_wides, .ref a0_highs, .ref a0_lows, .ref a0_itemWides, .ref a0_pile])), (a0_highs, .inl (cs.1, 512, .inl (aI a0_highsF))), (a0_itemWides, .inl (cs.1, 512, .inl (aI (va_up (va_up a0_itemWidesF y4.toNat 1) y4.toNat ((a0_widesF (y4 + 1).toNat) + z7))))), (a0_lows, .inl (cs.1, 512, .inl (aI a0_lowsF))), (a0_wides, .inl (cs.1, 512, .inl (aI a0_widesF))), (a1, .inl (cs.1, a1N, .inl (aI a1F)))] [(0, .ref a0), (1, .ref a1), (2, .int (iI y2)), (3, .int (iI y3)), (4, .int (iI y4)), (5, .int (iI z9)), (7, .int (iI (y4 + 1))), (9, .int (iI (-(a1F y4.toNat))))] 213 [.int (iI z11)]) h (fun z11 h => ?_) (fun k10 hk10 h => ?_)
              · refine j_istore (pc := 213) (lv' := [(6, .int (iI z11)), (0, .ref a0), (1, .ref a1), (2, .int (iI y2)), (3, .int (iI y3)), (4, .int (iI y4)), (5, .int (iI z9)), (7, .int (iI (y4 + 1))), (9, .int (iI (-(a1F y4.toNat))))]) ok dX8_layRow_213 (by decide) rfl ?_
                refine j_iload (pc := 215) 8 ok dX8_layRow_215 rfl ?_
                refine j_iconst (pc := 217) ok dX8_layRow_217 ?_
                refine j_icmp_ne (pc := 218) 291 ok dX8_layRow_218 (by decide) h (fun h => ?_) (fun h => ?_)
                · refine j_lv [1, 2, 3, 4, 5, 6, 0] rfl ?_
                  exact hk5 (va_up (va_up a0_itemWidesF y4.toNat 1) y4.toNat ((a0_widesF (y4 + 1).toNat) + z7), z9, z11) h
                · refine j_aload_n (pc := 221) 2 ok dX8_layRow_221 rfl rfl ?_
                  refine j_iload (pc := 222) 7 ok dX8_layRow_222 rfl ?_
                  obtain ⟨r12, hr12, h⟩ := bd_inv h
                  refine j_callS (pc := 224) ok (k_X8_rowEnd (a0 := a1) (a0N := a1N) (a0F := a1F) (x1 := y4 + 1) hr12) gS_X8_142 hd_X8_rowEnd [5] (by decide) rfl rfl rfl rfl ⟨Nat.zero_le _, Nat.zero_le _⟩ (Nat.le_of_ble_eq_true rfl) dX8_layRow_224 rfl [(a0, .inr (8, [.int (iI a0_refusal), .ref a0_text, .int (iI a0_textSize), .ref a0_now, .ref a0_trial, .ref a0_diary, .int (iI a0_acts), .ref a0_kept, .ref a0_isKept, .ref a0_clip, .ref a0_line, .int (iI a0_lineSize), .ref a0_read, .int (iI a0_readSize), .ref a0_opens, .ref a0_chains, .ref a0_factors, .ref a0_plains, .ref a0_belows, .ref a0_owned, .int (iI a0_deep), .ref a0_wides, .ref a0_highs, .ref a0_lows, .ref a0_itemWides, .ref a0_pile])), (a0_highs, .inl (cs.1, 512, .inl (aI a0_highsF))), (a0_itemWides, .inl (cs.1, 512, .inl (aI (va_up (va_up a0_itemWidesF y4.toNat 1) y4.toNat ((a0_widesF (y4 + 1).toNat) + z7))))), (a0_lows, .inl (cs.1, 512, .inl (aI a0_lowsF))), (a0_wides, .inl (cs.1, 512, .inl (aI a0_widesF))), (a1, .inl (cs.1, a1N, .inl (aI a1F)))] rfl ?_
                  refine j_iconst (pc := 227) ok dX8_layRow_227 ?_
                  refine j_iadd (pc := 228) ok dX8_layRow_228 ?_
                  refine j_istore (pc := 229) (lv' := [(10, .int (iI (r12 + 1))), (6, .int (iI z11)), (0, .ref a0), (1, .ref a1), (2, .int (iI y2)), (3, .int (iI y3)), (4, .int (iI y4)), (5, .int (iI z9)), (7, .int (iI (y4 + 1))), (9, .int (iI (-(a1F y4.toNat))))]) ok dX8_layRow_229 (by decide) rfl ?_
                  refine j_aload_n (pc := 231) 2 ok dX8_layRow_231 rfl rfl ?_
                  refine gf_X8_59_8 (pc := 232) 0 ok rfl dX8_layRow_232 ?_
                  refine j_iload (pc := 235) 0 ok dX8_layRow_235 rfl ?_
                  refine j_iald (pc := 237) 1 ok rfl dX8_layRow_237 h (fun h => ?_)
                  refine j_iconst (pc := 238) ok dX8_layRow_238 ?_
                  refine j_iadd (pc := 239) ok dX8_layRow_239 ?_
                  refine j_aload_n (pc := 240) 2 ok dX8_layRow_240 rfl rfl ?_
                  refine gf_X8_62_8 (pc := 241) 0 ok rfl dX8_layRow_241 ?_
                  refine j_iload (pc := 244) 0 ok dX8_layRow_244 rfl ?_
                  refine j_iald (pc := 246) 3 ok rfl dX8_layRow_246 h (fun h => ?_)
                  refine j_iadd (pc := 247) ok dX8_layRow_247 ?_
                  refine j_istore (pc := 248) (lv' := [(6, .int (iI (((a0_highsF (r12 + 1).toNat) + 1) + (a0_lowsF (r12 + 1).toNat)))), (10, .int (iI (r12 + 1))), (0, .ref a0), (1, .ref a1), (2, .int (iI y2)), (3, .int (iI y3)), (4, .int (iI y4)), (5, .int (iI z9)), (7, .int (iI (y4 + 1))), (9, .int (iI (-(a1F y4.toNat))))]) ok dX8_layRow_248 (by decide) rfl ?_
                  refine j_aload_n (pc := 250) 2 ok dX8_layRow_250 rfl rfl ?_
                  refine gf_X8_65_8 (pc := 251) 0 ok rfl dX8_layRow_251 ?_
                  refine j_iload (pc := 254) 6 ok dX8_layRow_254 rfl ?_
                  refine j_aload_n (pc := 256) 2 ok dX8_layRow_256 rfl rfl ?_
                  refine gf_X8_56_8 (pc := 257) 0 ok rfl dX8_layRow_257 ?_
                  refine j_iload (pc := 260) 1 ok dX8_layRow_260 rfl ?_
                  refine j_iald (pc := 262) 4 ok rfl dX8_layRow_262 h (fun h => ?_)
                  refine j_aload_n (pc := 263) 2 ok dX8_layRow_263 rfl rfl ?_
                  refine gf_X8_56_8 (pc := 264) 0 ok rfl dX8_layRow_264 ?_
                  refine j_iload (pc := 267) 8 ok dX8_layRow_267 rfl ?_
                  refine j_iald (pc := 269) 4 ok rfl dX8_layRow_269 h (fun h => ?_)
                  refine jn_use (P := fun z14 => q_J D κ 11 0 0 [(a0, .inr (8, [.int (iI a0_refusal), .ref a0_text, .int (iI a0_textSize), .ref a0_now, .ref a0_trial, .ref a0_diary, .int (iI a0_acts), .ref a0_kept, .ref a0_isKept, .ref a0_clip, .ref a0_line, .int (iI a0_lineSize), .ref a0_read, .int (iI a0_readSize), .ref a0_opens, .ref a0_chains, .ref a0_factors, .ref a0_plains, .ref a0_belows, .ref a0_owned, .int (iI a0_deep), .ref a0_wides, .ref a0_highs, .ref a0_lows, .ref a0_itemWides, .ref a0_pile])), (a0_highs, .inl (cs.1, 512, .inl (aI a0_highsF))), (a0_itemWides, .inl (cs.1, 512, .inl (aI (va_up (va_up a0_itemWidesF y4.toNat 1) y4.toNat ((a0_widesF (y4 + 1).toNat) + z7))))), (a0_lows, .inl (cs.1, 512, .inl (aI a0_lowsF))), (a0_wides, .inl (cs.1, 512, .inl (aI a0_widesF))), (a1, .inl (cs.1, a1N, .inl (aI a1F)))] [(0, .ref a0), (1, .ref a1), (2, .int (iI y2)), (3, .int (iI y3)), (4, .int (iI y4)), (5, .int (iI z9)), (6, .int (iI (((a0_highsF (r12 + 1).toNat) + 1) + (a0_lowsF (r12 + 1).toNat))))] 290 [.int (iI z14), .int (iI y4), .ref a0_itemWides]) h (fun z14 h => ?_) (fun k13 hk13 h => ?_)
                  · refine j_iastw (pc := 290) 2 ok rfl dX8_layRow_290 h [(a0, .inr (8, [.int (iI a0_refusal), .ref a0_text, .int (iI a0_textSize), .ref a0_now, .ref a0_trial, .ref a0_diary, .int (iI a0_acts), .ref a0_kept, .ref a0_isKept, .ref a0_clip, .ref a0_line, .int (iI a0_lineSize), .ref a0_read, .int (iI a0_readSize), .ref a0_opens, .ref a0_chains, .ref a0_factors, .ref a0_plains, .ref a0_belows, .ref a0_owned, .int (iI a0_deep), .ref a0_wides, .ref a0_highs, .ref a0_lows, .ref a0_itemWides, .ref a0_pile])), (a0_highs, .inl (cs.1, 512, .inl (aI a0_highsF))), (a0_itemWides, .inl (cs.1, 512, .inl (aI (va_up (va_up (va_up a0_itemWidesF y4.toNat 1) y4.toNat ((a0_widesF (y4 + 1).toNat) + z7)) y4.toNat z14)))), (a0_lows, .inl (cs.1, 512, .inl (aI a0_lowsF))), (a0_wides, .inl (cs.1, 512, .inl (aI a0_widesF))), (a1, .inl (cs.1, a1N, .inl (aI a1F)))] rfl (fun h => ?_)
                    exact hk5 (va_up (va_up (va_up a0_itemWidesF y4.toNat 1) y4.toNat ((a0_widesF (y4 + 1).toNat) + z7)) y4.toNat z14, z9, ((a0_highsF (r12 + 1).toNat) + 1) + (a0_lowsF (r12 + 1).toNat)) h
                  · refine j_icmp_le (pc := 270) 283 ok dX8_layRow_270 (by decide) h (fun h => ?_) (fun h => ?_)
                    · refine j_aload_n (pc := 283) 2 ok dX8_layRow_283 rfl rfl ?_
                      refine gf_X8_56_8 (pc := 284) 0 ok rfl dX8_layRow_284 ?_
                      refine j_iload (pc := 287) 8 ok dX8_layRow_287 rfl ?_
                      refine j_iald (pc := 289) 4 ok rfl dX8_layRow_289 h (fun h => ?_)
                      refine j_lv [2, 3, 4, 5, 6, 7, 0] rfl ?_
                      exact hk13 (a0_widesF (y4 + 1).toNat) h
                    · refine j_aload_n (pc := 273) 2 ok dX8_layRow_273 rfl rfl ?_
                      refine gf_X8_56_8 (pc := 274) 0 ok rfl dX8_layRow_274 ?_
                      refine j_iload (pc := 277) 1 ok dX8_layRow_277 rfl ?_
                      refine j_iald (pc := 279) 4 ok rfl dX8_layRow_279 h (fun h => ?_)
                      refine j_goto (pc := 280) 290 ok dX8_layRow_280 (by decide) ?_
                      refine j_lv [2, 3, 4, 5, 6, 7, 0] rfl ?_
                      exact hk13 (a0_widesF (r12 + 1).toNat) h
              · refine j_icmp_ne (pc := 188) 196 ok dX8_layRow_188 (by decide) h (fun h => ?_) (fun h => ?_)
                · refine j_iload (pc := 196) 8 ok dX8_layRow_196 rfl ?_
                  refine j_iconst (pc := 198) ok dX8_layRow_198 ?_
                  refine j_icmp_le (pc := 199) 212 ok dX8_layRow_199 (by decide) h (fun h => ?_) (fun h => ?_)
                  · refine j_iconst (pc := 212) ok dX8_layRow_212 ?_
                    refine j_lv [1, 2, 3, 4, 5, 0, 6, 8] rfl ?_
                    exact hk10 0 h
                  · refine j_aload_n (pc := 202) 1 ok dX8_layRow_202 rfl rfl ?_
                    refine gf_X8_62_8 (pc := 203) 0 ok rfl dX8_layRow_203 ?_
                    refine j_iload (pc := 206) 6 ok dX8_layRow_206 rfl ?_
                    refine j_iald (pc := 208) 3 ok rfl dX8_layRow_208 h (fun h => ?_)
                    refine j_goto (pc := 209) 213 ok dX8_layRow_209 (by decide) ?_
                    refine j_lv [1, 2, 3, 4, 5, 0, 6, 8] rfl ?_
                    exact hk10 (a0_lowsF (y4 + 1).toNat) h
                · refine j_iload (pc := 191) 7 ok dX8_layRow_191 rfl ?_
                  refine j_goto (pc := 193) 213 ok dX8_layRow_193 (by decide) ?_
                  refine j_lv [1, 2, 3, 4, 5, 0, 6, 8] rfl ?_
                  exact hk10 (((a0_highsF (y4 + 1).toNat) + 1) + (a0_lowsF (y4 + 1).toNat)) h
            · refine j_icmp_ge (pc := 140) 148 ok dX8_layRow_140 (by decide) h (fun h => ?_) (fun h => ?_)
              · refine j_iload (pc := 148) 7 ok dX8_layRow_148 rfl ?_
                refine j_iconst (pc := 150) ok dX8_layRow_150 ?_
                refine j_icmp_ne (pc := 151) 158 ok dX8_layRow_151 (by decide) h (fun h => ?_) (fun h => ?_)
                · refine j_iload (pc := 158) 7 ok dX8_layRow_158 rfl ?_
                  refine j_iconst (pc := 160) ok dX8_layRow_160 ?_
                  refine j_icmp_ne (pc := 161) 176 ok dX8_layRow_161 (by decide) h (fun h => ?_) (fun h => ?_)
                  · refine j_aload_n (pc := 176) 0 ok dX8_layRow_176 rfl rfl ?_
                    refine gf_X8_59_8 (pc := 177) 0 ok rfl dX8_layRow_177 ?_
                    refine j_iload (pc := 180) 5 ok dX8_layRow_180 rfl ?_
                    refine j_iald (pc := 182) 1 ok rfl dX8_layRow_182 h (fun h => ?_)
                    exact hk8 (a0_highsF (y4 + 1).toNat) h
                  · refine j_aload_n (pc := 164) 0 ok dX8_layRow_164 rfl rfl ?_
                    refine gf_X8_59_8 (pc := 165) 0 ok rfl dX8_layRow_165 ?_
                    refine j_iload (pc := 168) 5 ok dX8_layRow_168 rfl ?_
                    refine j_iald (pc := 170) 1 ok rfl dX8_layRow_170 h (fun h => ?_)
                    refine j_iconst (pc := 171) ok dX8_layRow_171 ?_
                    refine j_iadd (pc := 172) ok dX8_layRow_172 ?_
                    refine j_goto (pc := 173) 183 ok dX8_layRow_173 (by decide) ?_
                    exact hk8 ((a0_highsF (y4 + 1).toNat) + 1) h
                · refine j_iconst (pc := 154) ok dX8_layRow_154 ?_
                  refine j_goto (pc := 155) 183 ok dX8_layRow_155 (by decide) ?_
                  exact hk8 0 h
              · refine j_iload (pc := 143) 6 ok dX8_layRow_143 rfl ?_
                refine j_goto (pc := 145) 183 ok dX8_layRow_145 (by decide) ?_
                exact hk8 (((a0_highsF (y4 + 1).toNat) + 1) + (a0_lowsF (y4 + 1).toNat)) h
          · refine j_icmp_ne (pc := 117) 124 ok dX8_layRow_117 (by decide) h (fun h => ?_) (fun h => ?_)
            · refine j_iload (pc := 124) 0 ok dX8_layRow_124 rfl ?_
              refine j_iconst (pc := 126) ok dX8_layRow_126 ?_
              refine j_icmp_ne (pc := 127) 134 ok dX8_layRow_127 (by decide) h (fun h => ?_) (fun h => ?_)
              · refine j_iconst (pc := 134) ok dX8_layRow_134 ?_
                refine j_lv [5, 6, 7, 8, 9, 2, 1, 0] rfl ?_
                exact hk6 0 h
              · refine j_iconst (pc := 130) ok dX8_layRow_130 ?_
                refine j_goto (pc := 131) 135 ok dX8_layRow_131 (by decide) ?_
                refine j_lv [5, 6, 7, 8, 9, 2, 1, 0] rfl ?_
                exact hk6 2 h
            · refine j_iconst (pc := 120) ok dX8_layRow_120 ?_
              refine j_goto (pc := 121) 135 ok dX8_layRow_121 (by decide) ?_
              refine j_lv [5, 6, 7, 8, 9, 2, 1, 0] rfl ?_
              exact hk6 1 h
def f_X8_layRow (a1N : Nat) (a0_highsF : (Nat → Int)) (a0_itemWidesF : (Nat → Int)) (a0_lowsF : (Nat → Int)) (a0_widesF : (Nat → Int)) (a1F : (Nat → Int)) (x2 : Int) : Option ((Nat → Int) × (Nat → Int) × (Nat → Int) × (Nat → Int)) := bd (f_X8_rowEnd a1N a1F x2) (fun r1 => jn (fun (z3 : Int) => gIn x2 512 (gIn x2 512 (gIn x2 512 (f_X8_layRow_39 a1N a1F x2 (fun (z21 : (Nat → Int) × (Nat → Int) × (Nat → Int) × (Nat → Int) × Int × Int) => some (z21.1, z21.2.1, z21.2.2.1, z21.2.2.2.1)) fuel (va_up a0_highsF x2.toNat 0) a0_itemWidesF (va_up a0_lowsF x2.toNat 0) (va_up a0_widesF x2.toNat z3) r1 x2)))) (fun k2 => cEq x2 r1 (k2 1) (k2 0)))
set_option maxRecDepth 100000 in
set_option maxHeartbeats 4000000 in
theorem k_X8_layRow {D : va_G} {cs : q_CS} {a0 a0_text a0_now a0_trial a0_diary a0_kept a0_isKept a0_clip a0_line a0_read a0_opens a0_chains a0_factors a0_plains a0_belows a0_owned a0_wides a0_highs a0_lows a0_itemWides a0_pile a1 : Nat} {a1N : Nat} {a0_refusal a0_textSize a0_acts a0_lineSize a0_readSize a0_deep : Int} {a0_highsF a0_itemWidesF a0_lowsF a0_widesF a1F : (Nat → Int)} {x2 : Int} {r : ((Nat → Int) × (Nat → Int) × (Nat → Int) × (Nat → Int))} (h : f_X8_layRow a1N a0_highsF a0_itemWidesF a0_lowsF a0_widesF a1F x2 = some r) : q_M D cs yX8_layRow cX8_layRow 11 none 3 64 [.ref a0, .ref a1, .int (iI x2)] [(a0, .inr (8, [.int (iI a0_refusal), .ref a0_text, .int (iI a0_textSize), .ref a0_now, .ref a0_trial, .ref a0_diary, .int (iI a0_acts), .ref a0_kept, .ref a0_isKept, .ref a0_clip, .ref a0_line, .int (iI a0_lineSize), .ref a0_read, .int (iI a0_readSize), .ref a0_opens, .ref a0_chains, .ref a0_factors, .ref a0_plains, .ref a0_belows, .ref a0_owned, .int (iI a0_deep), .ref a0_wides, .ref a0_highs, .ref a0_lows, .ref a0_itemWides, .ref a0_pile])), (a0_highs, .inl (cs.1, 512, .inl (aI a0_highsF))), (a0_itemWides, .inl (cs.1, 512, .inl (aI a0_itemWidesF))), (a0_lows, .inl (cs.1, 512, .inl (aI a0_lowsF))), (a0_wides, .inl (cs.1, 512, .inl (aI a0_widesF))), (a1, .inl (cs.1, a1N, .inl (aI a1F)))] none [(a0, .inr (8, [.int (iI a0_refusal), .ref a0_text, .int (iI a0_textSize), .ref a0_now, .ref a0_trial, .ref a0_diary, .int (iI a0_acts), .ref a0_kept, .ref a0_isKept, .ref a0_clip, .ref a0_line, .int (iI a0_lineSize), .ref a0_read, .int (iI a0_readSize), .ref a0_opens, .ref a0_chains, .ref a0_factors, .ref a0_plains, .ref a0_belows, .ref a0_owned, .int (iI a0_deep), .ref a0_wides, .ref a0_highs, .ref a0_lows, .ref a0_itemWides, .ref a0_pile])), (a0_highs, .inl (cs.1, 512, .inl (aI r.1))), (a0_itemWides, .inl (cs.1, 512, .inl (aI r.2.1))), (a0_lows, .inl (cs.1, 512, .inl (aI r.2.2.1))), (a0_wides, .inl (cs.1, 512, .inl (aI r.2.2.2))), (a1, .inl (cs.1, a1N, .inl (aI a1F)))] := by
  refine q_start_v [(0, .ref a0), (1, .ref a1), (2, .int (iI x2))] RX8 rfl (by decide +kernel) rfl (Nat.le_of_ble_eq_true rfl) (fun κ ok fin => ?_)
  unfold f_X8_layRow at h
  refine j_aload_n (pc := 0) 1 ok dX8_layRow_0 rfl rfl ?_
  refine j_iload_n (pc := 1) 2 ok dX8_layRow_1 rfl rfl ?_
  obtain ⟨r1, hr1, h⟩ := bd_inv h
  refine j_callS (pc := 2) ok (k_X8_rowEnd (a0 := a1) (a0N := a1N) (a0F := a1F) (x1 := x2) hr1) gS_X8_142 hd_X8_rowEnd [5] (by decide) rfl rfl rfl rfl ⟨Nat.zero_le _, Nat.zero_le _⟩ (Nat.le_of_ble_eq_true rfl) dX8_layRow_2 rfl [(a0, .inr (8, [.int (iI a0_refusal), .ref a0_text, .int (iI a0_textSize), .ref a0_now, .ref a0_trial, .ref a0_diary, .int (iI a0_acts), .ref a0_kept, .ref a0_isKept, .ref a0_clip, .ref a0_line, .int (iI a0_lineSize), .ref a0_read, .int (iI a0_readSize), .ref a0_opens, .ref a0_chains, .ref a0_factors, .ref a0_plains, .ref a0_belows, .ref a0_owned, .int (iI a0_deep), .ref a0_wides, .ref a0_highs, .ref a0_lows, .ref a0_itemWides, .ref a0_pile])), (a0_highs, .inl (cs.1, 512, .inl (aI a0_highsF))), (a0_itemWides, .inl (cs.1, 512, .inl (aI a0_itemWidesF))), (a0_lows, .inl (cs.1, 512, .inl (aI a0_lowsF))), (a0_wides, .inl (cs.1, 512, .inl (aI a0_widesF))), (a1, .inl (cs.1, a1N, .inl (aI a1F)))] rfl ?_
  refine j_istore_n (pc := 5) (lv' := [(3, .int (iI r1)), (0, .ref a0), (1, .ref a1), (2, .int (iI x2))]) ok dX8_layRow_5 rfl (by decide) rfl ?_
  refine j_aload_n (pc := 6) 1 ok dX8_layRow_6 rfl rfl ?_
  refine gf_X8_56_8 (pc := 7) 0 ok rfl dX8_layRow_7 ?_
  refine j_iload_n (pc := 10) 3 ok dX8_layRow_10 rfl rfl ?_
  refine j_iload_n (pc := 11) 3 ok dX8_layRow_11 rfl rfl ?_
  refine j_iload_n (pc := 12) 0 ok dX8_layRow_12 rfl rfl ?_
  refine jn_use (P := fun z3 => q_J D κ 11 0 0 [(a0, .inr (8, [.int (iI a0_refusal), .ref a0_text, .int (iI a0_textSize), .ref a0_now, .ref a0_trial, .ref a0_diary, .int (iI a0_acts), .ref a0_kept, .ref a0_isKept, .ref a0_clip, .ref a0_line, .int (iI a0_lineSize), .ref a0_read, .int (iI a0_readSize), .ref a0_opens, .ref a0_chains, .ref a0_factors, .ref a0_plains, .ref a0_belows, .ref a0_owned, .int (iI a0_deep), .ref a0_wides, .ref a0_highs, .ref a0_lows, .ref a0_itemWides, .ref a0_pile])), (a0_highs, .inl (cs.1, 512, .inl (aI a0_highsF))), (a0_itemWides, .inl (cs.1, 512, .inl (aI a0_itemWidesF))), (a0_lows, .inl (cs.1, 512, .inl (aI a0_lowsF))), (a0_wides, .inl (cs.1, 512, .inl (aI a0_widesF))), (a1, .inl (cs.1, a1N, .inl (aI a1F)))] [(0, .ref a0), (1, .ref a1), (2, .int (iI x2)), (3, .int (iI r1))] 21 [.int (iI z3), .int (iI x2), .ref a0_wides]) h (fun z3 h => ?_) (fun k2 hk2 h => ?_)
  · refine j_iastw (pc := 21) 4 ok rfl dX8_layRow_21 h [(a0, .inr (8, [.int (iI a0_refusal), .ref a0_text, .int (iI a0_textSize), .ref a0_now, .ref a0_trial, .ref a0_diary, .int (iI a0_acts), .ref a0_kept, .ref a0_isKept, .ref a0_clip, .ref a0_line, .int (iI a0_lineSize), .ref a0_read, .int (iI a0_readSize), .ref a0_opens, .ref a0_chains, .ref a0_factors, .ref a0_plains, .ref a0_belows, .ref a0_owned, .int (iI a0_deep), .ref a0_wides, .ref a0_highs, .ref a0_lows, .ref a0_itemWides, .ref a0_pile])), (a0_highs, .inl (cs.1, 512, .inl (aI a0_highsF))), (a0_itemWides, .inl (cs.1, 512, .inl (aI a0_itemWidesF))), (a0_lows, .inl (cs.1, 512, .inl (aI a0_lowsF))), (a0_wides, .inl (cs.1, 512, .inl (aI (va_up a0_widesF x2.toNat z3)))), (a1, .inl (cs.1, a1N, .inl (aI a1F)))] rfl (fun h => ?_)
    refine j_aload_n (pc := 22) 0 ok dX8_layRow_22 rfl rfl ?_
    refine gf_X8_59_8 (pc := 23) 0 ok rfl dX8_layRow_23 ?_
    refine j_iload_n (pc := 26) 2 ok dX8_layRow_26 rfl rfl ?_
    refine j_iconst (pc := 27) ok dX8_layRow_27 ?_
    refine j_iastw (pc := 28) 1 ok rfl dX8_layRow_28 h [(a0, .inr (8, [.int (iI a0_refusal), .ref a0_text, .int (iI a0_textSize), .ref a0_now, .ref a0_trial, .ref a0_diary, .int (iI a0_acts), .ref a0_kept, .ref a0_isKept, .ref a0_clip, .ref a0_line, .int (iI a0_lineSize), .ref a0_read, .int (iI a0_readSize), .ref a0_opens, .ref a0_chains, .ref a0_factors, .ref a0_plains, .ref a0_belows, .ref a0_owned, .int (iI a0_deep), .ref a0_wides, .ref a0_highs, .ref a0_lows, .ref a0_itemWides, .ref a0_pile])), (a0_highs, .inl (cs.1, 512, .inl (aI (va_up a0_highsF x2.toNat 0)))), (a0_itemWides, .inl (cs.1, 512, .inl (aI a0_itemWidesF))), (a0_lows, .inl (cs.1, 512, .inl (aI a0_lowsF))), (a0_wides, .inl (cs.1, 512, .inl (aI (va_up a0_widesF x2.toNat z3)))), (a1, .inl (cs.1, a1N, .inl (aI a1F)))] rfl (fun h => ?_)
    refine j_aload_n (pc := 29) 0 ok dX8_layRow_29 rfl rfl ?_
    refine gf_X8_62_8 (pc := 30) 0 ok rfl dX8_layRow_30 ?_
    refine j_iload_n (pc := 33) 2 ok dX8_layRow_33 rfl rfl ?_
    refine j_iconst (pc := 34) ok dX8_layRow_34 ?_
    refine j_iastw (pc := 35) 3 ok rfl dX8_layRow_35 h [(a0, .inr (8, [.int (iI a0_refusal), .ref a0_text, .int (iI a0_textSize), .ref a0_now, .ref a0_trial, .ref a0_diary, .int (iI a0_acts), .ref a0_kept, .ref a0_isKept, .ref a0_clip, .ref a0_line, .int (iI a0_lineSize), .ref a0_read, .int (iI a0_readSize), .ref a0_opens, .ref a0_chains, .ref a0_factors, .ref a0_plains, .ref a0_belows, .ref a0_owned, .int (iI a0_deep), .ref a0_wides, .ref a0_highs, .ref a0_lows, .ref a0_itemWides, .ref a0_pile])), (a0_highs, .inl (cs.1, 512, .inl (aI (va_up a0_highsF x2.toNat 0)))), (a0_itemWides, .inl (cs.1, 512, .inl (aI a0_itemWidesF))), (a0_lows, .inl (cs.1, 512, .inl (aI (va_up a0_lowsF x2.toNat 0)))), (a0_wides, .inl (cs.1, 512, .inl (aI (va_up a0_widesF x2.toNat z3)))), (a1, .inl (cs.1, a1N, .inl (aI a1F)))] rfl (fun h => ?_)
    refine j_iload_n (pc := 36) 2 ok dX8_layRow_36 rfl rfl ?_
    refine j_istore (pc := 37) (lv' := [(4, .int (iI x2)), (0, .ref a0), (1, .ref a1), (2, .int (iI x2)), (3, .int (iI r1))]) ok dX8_layRow_37 (by decide) rfl ?_
    refine j_lv [1, 2, 3, 4, 0] rfl ?_
    refine l_X8_layRow_39 ok fin (fun z21 h => ?_) fuel _ _ _ _ _ _ h
    · obtain rfl := Option.some.inj h
      exact fin _ 374 dX8_layRow_374
  · refine j_icmp_ne (pc := 13) 20 ok dX8_layRow_13 (by decide) h (fun h => ?_) (fun h => ?_)
    · refine j_iconst (pc := 20) ok dX8_layRow_20 ?_
      refine j_lv [1, 2, 3, 0] rfl ?_
      exact hk2 0 h
    · refine j_iconst (pc := 16) ok dX8_layRow_16 ?_
      refine j_goto (pc := 17) 21 ok dX8_layRow_17 (by decide) ?_
      refine j_lv [1, 2, 3, 0] rfl ?_
      exact hk2 1 h
def f_X8_layBoxes_8 (a1N : Nat) (a1F : (Nat → Int)) (e8_43 : (Nat → Int) × (Nat → Int) × (Nat → Int) × (Nat → Int) × Int → Option ((Nat → Int) × (Nat → Int) × (Nat → Int) × (Nat → Int))) : Nat → (Nat → Int) → (Nat → Int) → (Nat → Int) → (Nat → Int) → Int → Option ((Nat → Int) × (Nat → Int) × (Nat → Int) × (Nat → Int))
  | 0, _, _, _, _, _ => none
  | n + 1, a0_highsF, a0_itemWidesF, a0_lowsF, a0_widesF, y2 => cLt y2 0 (e8_43 (a0_highsF, a0_itemWidesF, a0_lowsF, a0_widesF, y2)) (gIn y2 a1N (bd (f_X8_isBegin (a1F y2.toNat)) (fun r1 => jn (fun (z6 : (Nat → Int) × (Nat → Int) × (Nat → Int) × (Nat → Int)) => f_X8_layBoxes_8 a1N a1F e8_43 n z6.1 z6.2.1 z6.2.2.1 z6.2.2.2 (y2 + (-1))) (fun k3 => jn (fun (z4 : Unit) => bd (f_X8_layRow a1N a0_highsF a0_itemWidesF a0_lowsF a0_widesF a1F (y2 + 1)) (fun r5 => k3 (r5.1, r5.2.1, r5.2.2.1, r5.2.2.2))) (fun k2 => cEq r1 0 (gIn y2 a1N (cEq (a1F y2.toNat) ((-10)) (k2 ()) (k3 (a0_highsF, a0_itemWidesF, a0_lowsF, a0_widesF)))) (k2 ()))))))
set_option maxRecDepth 100000 in
theorem l_X8_layBoxes_8 {D : va_G} {cs : q_CS} {κ : q_X} {a0 a0_text a0_now a0_trial a0_diary a0_kept a0_isKept a0_clip a0_line a0_read a0_opens a0_chains a0_factors a0_plains a0_belows a0_owned a0_wides a0_highs a0_lows a0_itemWides a0_pile a1 : Nat} {a1N : Nat} {a0_refusal a0_textSize a0_acts a0_lineSize a0_readSize a0_deep : Int} {a1F : (Nat → Int)} {r : ((Nat → Int) × (Nat → Int) × (Nat → Int) × (Nat → Int))} {e8_43 : (Nat → Int) × (Nat → Int) × (Nat → Int) × (Nat → Int) × Int → Option ((Nat → Int) × (Nat → Int) × (Nat → Int) × (Nat → Int))} (ok : q_ok D cs κ cX8_layBoxes 3 RX8 (q_rm 4 94)) (fin : ∀ (lv : List (Nat × Value)) (pc : Nat), decode cX8_layBoxes pc = .ok (.return_, 1) → q_J D κ 3 0 0 [(a0, .inr (8, [.int (iI a0_refusal), .ref a0_text, .int (iI a0_textSize), .ref a0_now, .ref a0_trial, .ref a0_diary, .int (iI a0_acts), .ref a0_kept, .ref a0_isKept, .ref a0_clip, .ref a0_line, .int (iI a0_lineSize), .ref a0_read, .int (iI a0_readSize), .ref a0_opens, .ref a0_chains, .ref a0_factors, .ref a0_plains, .ref a0_belows, .ref a0_owned, .int (iI a0_deep), .ref a0_wides, .ref a0_highs, .ref a0_lows, .ref a0_itemWides, .ref a0_pile])), (a0_highs, .inl (cs.1, 512, .inl (aI r.1))), (a0_itemWides, .inl (cs.1, 512, .inl (aI r.2.1))), (a0_lows, .inl (cs.1, 512, .inl (aI r.2.2.1))), (a0_wides, .inl (cs.1, 512, .inl (aI r.2.2.2))), (a1, .inl (cs.1, a1N, .inl (aI a1F)))] lv pc []) (he8_43 : ∀ x : (Nat → Int) × (Nat → Int) × (Nat → Int) × (Nat → Int) × Int, e8_43 x = some r → q_J D κ 3 0 0 [(a0, .inr (8, [.int (iI a0_refusal), .ref a0_text, .int (iI a0_textSize), .ref a0_now, .ref a0_trial, .ref a0_diary, .int (iI a0_acts), .ref a0_kept, .ref a0_isKept, .ref a0_clip, .ref a0_line, .int (iI a0_lineSize), .ref a0_read, .int (iI a0_readSize), .ref a0_opens, .ref a0_chains, .ref a0_factors, .ref a0_plains, .ref a0_belows, .ref a0_owned, .int (iI a0_deep), .ref a0_wides, .ref a0_highs, .ref a0_lows, .ref a0_itemWides, .ref a0_pile])), (a0_highs, .inl (cs.1, 512, .inl (aI x.1))), (a0_itemWides, .inl (cs.1, 512, .inl (aI x.2.1))), (a0_lows, .inl (cs.1, 512, .inl (aI x.2.2.1))), (a0_wides, .inl (cs.1, 512, .inl (aI x.2.2.2.1))), (a1, .inl (cs.1, a1N, .inl (aI a1F)))] [(0, .ref a0), (1, .ref a1)] 43 []) : ∀ (n : Nat) (a0_highsF : (Nat → Int)) (a0_itemWidesF : (Nat → Int)) (a0_lowsF : (Nat → Int)) (a0_widesF : (Nat → Int)) (y2 : Int), f_X8_layBoxes_8 a1N a1F e8_43 n a0_highsF a0_itemWidesF a0_lowsF a0_widesF y2 = some r → q_J D κ 3 0 0 [(a0, .inr (8, [.int (iI a0_refusal), .ref a0_text, .int (iI a0_textSize), .ref a0_now, .ref a0_trial, .ref a0_diary, .int (iI a0_acts), .ref a0_kept, .ref a0_isKept, .ref a0_clip, .ref a0_line, .int (iI a0_lineSize), .ref a0_read, .int (iI a0_readSize), .ref a0_opens, .ref a0_chains, .ref a0_factors, .ref a0_plains, .ref a0_belows, .ref a0_owned, .int (iI a0_deep), .ref a0_wides, .ref a0_highs, .ref a0_lows, .ref a0_itemWides, .ref a0_pile])), (a0_highs, .inl (cs.1, 512, .inl (aI a0_highsF))), (a0_itemWides, .inl (cs.1, 512, .inl (aI a0_itemWidesF))), (a0_lows, .inl (cs.1, 512, .inl (aI a0_lowsF))), (a0_wides, .inl (cs.1, 512, .inl (aI a0_widesF))), (a1, .inl (cs.1, a1N, .inl (aI a1F)))] [(0, .ref a0), (1, .ref a1), (2, .int (iI y2))] 8 [] := by
  intro n
  induction n with
  | zero =>
    intro a0_highsF a0_itemWidesF a0_lowsF a0_widesF y2 h
    exact absurd h (by unfold f_X8_layBoxes_8; exact fun z => by cases z)
  | succ n ih =>
    intro a0_highsF a0_itemWidesF a0_lowsF a0_widesF y2 h
    unfold f_X8_layBoxes_8 at h
    refine j_iload_n (pc := 8) 2 ok dX8_layBoxes_8 rfl rfl ?_
    refine j_if_lt (pc := 9) 43 ok dX8_layBoxes_9 (by decide) h (fun h => ?_) (fun h => ?_)
    · refine j_lv [0, 1] rfl ?_
      exact he8_43 (a0_highsF, a0_itemWidesF, a0_lowsF, a0_widesF, y2) h
    · refine j_aload_n (pc := 12) 1 ok dX8_layBoxes_12 rfl rfl ?_
      refine j_iload_n (pc := 13) 2 ok dX8_layBoxes_13 rfl rfl ?_
      refine j_iald (pc := 14) 5 ok rfl dX8_layBoxes_14 h (fun h => ?_)
      obtain ⟨r1, hr1, h⟩ := bd_inv h
      refine j_callS (pc := 15) ok (k_X8_isBegin (x0 := a1F y2.toNat) hr1) gS_X8_97 hd_X8_isBegin [] (by decide) rfl rfl rfl rfl ⟨Nat.zero_le _, Nat.zero_le _⟩ (Nat.le_of_ble_eq_true rfl) dX8_layBoxes_15 rfl [(a0, .inr (8, [.int (iI a0_refusal), .ref a0_text, .int (iI a0_textSize), .ref a0_now, .ref a0_trial, .ref a0_diary, .int (iI a0_acts), .ref a0_kept, .ref a0_isKept, .ref a0_clip, .ref a0_line, .int (iI a0_lineSize), .ref a0_read, .int (iI a0_readSize), .ref a0_opens, .ref a0_chains, .ref a0_factors, .ref a0_plains, .ref a0_belows, .ref a0_owned, .int (iI a0_deep), .ref a0_wides, .ref a0_highs, .ref a0_lows, .ref a0_itemWides, .ref a0_pile])), (a0_highs, .inl (cs.1, 512, .inl (aI a0_highsF))), (a0_itemWides, .inl (cs.1, 512, .inl (aI a0_itemWidesF))), (a0_lows, .inl (cs.1, 512, .inl (aI a0_lowsF))), (a0_wides, .inl (cs.1, 512, .inl (aI a0_widesF))), (a1, .inl (cs.1, a1N, .inl (aI a1F)))] rfl ?_
      refine jn_use (P := fun z6 => q_J D κ 3 0 0 [(a0, .inr (8, [.int (iI a0_refusal), .ref a0_text, .int (iI a0_textSize), .ref a0_now, .ref a0_trial, .ref a0_diary, .int (iI a0_acts), .ref a0_kept, .ref a0_isKept, .ref a0_clip, .ref a0_line, .int (iI a0_lineSize), .ref a0_read, .int (iI a0_readSize), .ref a0_opens, .ref a0_chains, .ref a0_factors, .ref a0_plains, .ref a0_belows, .ref a0_owned, .int (iI a0_deep), .ref a0_wides, .ref a0_highs, .ref a0_lows, .ref a0_itemWides, .ref a0_pile])), (a0_highs, .inl (cs.1, 512, .inl (aI z6.1))), (a0_itemWides, .inl (cs.1, 512, .inl (aI z6.2.1))), (a0_lows, .inl (cs.1, 512, .inl (aI z6.2.2.1))), (a0_wides, .inl (cs.1, 512, .inl (aI z6.2.2.2))), (a1, .inl (cs.1, a1N, .inl (aI a1F)))] [(0, .ref a0), (1, .ref a1), (2, .int (iI y2))] 37 []) h (fun z6 h => ?_) (fun k3 hk3 h => ?_)
      · refine j_iinc (pc := 37) (lv' := [(2, .int (iI (y2 + (-1)))), (0, .ref a0), (1, .ref a1)]) 2 ok dX8_layBoxes_37 rfl (by decide) rfl ?_
        refine j_goto (pc := 40) 8 ok dX8_layBoxes_40 (by decide) ?_
        refine j_lv [1, 2, 0] rfl ?_
        exact ih _ _ _ _ _ h
      · refine jn_use (P := fun z4 => q_J D κ 3 0 0 [(a0, .inr (8, [.int (iI a0_refusal), .ref a0_text, .int (iI a0_textSize), .ref a0_now, .ref a0_trial, .ref a0_diary, .int (iI a0_acts), .ref a0_kept, .ref a0_isKept, .ref a0_clip, .ref a0_line, .int (iI a0_lineSize), .ref a0_read, .int (iI a0_readSize), .ref a0_opens, .ref a0_chains, .ref a0_factors, .ref a0_plains, .ref a0_belows, .ref a0_owned, .int (iI a0_deep), .ref a0_wides, .ref a0_highs, .ref a0_lows, .ref a0_itemWides, .ref a0_pile])), (a0_highs, .inl (cs.1, 512, .inl (aI a0_highsF))), (a0_itemWides, .inl (cs.1, 512, .inl (aI a0_itemWidesF))), (a0_lows, .inl (cs.1, 512, .inl (aI a0_lowsF))), (a0_wides, .inl (cs.1, 512, .inl (aI a0_widesF))), (a1, .inl (cs.1, a1N, .inl (aI a1F)))] [(0, .ref a0), (1, .ref a1), (2, .int (iI y2))] 29 []) h (fun z4 h => ?_) (fun k2 hk2 h => ?_)
        · refine j_aload_n (pc := 29) 0 ok dX8_layBoxes_29 rfl rfl ?_
          refine j_aload_n (pc := 30) 1 ok dX8_layBoxes_30 rfl rfl ?_
          refine j_iload_n (pc := 31) 2 ok dX8_layBoxes_31 rfl rfl ?_
          refine j_iconst (pc := 32) ok dX8_layBoxes_32 ?_
          refine j_iadd (pc := 33) ok dX8_layBoxes_33 ?_
          obtain ⟨r5, hr5, h⟩ := bd_inv h
          refine j_callV (pc := 34) ok (k_X8_layRow (a0 := a0) (a0_text := a0_text) (a0_now := a0_now) (a0_trial := a0_trial) (a0_diary := a0_diary) (a0_kept := a0_kept) (a0_isKept := a0_isKept) (a0_clip := a0_clip) (a0_line := a0_line) (a0_read := a0_read) (a0_opens := a0_opens) (a0_chains := a0_chains) (a0_factors := a0_factors) (a0_plains := a0_plains) (a0_belows := a0_belows) (a0_owned := a0_owned) (a0_wides := a0_wides) (a0_highs := a0_highs) (a0_lows := a0_lows) (a0_itemWides := a0_itemWides) (a0_pile := a0_pile) (a1 := a1) (a1N := a1N) (a0_refusal := a0_refusal) (a0_textSize := a0_textSize) (a0_acts := a0_acts) (a0_lineSize := a0_lineSize) (a0_readSize := a0_readSize) (a0_deep := a0_deep) (a0_highsF := a0_highsF) (a0_itemWidesF := a0_itemWidesF) (a0_lowsF := a0_lowsF) (a0_widesF := a0_widesF) (a1F := a1F) (x2 := y2 + 1) hr5) gV_X8_246 ⟨rfl, hd_X8_layRow⟩ [0, 1, 2, 3, 4, 5] (by decide) rfl rfl 0 rfl rfl rfl rfl ⟨Nat.zero_le _, Nat.zero_le _⟩ (Nat.le_of_ble_eq_true rfl) dX8_layBoxes_34 rfl [(a0, .inr (8, [.int (iI a0_refusal), .ref a0_text, .int (iI a0_textSize), .ref a0_now, .ref a0_trial, .ref a0_diary, .int (iI a0_acts), .ref a0_kept, .ref a0_isKept, .ref a0_clip, .ref a0_line, .int (iI a0_lineSize), .ref a0_read, .int (iI a0_readSize), .ref a0_opens, .ref a0_chains, .ref a0_factors, .ref a0_plains, .ref a0_belows, .ref a0_owned, .int (iI a0_deep), .ref a0_wides, .ref a0_highs, .ref a0_lows, .ref a0_itemWides, .ref a0_pile])), (a0_highs, .inl (cs.1, 512, .inl (aI r5.1))), (a0_itemWides, .inl (cs.1, 512, .inl (aI r5.2.1))), (a0_lows, .inl (cs.1, 512, .inl (aI r5.2.2.1))), (a0_wides, .inl (cs.1, 512, .inl (aI r5.2.2.2))), (a1, .inl (cs.1, a1N, .inl (aI a1F)))] rfl ?_
          exact hk3 (r5.1, r5.2.1, r5.2.2.1, r5.2.2.2) h
        · refine j_if_ne (pc := 18) 29 ok dX8_layBoxes_18 (by decide) h (fun h => ?_) (fun h => ?_)
          · exact hk2 () h
          · refine j_aload_n (pc := 21) 1 ok dX8_layBoxes_21 rfl rfl ?_
            refine j_iload_n (pc := 22) 2 ok dX8_layBoxes_22 rfl rfl ?_
            refine j_iald (pc := 23) 5 ok rfl dX8_layBoxes_23 h (fun h => ?_)
            refine j_bipush (pc := 24) ok dX8_layBoxes_24 (by decide) ?_
            refine j_icmp_ne (pc := 26) 37 ok dX8_layBoxes_26 (by decide) h (fun h => ?_) (fun h => ?_)
            · exact hk3 (a0_highsF, a0_itemWidesF, a0_lowsF, a0_widesF) h
            · exact hk2 () h
def f_X8_layBoxes (a1N : Nat) (a0_highsF : (Nat → Int)) (a0_itemWidesF : (Nat → Int)) (a0_lowsF : (Nat → Int)) (a0_widesF : (Nat → Int)) (a1F : (Nat → Int)) : Option ((Nat → Int) × (Nat → Int) × (Nat → Int) × (Nat → Int)) := gIn 180 a1N (f_X8_layBoxes_8 a1N a1F (fun (z7 : (Nat → Int) × (Nat → Int) × (Nat → Int) × (Nat → Int) × Int) => bd (f_X8_layRow a1N z7.1 z7.2.1 z7.2.2.1 z7.2.2.2.1 a1F 0) (fun r8 => some (r8.1, r8.2.1, r8.2.2.1, r8.2.2.2))) fuel a0_highsF a0_itemWidesF a0_lowsF a0_widesF ((a1F (180 : Int).toNat) - 1))
set_option maxRecDepth 100000 in
set_option maxHeartbeats 4000000 in
theorem k_X8_layBoxes {D : va_G} {cs : q_CS} {a0 a0_text a0_now a0_trial a0_diary a0_kept a0_isKept a0_clip a0_line a0_read a0_opens a0_chains a0_factors a0_plains a0_belows a0_owned a0_wides a0_highs a0_lows a0_itemWides a0_pile a1 : Nat} {a1N : Nat} {a0_refusal a0_textSize a0_acts a0_lineSize a0_readSize a0_deep : Int} {a0_highsF a0_itemWidesF a0_lowsF a0_widesF a1F : (Nat → Int)} {r : ((Nat → Int) × (Nat → Int) × (Nat → Int) × (Nat → Int))} (h : f_X8_layBoxes a1N a0_highsF a0_itemWidesF a0_lowsF a0_widesF a1F = some r) : q_M D cs yX8_layBoxes cX8_layBoxes 3 none 4 94 [.ref a0, .ref a1] [(a0, .inr (8, [.int (iI a0_refusal), .ref a0_text, .int (iI a0_textSize), .ref a0_now, .ref a0_trial, .ref a0_diary, .int (iI a0_acts), .ref a0_kept, .ref a0_isKept, .ref a0_clip, .ref a0_line, .int (iI a0_lineSize), .ref a0_read, .int (iI a0_readSize), .ref a0_opens, .ref a0_chains, .ref a0_factors, .ref a0_plains, .ref a0_belows, .ref a0_owned, .int (iI a0_deep), .ref a0_wides, .ref a0_highs, .ref a0_lows, .ref a0_itemWides, .ref a0_pile])), (a0_highs, .inl (cs.1, 512, .inl (aI a0_highsF))), (a0_itemWides, .inl (cs.1, 512, .inl (aI a0_itemWidesF))), (a0_lows, .inl (cs.1, 512, .inl (aI a0_lowsF))), (a0_wides, .inl (cs.1, 512, .inl (aI a0_widesF))), (a1, .inl (cs.1, a1N, .inl (aI a1F)))] none [(a0, .inr (8, [.int (iI a0_refusal), .ref a0_text, .int (iI a0_textSize), .ref a0_now, .ref a0_trial, .ref a0_diary, .int (iI a0_acts), .ref a0_kept, .ref a0_isKept, .ref a0_clip, .ref a0_line, .int (iI a0_lineSize), .ref a0_read, .int (iI a0_readSize), .ref a0_opens, .ref a0_chains, .ref a0_factors, .ref a0_plains, .ref a0_belows, .ref a0_owned, .int (iI a0_deep), .ref a0_wides, .ref a0_highs, .ref a0_lows, .ref a0_itemWides, .ref a0_pile])), (a0_highs, .inl (cs.1, 512, .inl (aI r.1))), (a0_itemWides, .inl (cs.1, 512, .inl (aI r.2.1))), (a0_lows, .inl (cs.1, 512, .inl (aI r.2.2.1))), (a0_wides, .inl (cs.1, 512, .inl (aI r.2.2.2))), (a1, .inl (cs.1, a1N, .inl (aI a1F)))] := by
  refine q_start_v [(0, .ref a0), (1, .ref a1)] RX8 rfl (by decide +kernel) rfl (Nat.le_of_ble_eq_true rfl) (fun κ ok fin => ?_)
  unfold f_X8_layBoxes at h
  refine j_aload_n (pc := 0) 1 ok dX8_layBoxes_0 rfl rfl ?_
  refine j_sipush (pc := 1) ok dX8_layBoxes_1 (by decide) ?_
  refine j_iald (pc := 4) 5 ok rfl dX8_layBoxes_4 h (fun h => ?_)
  refine j_iconst (pc := 5) ok dX8_layBoxes_5 ?_
  refine j_isub (pc := 6) ok dX8_layBoxes_6 ?_
  refine j_istore_n (pc := 7) (lv' := [(2, .int (iI ((a1F (180 : Int).toNat) - 1))), (0, .ref a0), (1, .ref a1)]) ok dX8_layBoxes_7 rfl (by decide) rfl ?_
  refine j_lv [1, 2, 0] rfl ?_
  refine l_X8_layBoxes_8 ok fin (fun z7 h => ?_) fuel _ _ _ _ _ h
  · refine j_aload_n (pc := 43) 0 ok dX8_layBoxes_43 rfl rfl ?_
    refine j_aload_n (pc := 44) 1 ok dX8_layBoxes_44 rfl rfl ?_
    refine j_iconst (pc := 45) ok dX8_layBoxes_45 ?_
    obtain ⟨r8, hr8, h⟩ := bd_inv h
    refine j_callV (pc := 46) ok (k_X8_layRow (a0 := a0) (a0_text := a0_text) (a0_now := a0_now) (a0_trial := a0_trial) (a0_diary := a0_diary) (a0_kept := a0_kept) (a0_isKept := a0_isKept) (a0_clip := a0_clip) (a0_line := a0_line) (a0_read := a0_read) (a0_opens := a0_opens) (a0_chains := a0_chains) (a0_factors := a0_factors) (a0_plains := a0_plains) (a0_belows := a0_belows) (a0_owned := a0_owned) (a0_wides := a0_wides) (a0_highs := a0_highs) (a0_lows := a0_lows) (a0_itemWides := a0_itemWides) (a0_pile := a0_pile) (a1 := a1) (a1N := a1N) (a0_refusal := a0_refusal) (a0_textSize := a0_textSize) (a0_acts := a0_acts) (a0_lineSize := a0_lineSize) (a0_readSize := a0_readSize) (a0_deep := a0_deep) (a0_highsF := z7.1) (a0_itemWidesF := z7.2.1) (a0_lowsF := z7.2.2.1) (a0_widesF := z7.2.2.2.1) (a1F := a1F) (x2 := 0) hr8) gV_X8_246 ⟨rfl, hd_X8_layRow⟩ [0, 1, 2, 3, 4, 5] (by decide) rfl rfl 0 rfl rfl rfl rfl ⟨Nat.zero_le _, Nat.zero_le _⟩ (Nat.le_of_ble_eq_true rfl) dX8_layBoxes_46 rfl [(a0, .inr (8, [.int (iI a0_refusal), .ref a0_text, .int (iI a0_textSize), .ref a0_now, .ref a0_trial, .ref a0_diary, .int (iI a0_acts), .ref a0_kept, .ref a0_isKept, .ref a0_clip, .ref a0_line, .int (iI a0_lineSize), .ref a0_read, .int (iI a0_readSize), .ref a0_opens, .ref a0_chains, .ref a0_factors, .ref a0_plains, .ref a0_belows, .ref a0_owned, .int (iI a0_deep), .ref a0_wides, .ref a0_highs, .ref a0_lows, .ref a0_itemWides, .ref a0_pile])), (a0_highs, .inl (cs.1, 512, .inl (aI r8.1))), (a0_itemWides, .inl (cs.1, 512, .inl (aI r8.2.1))), (a0_lows, .inl (cs.1, 512, .inl (aI r8.2.2.1))), (a0_wides, .inl (cs.1, 512, .inl (aI r8.2.2.2))), (a1, .inl (cs.1, a1N, .inl (aI a1F)))] rfl ?_
    obtain rfl := Option.some.inj h
    exact fin _ 49 dX8_layBoxes_49
def f_X8_drawing (a0_refusal : Int) (a0_highsF : (Nat → Int)) (a0_itemWidesF : (Nat → Int)) (a0_lowsF : (Nat → Int)) (a0_nowF : (Nat → Int)) (a0_widesF : (Nat → Int)) (x1 : Int) : Option (Int × Int × (Nat → Int) × (Nat → Int) × (Nat → Int) × (Nat → Int)) := gR x1 (bd (f_X8_in x1 0 2) (fun r1 => jn (fun (z3 : Int) => bd (f_X8_refused a0_refusal z3) (fun r4 => cEq r4.1 0 (bd (f_X8_layBoxes 184 a0_highsF a0_itemWidesF a0_lowsF a0_widesF a0_nowF) (fun r5 => jn (fun (z7 : Int) => some (z7, r4.2, r5.1, r5.2.1, r5.2.2.1, r5.2.2.2)) (fun k6 => cEq x1 0 (gIn 0 512 (k6 (r5.2.2.2 (0 : Int).toNat))) (cEq x1 1 (gIn 0 512 (gIn 0 512 (k6 (((r5.1 (0 : Int).toNat) + 1) + (r5.2.2.1 (0 : Int).toNat))))) (gIn 0 512 (k6 (r5.1 (0 : Int).toNat))))))) (some (0, r4.2, a0_highsF, a0_itemWidesF, a0_lowsF, a0_widesF)))) (fun k2 => cEq r1 0 (k2 1) (k2 0))))
set_option maxRecDepth 100000 in
set_option maxHeartbeats 4000000 in
theorem k_X8_drawing {D : va_G} {cs : q_CS} {a0 a0_text a0_now a0_trial a0_diary a0_kept a0_isKept a0_clip a0_line a0_read a0_opens a0_chains a0_factors a0_plains a0_belows a0_owned a0_wides a0_highs a0_lows a0_itemWides a0_pile : Nat} {a0_refusal a0_textSize a0_acts a0_lineSize a0_readSize a0_deep : Int} {a0_highsF a0_itemWidesF a0_lowsF a0_nowF a0_widesF : (Nat → Int)} {x1 : Int} {r : (Int × Int × (Nat → Int) × (Nat → Int) × (Nat → Int) × (Nat → Int))} (h : f_X8_drawing a0_refusal a0_highsF a0_itemWidesF a0_lowsF a0_nowF a0_widesF x1 = some r) : q_M D cs yX8_drawing cX8_drawing 2 (some .int) 5 116 [.ref a0, .int (iI x1)] [(a0, .inr (8, [.int (iI a0_refusal), .ref a0_text, .int (iI a0_textSize), .ref a0_now, .ref a0_trial, .ref a0_diary, .int (iI a0_acts), .ref a0_kept, .ref a0_isKept, .ref a0_clip, .ref a0_line, .int (iI a0_lineSize), .ref a0_read, .int (iI a0_readSize), .ref a0_opens, .ref a0_chains, .ref a0_factors, .ref a0_plains, .ref a0_belows, .ref a0_owned, .int (iI a0_deep), .ref a0_wides, .ref a0_highs, .ref a0_lows, .ref a0_itemWides, .ref a0_pile])), (a0_highs, .inl (cs.1, 512, .inl (aI a0_highsF))), (a0_itemWides, .inl (cs.1, 512, .inl (aI a0_itemWidesF))), (a0_lows, .inl (cs.1, 512, .inl (aI a0_lowsF))), (a0_now, .inl (cs.1, 184, .inl (aI a0_nowF))), (a0_wides, .inl (cs.1, 512, .inl (aI a0_widesF)))] (some (.int (iI r.1))) [(a0, .inr (8, [.int (iI r.2.1), .ref a0_text, .int (iI a0_textSize), .ref a0_now, .ref a0_trial, .ref a0_diary, .int (iI a0_acts), .ref a0_kept, .ref a0_isKept, .ref a0_clip, .ref a0_line, .int (iI a0_lineSize), .ref a0_read, .int (iI a0_readSize), .ref a0_opens, .ref a0_chains, .ref a0_factors, .ref a0_plains, .ref a0_belows, .ref a0_owned, .int (iI a0_deep), .ref a0_wides, .ref a0_highs, .ref a0_lows, .ref a0_itemWides, .ref a0_pile])), (a0_highs, .inl (cs.1, 512, .inl (aI r.2.2.1))), (a0_itemWides, .inl (cs.1, 512, .inl (aI r.2.2.2.1))), (a0_lows, .inl (cs.1, 512, .inl (aI r.2.2.2.2.1))), (a0_now, .inl (cs.1, 184, .inl (aI a0_nowF))), (a0_wides, .inl (cs.1, 512, .inl (aI r.2.2.2.2.2)))] := by
  refine q_start_i [(0, .ref a0), (1, .int (iI x1))] RX8 rfl (by decide +kernel) rfl (Nat.le_of_ble_eq_true rfl) rfl (fun κ ok fin => ?_)
  unfold f_X8_drawing at h
  refine j_aload_n (pc := 0) 0 ok dX8_drawing_0 rfl rfl ?_
  refine j_iload_n (pc := 1) 1 ok dX8_drawing_1 rfl rfl ?_
  refine j_i2l (pc := 2) ok dX8_drawing_2 h (fun h => ?_)
  refine j_lconst (pc := 3) 0 ok dX8_drawing_3 (by decide) ?_
  refine j_ldc2 (pc := 4) 2 ok dX8_drawing_4 (q_in 1339 (by decide +kernel) (by decide +kernel)) ?_
  obtain ⟨r1, hr1, h⟩ := bd_inv h
  refine j_callS (pc := 7) ok (k_X8_in (x0 := x1) (x1 := 0) (x2 := 2) hr1) gS_X8_79 hd_X8_in [] (by decide) rfl rfl rfl rfl ⟨Nat.zero_le _, Nat.zero_le _⟩ (Nat.le_of_ble_eq_true rfl) dX8_drawing_7 rfl [(a0, .inr (8, [.int (iI a0_refusal), .ref a0_text, .int (iI a0_textSize), .ref a0_now, .ref a0_trial, .ref a0_diary, .int (iI a0_acts), .ref a0_kept, .ref a0_isKept, .ref a0_clip, .ref a0_line, .int (iI a0_lineSize), .ref a0_read, .int (iI a0_readSize), .ref a0_opens, .ref a0_chains, .ref a0_factors, .ref a0_plains, .ref a0_belows, .ref a0_owned, .int (iI a0_deep), .ref a0_wides, .ref a0_highs, .ref a0_lows, .ref a0_itemWides, .ref a0_pile])), (a0_highs, .inl (cs.1, 512, .inl (aI a0_highsF))), (a0_itemWides, .inl (cs.1, 512, .inl (aI a0_itemWidesF))), (a0_lows, .inl (cs.1, 512, .inl (aI a0_lowsF))), (a0_now, .inl (cs.1, 184, .inl (aI a0_nowF))), (a0_wides, .inl (cs.1, 512, .inl (aI a0_widesF)))] rfl ?_
  refine jn_use (P := fun z3 => q_J D κ 2 0 0 [(a0, .inr (8, [.int (iI a0_refusal), .ref a0_text, .int (iI a0_textSize), .ref a0_now, .ref a0_trial, .ref a0_diary, .int (iI a0_acts), .ref a0_kept, .ref a0_isKept, .ref a0_clip, .ref a0_line, .int (iI a0_lineSize), .ref a0_read, .int (iI a0_readSize), .ref a0_opens, .ref a0_chains, .ref a0_factors, .ref a0_plains, .ref a0_belows, .ref a0_owned, .int (iI a0_deep), .ref a0_wides, .ref a0_highs, .ref a0_lows, .ref a0_itemWides, .ref a0_pile])), (a0_highs, .inl (cs.1, 512, .inl (aI a0_highsF))), (a0_itemWides, .inl (cs.1, 512, .inl (aI a0_itemWidesF))), (a0_lows, .inl (cs.1, 512, .inl (aI a0_lowsF))), (a0_now, .inl (cs.1, 184, .inl (aI a0_nowF))), (a0_wides, .inl (cs.1, 512, .inl (aI a0_widesF)))] [(0, .ref a0), (1, .int (iI x1))] 18 [.int (iI z3), .ref a0]) h (fun z3 h => ?_) (fun k2 hk2 h => ?_)
  · obtain ⟨r4, hr4, h⟩ := bd_inv h
    refine j_callV (pc := 18) ok (k_X8_refused (a0 := a0) (a0_text := a0_text) (a0_now := a0_now) (a0_trial := a0_trial) (a0_diary := a0_diary) (a0_kept := a0_kept) (a0_isKept := a0_isKept) (a0_clip := a0_clip) (a0_line := a0_line) (a0_read := a0_read) (a0_opens := a0_opens) (a0_chains := a0_chains) (a0_factors := a0_factors) (a0_plains := a0_plains) (a0_belows := a0_belows) (a0_owned := a0_owned) (a0_wides := a0_wides) (a0_highs := a0_highs) (a0_lows := a0_lows) (a0_itemWides := a0_itemWides) (a0_pile := a0_pile) (a0_refusal := a0_refusal) (a0_textSize := a0_textSize) (a0_acts := a0_acts) (a0_lineSize := a0_lineSize) (a0_readSize := a0_readSize) (a0_deep := a0_deep) (x1 := z3) hr4) gV_X8_150 ⟨rfl, hd_X8_refused⟩ [0] (by decide) rfl rfl 0 rfl rfl rfl rfl ⟨Nat.zero_le _, Nat.zero_le _⟩ (Nat.le_of_ble_eq_true rfl) dX8_drawing_18 rfl [(a0, .inr (8, [.int (iI r4.2), .ref a0_text, .int (iI a0_textSize), .ref a0_now, .ref a0_trial, .ref a0_diary, .int (iI a0_acts), .ref a0_kept, .ref a0_isKept, .ref a0_clip, .ref a0_line, .int (iI a0_lineSize), .ref a0_read, .int (iI a0_readSize), .ref a0_opens, .ref a0_chains, .ref a0_factors, .ref a0_plains, .ref a0_belows, .ref a0_owned, .int (iI a0_deep), .ref a0_wides, .ref a0_highs, .ref a0_lows, .ref a0_itemWides, .ref a0_pile])), (a0_highs, .inl (cs.1, 512, .inl (aI a0_highsF))), (a0_itemWides, .inl (cs.1, 512, .inl (aI a0_itemWidesF))), (a0_lows, .inl (cs.1, 512, .inl (aI a0_lowsF))), (a0_now, .inl (cs.1, 184, .inl (aI a0_nowF))), (a0_wides, .inl (cs.1, 512, .inl (aI a0_widesF)))] rfl ?_
    refine j_if_eq (pc := 21) 26 ok dX8_drawing_21 (by decide) h (fun h => ?_) (fun h => ?_)
    · refine j_aload_n (pc := 26) 0 ok dX8_drawing_26 rfl rfl ?_
      refine j_aload_n (pc := 27) 0 ok dX8_drawing_27 rfl rfl ?_
      refine gf_X8_13_8 (pc := 28) 0 ok rfl dX8_drawing_28 ?_
      obtain ⟨r5, hr5, h⟩ := bd_inv h
      refine j_callV (pc := 31) ok (k_X8_layBoxes (a0 := a0) (a0_text := a0_text) (a0_now := a0_now) (a0_trial := a0_trial) (a0_diary := a0_diary) (a0_kept := a0_kept) (a0_isKept := a0_isKept) (a0_clip := a0_clip) (a0_line := a0_line) (a0_read := a0_read) (a0_opens := a0_opens) (a0_chains := a0_chains) (a0_factors := a0_factors) (a0_plains := a0_plains) (a0_belows := a0_belows) (a0_owned := a0_owned) (a0_wides := a0_wides) (a0_highs := a0_highs) (a0_lows := a0_lows) (a0_itemWides := a0_itemWides) (a0_pile := a0_pile) (a1 := a0_now) (a1N := 184) (a0_refusal := r4.2) (a0_textSize := a0_textSize) (a0_acts := a0_acts) (a0_lineSize := a0_lineSize) (a0_readSize := a0_readSize) (a0_deep := a0_deep) (a0_highsF := a0_highsF) (a0_itemWidesF := a0_itemWidesF) (a0_lowsF := a0_lowsF) (a0_widesF := a0_widesF) (a1F := a0_nowF) hr5) gV_X8_249 ⟨rfl, hd_X8_layBoxes⟩ [0, 1, 2, 3, 5, 4] (by decide) rfl rfl 0 rfl rfl rfl rfl ⟨Nat.zero_le _, Nat.zero_le _⟩ (Nat.le_of_ble_eq_true rfl) dX8_drawing_31 rfl [(a0, .inr (8, [.int (iI r4.2), .ref a0_text, .int (iI a0_textSize), .ref a0_now, .ref a0_trial, .ref a0_diary, .int (iI a0_acts), .ref a0_kept, .ref a0_isKept, .ref a0_clip, .ref a0_line, .int (iI a0_lineSize), .ref a0_read, .int (iI a0_readSize), .ref a0_opens, .ref a0_chains, .ref a0_factors, .ref a0_plains, .ref a0_belows, .ref a0_owned, .int (iI a0_deep), .ref a0_wides, .ref a0_highs, .ref a0_lows, .ref a0_itemWides, .ref a0_pile])), (a0_highs, .inl (cs.1, 512, .inl (aI r5.1))), (a0_itemWides, .inl (cs.1, 512, .inl (aI r5.2.1))), (a0_lows, .inl (cs.1, 512, .inl (aI r5.2.2.1))), (a0_now, .inl (cs.1, 184, .inl (aI a0_nowF))), (a0_wides, .inl (cs.1, 512, .inl (aI r5.2.2.2)))] rfl ?_
      refine j_iload_n (pc := 34) 1 ok dX8_drawing_34 rfl rfl ?_
      refine jn_use (P := fun z7 => q_J D κ 2 0 0 [(a0, .inr (8, [.int (iI r4.2), .ref a0_text, .int (iI a0_textSize), .ref a0_now, .ref a0_trial, .ref a0_diary, .int (iI a0_acts), .ref a0_kept, .ref a0_isKept, .ref a0_clip, .ref a0_line, .int (iI a0_lineSize), .ref a0_read, .int (iI a0_readSize), .ref a0_opens, .ref a0_chains, .ref a0_factors, .ref a0_plains, .ref a0_belows, .ref a0_owned, .int (iI a0_deep), .ref a0_wides, .ref a0_highs, .ref a0_lows, .ref a0_itemWides, .ref a0_pile])), (a0_highs, .inl (cs.1, 512, .inl (aI r5.1))), (a0_itemWides, .inl (cs.1, 512, .inl (aI r5.2.1))), (a0_lows, .inl (cs.1, 512, .inl (aI r5.2.2.1))), (a0_now, .inl (cs.1, 184, .inl (aI a0_nowF))), (a0_wides, .inl (cs.1, 512, .inl (aI r5.2.2.2)))] [] 76 [.int (iI z7)]) h (fun z7 h => ?_) (fun k6 hk6 h => ?_)
      · obtain rfl := Option.some.inj h
        exact fin _ 76 dX8_drawing_76
      · refine j_if_ne (pc := 35) 47 ok dX8_drawing_35 (by decide) h (fun h => ?_) (fun h => ?_)
        · refine j_iload_n (pc := 47) 1 ok dX8_drawing_47 rfl rfl ?_
          refine j_iconst (pc := 48) ok dX8_drawing_48 ?_
          refine j_icmp_ne (pc := 49) 70 ok dX8_drawing_49 (by decide) h (fun h => ?_) (fun h => ?_)
          · refine j_aload_n (pc := 70) 0 ok dX8_drawing_70 rfl rfl ?_
            refine gf_X8_59_8 (pc := 71) 0 ok rfl dX8_drawing_71 ?_
            refine j_iconst (pc := 74) ok dX8_drawing_74 ?_
            refine j_iald (pc := 75) 1 ok rfl dX8_drawing_75 h (fun h => ?_)
            refine j_lv [] rfl ?_
            exact hk6 (r5.1 (0 : Int).toNat) h
          · refine j_aload_n (pc := 52) 0 ok dX8_drawing_52 rfl rfl ?_
            refine gf_X8_59_8 (pc := 53) 0 ok rfl dX8_drawing_53 ?_
            refine j_iconst (pc := 56) ok dX8_drawing_56 ?_
            refine j_iald (pc := 57) 1 ok rfl dX8_drawing_57 h (fun h => ?_)
            refine j_iconst (pc := 58) ok dX8_drawing_58 ?_
            refine j_iadd (pc := 59) ok dX8_drawing_59 ?_
            refine j_aload_n (pc := 60) 0 ok dX8_drawing_60 rfl rfl ?_
            refine gf_X8_62_8 (pc := 61) 0 ok rfl dX8_drawing_61 ?_
            refine j_iconst (pc := 64) ok dX8_drawing_64 ?_
            refine j_iald (pc := 65) 3 ok rfl dX8_drawing_65 h (fun h => ?_)
            refine j_iadd (pc := 66) ok dX8_drawing_66 ?_
            refine j_goto (pc := 67) 76 ok dX8_drawing_67 (by decide) ?_
            refine j_lv [] rfl ?_
            exact hk6 (((r5.1 (0 : Int).toNat) + 1) + (r5.2.2.1 (0 : Int).toNat)) h
        · refine j_aload_n (pc := 38) 0 ok dX8_drawing_38 rfl rfl ?_
          refine gf_X8_56_8 (pc := 39) 0 ok rfl dX8_drawing_39 ?_
          refine j_iconst (pc := 42) ok dX8_drawing_42 ?_
          refine j_iald (pc := 43) 5 ok rfl dX8_drawing_43 h (fun h => ?_)
          refine j_goto (pc := 44) 76 ok dX8_drawing_44 (by decide) ?_
          refine j_lv [] rfl ?_
          exact hk6 (r5.2.2.2 (0 : Int).toNat) h
    · refine j_iconst (pc := 24) ok dX8_drawing_24 ?_
      obtain rfl := Option.some.inj h
      exact fin _ 25 dX8_drawing_25
  · refine j_if_eq (pc := 10) 17 ok dX8_drawing_10 (by decide) h (fun h => ?_) (fun h => ?_)
    · refine j_iconst (pc := 17) ok dX8_drawing_17 ?_
      exact hk2 1 h
    · refine j_iconst (pc := 13) ok dX8_drawing_13 ?_
      refine j_goto (pc := 14) 18 ok dX8_drawing_14 (by decide) ?_
      exact hk2 0 h
