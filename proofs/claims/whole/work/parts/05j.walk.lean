def f_X8_load_58 (a0_textSize : Int) (a0_textF : (Nat → Int)) (e58_84 : Int × Int × Int × Int × (Nat → Int) × (Nat → Int) × (Nat → Int) × (Nat → Int) × (Nat → Int) × (Nat → Int) × (Nat → Int) × (Nat → Int) × (Nat → Int) × Int → Option (Int × Int × Int × Int × Int × (Nat → Int) × (Nat → Int) × (Nat → Int) × (Nat → Int) × (Nat → Int) × (Nat → Int) × (Nat → Int) × (Nat → Int) × (Nat → Int))) : Nat → Int → Int → Int → Int → (Nat → Int) → (Nat → Int) → (Nat → Int) → (Nat → Int) → (Nat → Int) → (Nat → Int) → (Nat → Int) → (Nat → Int) → (Nat → Int) → Int → Option (Int × Int × Int × Int × Int × (Nat → Int) × (Nat → Int) × (Nat → Int) × (Nat → Int) × (Nat → Int) × (Nat → Int) × (Nat → Int) × (Nat → Int) × (Nat → Int))
  | 0, _, _, _, _, _, _, _, _, _, _, _, _, _, _ => none
  | n + 1, a0_refusal, a0_acts, a0_readSize, a0_deep, a0_belowsF, a0_chainsF, a0_factorsF, a0_isKeptF, a0_nowF, a0_opensF, a0_ownedF, a0_plainsF, a0_readF, y1 => cLt y1 a0_readSize (gIn y1 512 (gIn y1 184 (f_X8_load_58 a0_textSize a0_textF e58_84 n a0_refusal a0_acts a0_readSize a0_deep a0_belowsF a0_chainsF a0_factorsF a0_isKeptF (va_up a0_nowF y1.toNat (a0_readF y1.toNat)) a0_opensF a0_ownedF a0_plainsF a0_readF (y1 + 1)))) (e58_84 (a0_refusal, a0_acts, a0_readSize, a0_deep, a0_belowsF, a0_chainsF, a0_factorsF, a0_isKeptF, a0_nowF, a0_opensF, a0_ownedF, a0_plainsF, a0_readF, y1))
set_option maxRecDepth 100000 in
theorem l_X8_load_58 {D : va_G} {cs : q_CS} {κ : q_X} {a0 a0_text a0_now a0_trial a0_diary a0_kept a0_isKept a0_clip a0_line a0_read a0_opens a0_chains a0_factors a0_plains a0_belows a0_owned a0_wides a0_highs a0_lows a0_itemWides a0_pile : Nat} {a0_textSize a0_lineSize : Int} {a0_textF : (Nat → Int)} {r : (Int × Int × Int × Int × Int × (Nat → Int) × (Nat → Int) × (Nat → Int) × (Nat → Int) × (Nat → Int) × (Nat → Int) × (Nat → Int) × (Nat → Int) × (Nat → Int))} {e58_84 : Int × Int × Int × Int × (Nat → Int) × (Nat → Int) × (Nat → Int) × (Nat → Int) × (Nat → Int) × (Nat → Int) × (Nat → Int) × (Nat → Int) × (Nat → Int) × Int → Option (Int × Int × Int × Int × Int × (Nat → Int) × (Nat → Int) × (Nat → Int) × (Nat → Int) × (Nat → Int) × (Nat → Int) × (Nat → Int) × (Nat → Int) × (Nat → Int))} (ok : q_ok D cs κ cX8_load 2 RX8 (q_rm 3 71)) (fin : ∀ (lv : List (Nat × Value)) (pc : Nat), decode cX8_load pc = .ok (.ireturn, 1) → q_J D κ 2 0 0 [(a0, .inr (8, [.int (iI r.2.1), .ref a0_text, .int (iI a0_textSize), .ref a0_now, .ref a0_trial, .ref a0_diary, .int (iI r.2.2.1), .ref a0_kept, .ref a0_isKept, .ref a0_clip, .ref a0_line, .int (iI a0_lineSize), .ref a0_read, .int (iI r.2.2.2.1), .ref a0_opens, .ref a0_chains, .ref a0_factors, .ref a0_plains, .ref a0_belows, .ref a0_owned, .int (iI r.2.2.2.2.1), .ref a0_wides, .ref a0_highs, .ref a0_lows, .ref a0_itemWides, .ref a0_pile])), (a0_belows, .inl (cs.2.1, 128, .inl (aI r.2.2.2.2.2.1))), (a0_chains, .inl (cs.1, 128, .inl (aI r.2.2.2.2.2.2.1))), (a0_factors, .inl (cs.1, 128, .inl (aI r.2.2.2.2.2.2.2.1))), (a0_isKept, .inl (cs.2.1, 2, .inl (aI r.2.2.2.2.2.2.2.2.1))), (a0_now, .inl (cs.1, 184, .inl (aI r.2.2.2.2.2.2.2.2.2.1))), (a0_opens, .inl (cs.1, 128, .inl (aI r.2.2.2.2.2.2.2.2.2.2.1))), (a0_owned, .inl (cs.2.1, 128, .inl (aI r.2.2.2.2.2.2.2.2.2.2.2.1))), (a0_plains, .inl (cs.2.1, 128, .inl (aI r.2.2.2.2.2.2.2.2.2.2.2.2.1))), (a0_read, .inl (cs.1, 512, .inl (aI r.2.2.2.2.2.2.2.2.2.2.2.2.2))), (a0_text, .inl (cs.1, 120, .inl (aI a0_textF)))] lv pc [.int (iI r.1)]) (he58_84 : ∀ x : Int × Int × Int × Int × (Nat → Int) × (Nat → Int) × (Nat → Int) × (Nat → Int) × (Nat → Int) × (Nat → Int) × (Nat → Int) × (Nat → Int) × (Nat → Int) × Int, e58_84 x = some r → q_J D κ 2 0 0 [(a0, .inr (8, [.int (iI x.1), .ref a0_text, .int (iI a0_textSize), .ref a0_now, .ref a0_trial, .ref a0_diary, .int (iI x.2.1), .ref a0_kept, .ref a0_isKept, .ref a0_clip, .ref a0_line, .int (iI a0_lineSize), .ref a0_read, .int (iI x.2.2.1), .ref a0_opens, .ref a0_chains, .ref a0_factors, .ref a0_plains, .ref a0_belows, .ref a0_owned, .int (iI x.2.2.2.1), .ref a0_wides, .ref a0_highs, .ref a0_lows, .ref a0_itemWides, .ref a0_pile])), (a0_belows, .inl (cs.2.1, 128, .inl (aI x.2.2.2.2.1))), (a0_chains, .inl (cs.1, 128, .inl (aI x.2.2.2.2.2.1))), (a0_factors, .inl (cs.1, 128, .inl (aI x.2.2.2.2.2.2.1))), (a0_isKept, .inl (cs.2.1, 2, .inl (aI x.2.2.2.2.2.2.2.1))), (a0_now, .inl (cs.1, 184, .inl (aI x.2.2.2.2.2.2.2.2.1))), (a0_opens, .inl (cs.1, 128, .inl (aI x.2.2.2.2.2.2.2.2.2.1))), (a0_owned, .inl (cs.2.1, 128, .inl (aI x.2.2.2.2.2.2.2.2.2.2.1))), (a0_plains, .inl (cs.2.1, 128, .inl (aI x.2.2.2.2.2.2.2.2.2.2.2.1))), (a0_read, .inl (cs.1, 512, .inl (aI x.2.2.2.2.2.2.2.2.2.2.2.2.1))), (a0_text, .inl (cs.1, 120, .inl (aI a0_textF)))] [(0, .ref a0)] 84 []) : ∀ (n : Nat) (a0_refusal : Int) (a0_acts : Int) (a0_readSize : Int) (a0_deep : Int) (a0_belowsF : (Nat → Int)) (a0_chainsF : (Nat → Int)) (a0_factorsF : (Nat → Int)) (a0_isKeptF : (Nat → Int)) (a0_nowF : (Nat → Int)) (a0_opensF : (Nat → Int)) (a0_ownedF : (Nat → Int)) (a0_plainsF : (Nat → Int)) (a0_readF : (Nat → Int)) (y1 : Int), f_X8_load_58 a0_textSize a0_textF e58_84 n a0_refusal a0_acts a0_readSize a0_deep a0_belowsF a0_chainsF a0_factorsF a0_isKeptF a0_nowF a0_opensF a0_ownedF a0_plainsF a0_readF y1 = some r → q_J D κ 2 0 0 [(a0, .inr (8, [.int (iI a0_refusal), .ref a0_text, .int (iI a0_textSize), .ref a0_now, .ref a0_trial, .ref a0_diary, .int (iI a0_acts), .ref a0_kept, .ref a0_isKept, .ref a0_clip, .ref a0_line, .int (iI a0_lineSize), .ref a0_read, .int (iI a0_readSize), .ref a0_opens, .ref a0_chains, .ref a0_factors, .ref a0_plains, .ref a0_belows, .ref a0_owned, .int (iI a0_deep), .ref a0_wides, .ref a0_highs, .ref a0_lows, .ref a0_itemWides, .ref a0_pile])), (a0_belows, .inl (cs.2.1, 128, .inl (aI a0_belowsF))), (a0_chains, .inl (cs.1, 128, .inl (aI a0_chainsF))), (a0_factors, .inl (cs.1, 128, .inl (aI a0_factorsF))), (a0_isKept, .inl (cs.2.1, 2, .inl (aI a0_isKeptF))), (a0_now, .inl (cs.1, 184, .inl (aI a0_nowF))), (a0_opens, .inl (cs.1, 128, .inl (aI a0_opensF))), (a0_owned, .inl (cs.2.1, 128, .inl (aI a0_ownedF))), (a0_plains, .inl (cs.2.1, 128, .inl (aI a0_plainsF))), (a0_read, .inl (cs.1, 512, .inl (aI a0_readF))), (a0_text, .inl (cs.1, 120, .inl (aI a0_textF)))] [(0, .ref a0), (1, .int (iI y1))] 58 [] := by
  intro n
  induction n with
  | zero =>
    intro a0_refusal a0_acts a0_readSize a0_deep a0_belowsF a0_chainsF a0_factorsF a0_isKeptF a0_nowF a0_opensF a0_ownedF a0_plainsF a0_readF y1 h
    exact absurd h (by unfold f_X8_load_58; exact fun z => by cases z)
  | succ n ih =>
    intro a0_refusal a0_acts a0_readSize a0_deep a0_belowsF a0_chainsF a0_factorsF a0_isKeptF a0_nowF a0_opensF a0_ownedF a0_plainsF a0_readF y1 h
    unfold f_X8_load_58 at h
    refine j_iload_n (pc := 58) 1 ok dX8_load_58 rfl rfl ?_
    refine j_aload_n (pc := 59) 0 ok dX8_load_59 rfl rfl ?_
    refine gf_X8_153_8 (pc := 60) 0 ok rfl dX8_load_60 ?_
    refine j_icmp_ge (pc := 63) 84 ok dX8_load_63 (by decide) h (fun h => ?_) (fun h => ?_)
    · refine j_lv [0] rfl ?_
      exact he58_84 (a0_refusal, a0_acts, a0_readSize, a0_deep, a0_belowsF, a0_chainsF, a0_factorsF, a0_isKeptF, a0_nowF, a0_opensF, a0_ownedF, a0_plainsF, a0_readF, y1) h
    · refine j_aload_n (pc := 66) 0 ok dX8_load_66 rfl rfl ?_
      refine gf_X8_13_8 (pc := 67) 0 ok rfl dX8_load_67 ?_
      refine j_iload_n (pc := 70) 1 ok dX8_load_70 rfl rfl ?_
      refine j_aload_n (pc := 71) 0 ok dX8_load_71 rfl rfl ?_
      refine gf_X8_35_8 (pc := 72) 0 ok rfl dX8_load_72 ?_
      refine j_iload_n (pc := 75) 1 ok dX8_load_75 rfl rfl ?_
      refine j_iald (pc := 76) 9 ok rfl dX8_load_76 h (fun h => ?_)
      refine j_iastw (pc := 77) 5 ok rfl dX8_load_77 h [(a0, .inr (8, [.int (iI a0_refusal), .ref a0_text, .int (iI a0_textSize), .ref a0_now, .ref a0_trial, .ref a0_diary, .int (iI a0_acts), .ref a0_kept, .ref a0_isKept, .ref a0_clip, .ref a0_line, .int (iI a0_lineSize), .ref a0_read, .int (iI a0_readSize), .ref a0_opens, .ref a0_chains, .ref a0_factors, .ref a0_plains, .ref a0_belows, .ref a0_owned, .int (iI a0_deep), .ref a0_wides, .ref a0_highs, .ref a0_lows, .ref a0_itemWides, .ref a0_pile])), (a0_belows, .inl (cs.2.1, 128, .inl (aI a0_belowsF))), (a0_chains, .inl (cs.1, 128, .inl (aI a0_chainsF))), (a0_factors, .inl (cs.1, 128, .inl (aI a0_factorsF))), (a0_isKept, .inl (cs.2.1, 2, .inl (aI a0_isKeptF))), (a0_now, .inl (cs.1, 184, .inl (aI (va_up a0_nowF y1.toNat (a0_readF y1.toNat))))), (a0_opens, .inl (cs.1, 128, .inl (aI a0_opensF))), (a0_owned, .inl (cs.2.1, 128, .inl (aI a0_ownedF))), (a0_plains, .inl (cs.2.1, 128, .inl (aI a0_plainsF))), (a0_read, .inl (cs.1, 512, .inl (aI a0_readF))), (a0_text, .inl (cs.1, 120, .inl (aI a0_textF)))] rfl (fun h => ?_)
      refine j_iinc (pc := 78) (lv' := [(1, .int (iI (y1 + 1))), (0, .ref a0)]) 1 ok dX8_load_78 rfl (by decide) rfl ?_
      refine j_goto (pc := 81) 58 ok dX8_load_81 (by decide) ?_
      refine j_lv [1, 0] rfl ?_
      exact ih _ _ _ _ _ _ _ _ _ _ _ _ _ _ h
def f_X8_load (a0_refusal : Int) (a0_textSize : Int) (a0_acts : Int) (a0_readSize : Int) (a0_deep : Int) (a0_belowsF : (Nat → Int)) (a0_chainsF : (Nat → Int)) (a0_factorsF : (Nat → Int)) (a0_isKeptF : (Nat → Int)) (a0_nowF : (Nat → Int)) (a0_opensF : (Nat → Int)) (a0_ownedF : (Nat → Int)) (a0_plainsF : (Nat → Int)) (a0_readF : (Nat → Int)) (a0_textF : (Nat → Int)) : Option (Int × Int × Int × Int × Int × (Nat → Int) × (Nat → Int) × (Nat → Int) × (Nat → Int) × (Nat → Int) × (Nat → Int) × (Nat → Int) × (Nat → Int) × (Nat → Int)) := bd (f_X8_readText a0_textSize a0_readSize a0_deep a0_belowsF a0_chainsF a0_factorsF a0_opensF a0_ownedF a0_plainsF a0_readF a0_textF) (fun r1 => jn (fun (z7 : Int) => bd (f_X8_refused a0_refusal z7) (fun r8 => cEq r8.1 0 (f_X8_load_58 a0_textSize a0_textF (fun (z9 : Int × Int × Int × Int × (Nat → Int) × (Nat → Int) × (Nat → Int) × (Nat → Int) × (Nat → Int) × (Nat → Int) × (Nat → Int) × (Nat → Int) × (Nat → Int) × Int) => gIn 180 184 (gIn 181 184 (gIn 182 184 (gIn 0 2 (gB 0 (gIn 1 2 (gB 0 (bd (f_X8_allIn 184 (va_up (va_up (va_up z9.2.2.2.2.2.2.2.2.1 (180 : Int).toNat z9.2.2.1) (181 : Int).toNat 0) (182 : Int).toNat ((-9))) 0 z9.2.2.1) (fun r10 => some (r10, z9.1, 0, z9.2.2.1, z9.2.2.2.1, z9.2.2.2.2.1, z9.2.2.2.2.2.1, z9.2.2.2.2.2.2.1, va_up (va_up z9.2.2.2.2.2.2.2.1 (0 : Int).toNat 0) (1 : Int).toNat 0, va_up (va_up (va_up z9.2.2.2.2.2.2.2.2.1 (180 : Int).toNat z9.2.2.1) (181 : Int).toNat 0) (182 : Int).toNat ((-9)), z9.2.2.2.2.2.2.2.2.2.1, z9.2.2.2.2.2.2.2.2.2.2.1, z9.2.2.2.2.2.2.2.2.2.2.2.1, z9.2.2.2.2.2.2.2.2.2.2.2.2.1)))))))))) fuel r8.2 a0_acts r1.2.1 r1.2.2.1 r1.2.2.2.1 r1.2.2.2.2.1 r1.2.2.2.2.2.1 a0_isKeptF a0_nowF r1.2.2.2.2.2.2.1 r1.2.2.2.2.2.2.2.1 r1.2.2.2.2.2.2.2.2.1 r1.2.2.2.2.2.2.2.2.2 0) (some (0, r8.2, a0_acts, r1.2.1, r1.2.2.1, r1.2.2.2.1, r1.2.2.2.2.1, r1.2.2.2.2.2.1, a0_isKeptF, a0_nowF, r1.2.2.2.2.2.2.1, r1.2.2.2.2.2.2.2.1, r1.2.2.2.2.2.2.2.2.1, r1.2.2.2.2.2.2.2.2.2)))) (fun k3 => jn (fun (z6 : Unit) => k3 1) (fun k2 => cEq r1.1 ((-9)) (bd (f_X8_allIn 512 r1.2.2.2.2.2.2.2.2.2 0 r1.2.1) (fun r4 => cLt 60 r4 (k2 ()) (bd (f_X8_deepest 512 r1.2.2.2.2.2.2.2.2.2 0 r1.2.1) (fun r5 => cLt 5 r5 (k2 ()) (k3 0))))) (k2 ()))))
set_option maxRecDepth 100000 in
set_option maxHeartbeats 4000000 in
theorem k_X8_load {D : va_G} {cs : q_CS} {a0 a0_text a0_now a0_trial a0_diary a0_kept a0_isKept a0_clip a0_line a0_read a0_opens a0_chains a0_factors a0_plains a0_belows a0_owned a0_wides a0_highs a0_lows a0_itemWides a0_pile : Nat} {a0_refusal a0_textSize a0_acts a0_lineSize a0_readSize a0_deep : Int} {a0_belowsF a0_chainsF a0_factorsF a0_isKeptF a0_nowF a0_opensF a0_ownedF a0_plainsF a0_readF a0_textF : (Nat → Int)} {r : (Int × Int × Int × Int × Int × (Nat → Int) × (Nat → Int) × (Nat → Int) × (Nat → Int) × (Nat → Int) × (Nat → Int) × (Nat → Int) × (Nat → Int) × (Nat → Int))} (h : f_X8_load a0_refusal a0_textSize a0_acts a0_readSize a0_deep a0_belowsF a0_chainsF a0_factorsF a0_isKeptF a0_nowF a0_opensF a0_ownedF a0_plainsF a0_readF a0_textF = some r) : q_M D cs yX8_load cX8_load 2 (some .int) 3 71 [.ref a0] [(a0, .inr (8, [.int (iI a0_refusal), .ref a0_text, .int (iI a0_textSize), .ref a0_now, .ref a0_trial, .ref a0_diary, .int (iI a0_acts), .ref a0_kept, .ref a0_isKept, .ref a0_clip, .ref a0_line, .int (iI a0_lineSize), .ref a0_read, .int (iI a0_readSize), .ref a0_opens, .ref a0_chains, .ref a0_factors, .ref a0_plains, .ref a0_belows, .ref a0_owned, .int (iI a0_deep), .ref a0_wides, .ref a0_highs, .ref a0_lows, .ref a0_itemWides, .ref a0_pile])), (a0_belows, .inl (cs.2.1, 128, .inl (aI a0_belowsF))), (a0_chains, .inl (cs.1, 128, .inl (aI a0_chainsF))), (a0_factors, .inl (cs.1, 128, .inl (aI a0_factorsF))), (a0_isKept, .inl (cs.2.1, 2, .inl (aI a0_isKeptF))), (a0_now, .inl (cs.1, 184, .inl (aI a0_nowF))), (a0_opens, .inl (cs.1, 128, .inl (aI a0_opensF))), (a0_owned, .inl (cs.2.1, 128, .inl (aI a0_ownedF))), (a0_plains, .inl (cs.2.1, 128, .inl (aI a0_plainsF))), (a0_read, .inl (cs.1, 512, .inl (aI a0_readF))), (a0_text, .inl (cs.1, 120, .inl (aI a0_textF)))] (some (.int (iI r.1))) [(a0, .inr (8, [.int (iI r.2.1), .ref a0_text, .int (iI a0_textSize), .ref a0_now, .ref a0_trial, .ref a0_diary, .int (iI r.2.2.1), .ref a0_kept, .ref a0_isKept, .ref a0_clip, .ref a0_line, .int (iI a0_lineSize), .ref a0_read, .int (iI r.2.2.2.1), .ref a0_opens, .ref a0_chains, .ref a0_factors, .ref a0_plains, .ref a0_belows, .ref a0_owned, .int (iI r.2.2.2.2.1), .ref a0_wides, .ref a0_highs, .ref a0_lows, .ref a0_itemWides, .ref a0_pile])), (a0_belows, .inl (cs.2.1, 128, .inl (aI r.2.2.2.2.2.1))), (a0_chains, .inl (cs.1, 128, .inl (aI r.2.2.2.2.2.2.1))), (a0_factors, .inl (cs.1, 128, .inl (aI r.2.2.2.2.2.2.2.1))), (a0_isKept, .inl (cs.2.1, 2, .inl (aI r.2.2.2.2.2.2.2.2.1))), (a0_now, .inl (cs.1, 184, .inl (aI r.2.2.2.2.2.2.2.2.2.1))), (a0_opens, .inl (cs.1, 128, .inl (aI r.2.2.2.2.2.2.2.2.2.2.1))), (a0_owned, .inl (cs.2.1, 128, .inl (aI r.2.2.2.2.2.2.2.2.2.2.2.1))), (a0_plains, .inl (cs.2.1, 128, .inl (aI r.2.2.2.2.2.2.2.2.2.2.2.2.1))), (a0_read, .inl (cs.1, 512, .inl (aI r.2.2.2.2.2.2.2.2.2.2.2.2.2))), (a0_text, .inl (cs.1, 120, .inl (aI a0_textF)))] := by
  refine q_start_i [(0, .ref a0)] RX8 rfl (by decide +kernel) rfl (Nat.le_of_ble_eq_true rfl) rfl (fun κ ok fin => ?_)
  unfold f_X8_load at h
  refine j_aload_n (pc := 0) 0 ok dX8_load_0 rfl rfl ?_
  refine j_aload_n (pc := 1) 0 ok dX8_load_1 rfl rfl ?_
  obtain ⟨r1, hr1, h⟩ := bd_inv h
  refine j_callV (pc := 2) ok (k_X8_readText (a0 := a0) (a0_text := a0_text) (a0_now := a0_now) (a0_trial := a0_trial) (a0_diary := a0_diary) (a0_kept := a0_kept) (a0_isKept := a0_isKept) (a0_clip := a0_clip) (a0_line := a0_line) (a0_read := a0_read) (a0_opens := a0_opens) (a0_chains := a0_chains) (a0_factors := a0_factors) (a0_plains := a0_plains) (a0_belows := a0_belows) (a0_owned := a0_owned) (a0_wides := a0_wides) (a0_highs := a0_highs) (a0_lows := a0_lows) (a0_itemWides := a0_itemWides) (a0_pile := a0_pile) (a0_refusal := a0_refusal) (a0_textSize := a0_textSize) (a0_acts := a0_acts) (a0_lineSize := a0_lineSize) (a0_readSize := a0_readSize) (a0_deep := a0_deep) (a0_belowsF := a0_belowsF) (a0_chainsF := a0_chainsF) (a0_factorsF := a0_factorsF) (a0_opensF := a0_opensF) (a0_ownedF := a0_ownedF) (a0_plainsF := a0_plainsF) (a0_readF := a0_readF) (a0_textF := a0_textF) hr1) gV_X8_178 ⟨rfl, hd_X8_readText⟩ [0, 1, 2, 3, 6, 7, 8, 9, 10] (by decide) rfl rfl 0 rfl rfl rfl rfl ⟨Nat.zero_le _, Nat.zero_le _⟩ (Nat.le_of_ble_eq_true rfl) dX8_load_2 rfl [(a0, .inr (8, [.int (iI a0_refusal), .ref a0_text, .int (iI a0_textSize), .ref a0_now, .ref a0_trial, .ref a0_diary, .int (iI a0_acts), .ref a0_kept, .ref a0_isKept, .ref a0_clip, .ref a0_line, .int (iI a0_lineSize), .ref a0_read, .int (iI r1.2.1), .ref a0_opens, .ref a0_chains, .ref a0_factors, .ref a0_plains, .ref a0_belows, .ref a0_owned, .int (iI r1.2.2.1), .ref a0_wides, .ref a0_highs, .ref a0_lows, .ref a0_itemWides, .ref a0_pile])), (a0_belows, .inl (cs.2.1, 128, .inl (aI r1.2.2.2.1))), (a0_chains, .inl (cs.1, 128, .inl (aI r1.2.2.2.2.1))), (a0_factors, .inl (cs.1, 128, .inl (aI r1.2.2.2.2.2.1))), (a0_isKept, .inl (cs.2.1, 2, .inl (aI a0_isKeptF))), (a0_now, .inl (cs.1, 184, .inl (aI a0_nowF))), (a0_opens, .inl (cs.1, 128, .inl (aI r1.2.2.2.2.2.2.1))), (a0_owned, .inl (cs.2.1, 128, .inl (aI r1.2.2.2.2.2.2.2.1))), (a0_plains, .inl (cs.2.1, 128, .inl (aI r1.2.2.2.2.2.2.2.2.1))), (a0_read, .inl (cs.1, 512, .inl (aI r1.2.2.2.2.2.2.2.2.2))), (a0_text, .inl (cs.1, 120, .inl (aI a0_textF)))] rfl ?_
  refine j_bipush (pc := 5) ok dX8_load_5 (by decide) ?_
  refine jn_use (P := fun z7 => q_J D κ 2 0 0 [(a0, .inr (8, [.int (iI a0_refusal), .ref a0_text, .int (iI a0_textSize), .ref a0_now, .ref a0_trial, .ref a0_diary, .int (iI a0_acts), .ref a0_kept, .ref a0_isKept, .ref a0_clip, .ref a0_line, .int (iI a0_lineSize), .ref a0_read, .int (iI r1.2.1), .ref a0_opens, .ref a0_chains, .ref a0_factors, .ref a0_plains, .ref a0_belows, .ref a0_owned, .int (iI r1.2.2.1), .ref a0_wides, .ref a0_highs, .ref a0_lows, .ref a0_itemWides, .ref a0_pile])), (a0_belows, .inl (cs.2.1, 128, .inl (aI r1.2.2.2.1))), (a0_chains, .inl (cs.1, 128, .inl (aI r1.2.2.2.2.1))), (a0_factors, .inl (cs.1, 128, .inl (aI r1.2.2.2.2.2.1))), (a0_isKept, .inl (cs.2.1, 2, .inl (aI a0_isKeptF))), (a0_now, .inl (cs.1, 184, .inl (aI a0_nowF))), (a0_opens, .inl (cs.1, 128, .inl (aI r1.2.2.2.2.2.2.1))), (a0_owned, .inl (cs.2.1, 128, .inl (aI r1.2.2.2.2.2.2.2.1))), (a0_plains, .inl (cs.2.1, 128, .inl (aI r1.2.2.2.2.2.2.2.2.1))), (a0_read, .inl (cs.1, 512, .inl (aI r1.2.2.2.2.2.2.2.2.2))), (a0_text, .inl (cs.1, 120, .inl (aI a0_textF)))] [(0, .ref a0)] 48 [.int (iI z7), .ref a0]) h (fun z7 h => ?_) (fun k3 hk3 h => ?_)
  · obtain ⟨r8, hr8, h⟩ := bd_inv h
    refine j_callV (pc := 48) ok (k_X8_refused (a0 := a0) (a0_text := a0_text) (a0_now := a0_now) (a0_trial := a0_trial) (a0_diary := a0_diary) (a0_kept := a0_kept) (a0_isKept := a0_isKept) (a0_clip := a0_clip) (a0_line := a0_line) (a0_read := a0_read) (a0_opens := a0_opens) (a0_chains := a0_chains) (a0_factors := a0_factors) (a0_plains := a0_plains) (a0_belows := a0_belows) (a0_owned := a0_owned) (a0_wides := a0_wides) (a0_highs := a0_highs) (a0_lows := a0_lows) (a0_itemWides := a0_itemWides) (a0_pile := a0_pile) (a0_refusal := a0_refusal) (a0_textSize := a0_textSize) (a0_acts := a0_acts) (a0_lineSize := a0_lineSize) (a0_readSize := r1.2.1) (a0_deep := r1.2.2.1) (x1 := z7) hr8) gV_X8_150 ⟨rfl, hd_X8_refused⟩ [0] (by decide) rfl rfl 0 rfl rfl rfl rfl ⟨Nat.zero_le _, Nat.zero_le _⟩ (Nat.le_of_ble_eq_true rfl) dX8_load_48 rfl [(a0, .inr (8, [.int (iI r8.2), .ref a0_text, .int (iI a0_textSize), .ref a0_now, .ref a0_trial, .ref a0_diary, .int (iI a0_acts), .ref a0_kept, .ref a0_isKept, .ref a0_clip, .ref a0_line, .int (iI a0_lineSize), .ref a0_read, .int (iI r1.2.1), .ref a0_opens, .ref a0_chains, .ref a0_factors, .ref a0_plains, .ref a0_belows, .ref a0_owned, .int (iI r1.2.2.1), .ref a0_wides, .ref a0_highs, .ref a0_lows, .ref a0_itemWides, .ref a0_pile])), (a0_belows, .inl (cs.2.1, 128, .inl (aI r1.2.2.2.1))), (a0_chains, .inl (cs.1, 128, .inl (aI r1.2.2.2.2.1))), (a0_factors, .inl (cs.1, 128, .inl (aI r1.2.2.2.2.2.1))), (a0_isKept, .inl (cs.2.1, 2, .inl (aI a0_isKeptF))), (a0_now, .inl (cs.1, 184, .inl (aI a0_nowF))), (a0_opens, .inl (cs.1, 128, .inl (aI r1.2.2.2.2.2.2.1))), (a0_owned, .inl (cs.2.1, 128, .inl (aI r1.2.2.2.2.2.2.2.1))), (a0_plains, .inl (cs.2.1, 128, .inl (aI r1.2.2.2.2.2.2.2.2.1))), (a0_read, .inl (cs.1, 512, .inl (aI r1.2.2.2.2.2.2.2.2.2))), (a0_text, .inl (cs.1, 120, .inl (aI a0_textF)))] rfl ?_
    refine j_if_eq (pc := 51) 56 ok dX8_load_51 (by decide) h (fun h => ?_) (fun h => ?_)
    · refine j_iconst (pc := 56) ok dX8_load_56 ?_
      refine j_istore_n (pc := 57) (lv' := [(1, .int (iI 0)), (0, .ref a0)]) ok dX8_load_57 rfl (by decide) rfl ?_
      refine j_lv [1, 0] rfl ?_
      refine l_X8_load_58 ok fin (fun z9 h => ?_) fuel _ _ _ _ _ _ _ _ _ _ _ _ _ _ h
      · refine j_aload_n (pc := 84) 0 ok dX8_load_84 rfl rfl ?_
        refine gf_X8_13_8 (pc := 85) 0 ok rfl dX8_load_85 ?_
        refine j_sipush (pc := 88) ok dX8_load_88 (by decide) ?_
        refine j_aload_n (pc := 91) 0 ok dX8_load_91 rfl rfl ?_
        refine gf_X8_153_8 (pc := 92) 0 ok rfl dX8_load_92 ?_
        refine j_iastw (pc := 95) 5 ok rfl dX8_load_95 h [(a0, .inr (8, [.int (iI z9.1), .ref a0_text, .int (iI a0_textSize), .ref a0_now, .ref a0_trial, .ref a0_diary, .int (iI z9.2.1), .ref a0_kept, .ref a0_isKept, .ref a0_clip, .ref a0_line, .int (iI a0_lineSize), .ref a0_read, .int (iI z9.2.2.1), .ref a0_opens, .ref a0_chains, .ref a0_factors, .ref a0_plains, .ref a0_belows, .ref a0_owned, .int (iI z9.2.2.2.1), .ref a0_wides, .ref a0_highs, .ref a0_lows, .ref a0_itemWides, .ref a0_pile])), (a0_belows, .inl (cs.2.1, 128, .inl (aI z9.2.2.2.2.1))), (a0_chains, .inl (cs.1, 128, .inl (aI z9.2.2.2.2.2.1))), (a0_factors, .inl (cs.1, 128, .inl (aI z9.2.2.2.2.2.2.1))), (a0_isKept, .inl (cs.2.1, 2, .inl (aI z9.2.2.2.2.2.2.2.1))), (a0_now, .inl (cs.1, 184, .inl (aI (va_up z9.2.2.2.2.2.2.2.2.1 (180 : Int).toNat z9.2.2.1)))), (a0_opens, .inl (cs.1, 128, .inl (aI z9.2.2.2.2.2.2.2.2.2.1))), (a0_owned, .inl (cs.2.1, 128, .inl (aI z9.2.2.2.2.2.2.2.2.2.2.1))), (a0_plains, .inl (cs.2.1, 128, .inl (aI z9.2.2.2.2.2.2.2.2.2.2.2.1))), (a0_read, .inl (cs.1, 512, .inl (aI z9.2.2.2.2.2.2.2.2.2.2.2.2.1))), (a0_text, .inl (cs.1, 120, .inl (aI a0_textF)))] rfl (fun h => ?_)
        refine j_aload_n (pc := 96) 0 ok dX8_load_96 rfl rfl ?_
        refine gf_X8_13_8 (pc := 97) 0 ok rfl dX8_load_97 ?_
        refine j_sipush (pc := 100) ok dX8_load_100 (by decide) ?_
        refine j_iconst (pc := 103) ok dX8_load_103 ?_
        refine j_iastw (pc := 104) 5 ok rfl dX8_load_104 h [(a0, .inr (8, [.int (iI z9.1), .ref a0_text, .int (iI a0_textSize), .ref a0_now, .ref a0_trial, .ref a0_diary, .int (iI z9.2.1), .ref a0_kept, .ref a0_isKept, .ref a0_clip, .ref a0_line, .int (iI a0_lineSize), .ref a0_read, .int (iI z9.2.2.1), .ref a0_opens, .ref a0_chains, .ref a0_factors, .ref a0_plains, .ref a0_belows, .ref a0_owned, .int (iI z9.2.2.2.1), .ref a0_wides, .ref a0_highs, .ref a0_lows, .ref a0_itemWides, .ref a0_pile])), (a0_belows, .inl (cs.2.1, 128, .inl (aI z9.2.2.2.2.1))), (a0_chains, .inl (cs.1, 128, .inl (aI z9.2.2.2.2.2.1))), (a0_factors, .inl (cs.1, 128, .inl (aI z9.2.2.2.2.2.2.1))), (a0_isKept, .inl (cs.2.1, 2, .inl (aI z9.2.2.2.2.2.2.2.1))), (a0_now, .inl (cs.1, 184, .inl (aI (va_up (va_up z9.2.2.2.2.2.2.2.2.1 (180 : Int).toNat z9.2.2.1) (181 : Int).toNat 0)))), (a0_opens, .inl (cs.1, 128, .inl (aI z9.2.2.2.2.2.2.2.2.2.1))), (a0_owned, .inl (cs.2.1, 128, .inl (aI z9.2.2.2.2.2.2.2.2.2.2.1))), (a0_plains, .inl (cs.2.1, 128, .inl (aI z9.2.2.2.2.2.2.2.2.2.2.2.1))), (a0_read, .inl (cs.1, 512, .inl (aI z9.2.2.2.2.2.2.2.2.2.2.2.2.1))), (a0_text, .inl (cs.1, 120, .inl (aI a0_textF)))] rfl (fun h => ?_)
        refine j_aload_n (pc := 105) 0 ok dX8_load_105 rfl rfl ?_
        refine gf_X8_13_8 (pc := 106) 0 ok rfl dX8_load_106 ?_
        refine j_sipush (pc := 109) ok dX8_load_109 (by decide) ?_
        refine j_bipush (pc := 112) ok dX8_load_112 (by decide) ?_
        refine j_iastw (pc := 114) 5 ok rfl dX8_load_114 h [(a0, .inr (8, [.int (iI z9.1), .ref a0_text, .int (iI a0_textSize), .ref a0_now, .ref a0_trial, .ref a0_diary, .int (iI z9.2.1), .ref a0_kept, .ref a0_isKept, .ref a0_clip, .ref a0_line, .int (iI a0_lineSize), .ref a0_read, .int (iI z9.2.2.1), .ref a0_opens, .ref a0_chains, .ref a0_factors, .ref a0_plains, .ref a0_belows, .ref a0_owned, .int (iI z9.2.2.2.1), .ref a0_wides, .ref a0_highs, .ref a0_lows, .ref a0_itemWides, .ref a0_pile])), (a0_belows, .inl (cs.2.1, 128, .inl (aI z9.2.2.2.2.1))), (a0_chains, .inl (cs.1, 128, .inl (aI z9.2.2.2.2.2.1))), (a0_factors, .inl (cs.1, 128, .inl (aI z9.2.2.2.2.2.2.1))), (a0_isKept, .inl (cs.2.1, 2, .inl (aI z9.2.2.2.2.2.2.2.1))), (a0_now, .inl (cs.1, 184, .inl (aI (va_up (va_up (va_up z9.2.2.2.2.2.2.2.2.1 (180 : Int).toNat z9.2.2.1) (181 : Int).toNat 0) (182 : Int).toNat ((-9)))))), (a0_opens, .inl (cs.1, 128, .inl (aI z9.2.2.2.2.2.2.2.2.2.1))), (a0_owned, .inl (cs.2.1, 128, .inl (aI z9.2.2.2.2.2.2.2.2.2.2.1))), (a0_plains, .inl (cs.2.1, 128, .inl (aI z9.2.2.2.2.2.2.2.2.2.2.2.1))), (a0_read, .inl (cs.1, 512, .inl (aI z9.2.2.2.2.2.2.2.2.2.2.2.2.1))), (a0_text, .inl (cs.1, 120, .inl (aI a0_textF)))] rfl (fun h => ?_)
        refine j_aload_n (pc := 115) 0 ok dX8_load_115 rfl rfl ?_
        refine j_iconst (pc := 116) ok dX8_load_116 ?_
        refine pf_X8_182_8 (pc := 117) 0 ok rfl dX8_load_117 [(a0, .inr (8, [.int (iI z9.1), .ref a0_text, .int (iI a0_textSize), .ref a0_now, .ref a0_trial, .ref a0_diary, .int (iI 0), .ref a0_kept, .ref a0_isKept, .ref a0_clip, .ref a0_line, .int (iI a0_lineSize), .ref a0_read, .int (iI z9.2.2.1), .ref a0_opens, .ref a0_chains, .ref a0_factors, .ref a0_plains, .ref a0_belows, .ref a0_owned, .int (iI z9.2.2.2.1), .ref a0_wides, .ref a0_highs, .ref a0_lows, .ref a0_itemWides, .ref a0_pile])), (a0_belows, .inl (cs.2.1, 128, .inl (aI z9.2.2.2.2.1))), (a0_chains, .inl (cs.1, 128, .inl (aI z9.2.2.2.2.2.1))), (a0_factors, .inl (cs.1, 128, .inl (aI z9.2.2.2.2.2.2.1))), (a0_isKept, .inl (cs.2.1, 2, .inl (aI z9.2.2.2.2.2.2.2.1))), (a0_now, .inl (cs.1, 184, .inl (aI (va_up (va_up (va_up z9.2.2.2.2.2.2.2.2.1 (180 : Int).toNat z9.2.2.1) (181 : Int).toNat 0) (182 : Int).toNat ((-9)))))), (a0_opens, .inl (cs.1, 128, .inl (aI z9.2.2.2.2.2.2.2.2.2.1))), (a0_owned, .inl (cs.2.1, 128, .inl (aI z9.2.2.2.2.2.2.2.2.2.2.1))), (a0_plains, .inl (cs.2.1, 128, .inl (aI z9.2.2.2.2.2.2.2.2.2.2.2.1))), (a0_read, .inl (cs.1, 512, .inl (aI z9.2.2.2.2.2.2.2.2.2.2.2.2.1))), (a0_text, .inl (cs.1, 120, .inl (aI a0_textF)))] rfl ?_
        refine j_aload_n (pc := 120) 0 ok dX8_load_120 rfl rfl ?_
        refine gf_X8_25_8 (pc := 121) 0 ok rfl dX8_load_121 ?_
        refine j_iconst (pc := 124) ok dX8_load_124 ?_
        refine j_iconst (pc := 125) ok dX8_load_125 ?_
        refine j_zastw (pc := 126) 4 ok rfl dX8_load_126 h [(a0, .inr (8, [.int (iI z9.1), .ref a0_text, .int (iI a0_textSize), .ref a0_now, .ref a0_trial, .ref a0_diary, .int (iI 0), .ref a0_kept, .ref a0_isKept, .ref a0_clip, .ref a0_line, .int (iI a0_lineSize), .ref a0_read, .int (iI z9.2.2.1), .ref a0_opens, .ref a0_chains, .ref a0_factors, .ref a0_plains, .ref a0_belows, .ref a0_owned, .int (iI z9.2.2.2.1), .ref a0_wides, .ref a0_highs, .ref a0_lows, .ref a0_itemWides, .ref a0_pile])), (a0_belows, .inl (cs.2.1, 128, .inl (aI z9.2.2.2.2.1))), (a0_chains, .inl (cs.1, 128, .inl (aI z9.2.2.2.2.2.1))), (a0_factors, .inl (cs.1, 128, .inl (aI z9.2.2.2.2.2.2.1))), (a0_isKept, .inl (cs.2.1, 2, .inl (aI (va_up z9.2.2.2.2.2.2.2.1 (0 : Int).toNat 0)))), (a0_now, .inl (cs.1, 184, .inl (aI (va_up (va_up (va_up z9.2.2.2.2.2.2.2.2.1 (180 : Int).toNat z9.2.2.1) (181 : Int).toNat 0) (182 : Int).toNat ((-9)))))), (a0_opens, .inl (cs.1, 128, .inl (aI z9.2.2.2.2.2.2.2.2.2.1))), (a0_owned, .inl (cs.2.1, 128, .inl (aI z9.2.2.2.2.2.2.2.2.2.2.1))), (a0_plains, .inl (cs.2.1, 128, .inl (aI z9.2.2.2.2.2.2.2.2.2.2.2.1))), (a0_read, .inl (cs.1, 512, .inl (aI z9.2.2.2.2.2.2.2.2.2.2.2.2.1))), (a0_text, .inl (cs.1, 120, .inl (aI a0_textF)))] rfl (fun h => ?_)
        refine j_aload_n (pc := 127) 0 ok dX8_load_127 rfl rfl ?_
        refine gf_X8_25_8 (pc := 128) 0 ok rfl dX8_load_128 ?_
        refine j_iconst (pc := 131) ok dX8_load_131 ?_
        refine j_iconst (pc := 132) ok dX8_load_132 ?_
        refine j_zastw (pc := 133) 4 ok rfl dX8_load_133 h [(a0, .inr (8, [.int (iI z9.1), .ref a0_text, .int (iI a0_textSize), .ref a0_now, .ref a0_trial, .ref a0_diary, .int (iI 0), .ref a0_kept, .ref a0_isKept, .ref a0_clip, .ref a0_line, .int (iI a0_lineSize), .ref a0_read, .int (iI z9.2.2.1), .ref a0_opens, .ref a0_chains, .ref a0_factors, .ref a0_plains, .ref a0_belows, .ref a0_owned, .int (iI z9.2.2.2.1), .ref a0_wides, .ref a0_highs, .ref a0_lows, .ref a0_itemWides, .ref a0_pile])), (a0_belows, .inl (cs.2.1, 128, .inl (aI z9.2.2.2.2.1))), (a0_chains, .inl (cs.1, 128, .inl (aI z9.2.2.2.2.2.1))), (a0_factors, .inl (cs.1, 128, .inl (aI z9.2.2.2.2.2.2.1))), (a0_isKept, .inl (cs.2.1, 2, .inl (aI (va_up (va_up z9.2.2.2.2.2.2.2.1 (0 : Int).toNat 0) (1 : Int).toNat 0)))), (a0_now, .inl (cs.1, 184, .inl (aI (va_up (va_up (va_up z9.2.2.2.2.2.2.2.2.1 (180 : Int).toNat z9.2.2.1) (181 : Int).toNat 0) (182 : Int).toNat ((-9)))))), (a0_opens, .inl (cs.1, 128, .inl (aI z9.2.2.2.2.2.2.2.2.2.1))), (a0_owned, .inl (cs.2.1, 128, .inl (aI z9.2.2.2.2.2.2.2.2.2.2.1))), (a0_plains, .inl (cs.2.1, 128, .inl (aI z9.2.2.2.2.2.2.2.2.2.2.2.1))), (a0_read, .inl (cs.1, 512, .inl (aI z9.2.2.2.2.2.2.2.2.2.2.2.2.1))), (a0_text, .inl (cs.1, 120, .inl (aI a0_textF)))] rfl (fun h => ?_)
        refine j_aload_n (pc := 134) 0 ok dX8_load_134 rfl rfl ?_
        refine gf_X8_13_8 (pc := 135) 0 ok rfl dX8_load_135 ?_
        refine j_iconst (pc := 138) ok dX8_load_138 ?_
        refine j_aload_n (pc := 139) 0 ok dX8_load_139 rfl rfl ?_
        refine gf_X8_153_8 (pc := 140) 0 ok rfl dX8_load_140 ?_
        obtain ⟨r10, hr10, h⟩ := bd_inv h
        refine j_callS (pc := 143) ok (k_X8_allIn (a0 := a0_now) (a0N := 184) (a0F := va_up (va_up (va_up z9.2.2.2.2.2.2.2.2.1 (180 : Int).toNat z9.2.2.1) (181 : Int).toNat 0) (182 : Int).toNat ((-9))) (x1 := 0) (x2 := z9.2.2.1) hr10) gS_X8_114 hd_X8_allIn [5] (by decide) rfl rfl rfl rfl ⟨Nat.zero_le _, Nat.zero_le _⟩ (Nat.le_of_ble_eq_true rfl) dX8_load_143 rfl [(a0, .inr (8, [.int (iI z9.1), .ref a0_text, .int (iI a0_textSize), .ref a0_now, .ref a0_trial, .ref a0_diary, .int (iI 0), .ref a0_kept, .ref a0_isKept, .ref a0_clip, .ref a0_line, .int (iI a0_lineSize), .ref a0_read, .int (iI z9.2.2.1), .ref a0_opens, .ref a0_chains, .ref a0_factors, .ref a0_plains, .ref a0_belows, .ref a0_owned, .int (iI z9.2.2.2.1), .ref a0_wides, .ref a0_highs, .ref a0_lows, .ref a0_itemWides, .ref a0_pile])), (a0_belows, .inl (cs.2.1, 128, .inl (aI z9.2.2.2.2.1))), (a0_chains, .inl (cs.1, 128, .inl (aI z9.2.2.2.2.2.1))), (a0_factors, .inl (cs.1, 128, .inl (aI z9.2.2.2.2.2.2.1))), (a0_isKept, .inl (cs.2.1, 2, .inl (aI (va_up (va_up z9.2.2.2.2.2.2.2.1 (0 : Int).toNat 0) (1 : Int).toNat 0)))), (a0_now, .inl (cs.1, 184, .inl (aI (va_up (va_up (va_up z9.2.2.2.2.2.2.2.2.1 (180 : Int).toNat z9.2.2.1) (181 : Int).toNat 0) (182 : Int).toNat ((-9)))))), (a0_opens, .inl (cs.1, 128, .inl (aI z9.2.2.2.2.2.2.2.2.2.1))), (a0_owned, .inl (cs.2.1, 128, .inl (aI z9.2.2.2.2.2.2.2.2.2.2.1))), (a0_plains, .inl (cs.2.1, 128, .inl (aI z9.2.2.2.2.2.2.2.2.2.2.2.1))), (a0_read, .inl (cs.1, 512, .inl (aI z9.2.2.2.2.2.2.2.2.2.2.2.2.1))), (a0_text, .inl (cs.1, 120, .inl (aI a0_textF)))] rfl ?_
        obtain rfl := Option.some.inj h
        exact fin _ 146 dX8_load_146
    · refine j_iconst (pc := 54) ok dX8_load_54 ?_
      obtain rfl := Option.some.inj h
      exact fin _ 55 dX8_load_55
  · refine jn_use (P := fun z6 => q_J D κ 2 0 0 [(a0, .inr (8, [.int (iI a0_refusal), .ref a0_text, .int (iI a0_textSize), .ref a0_now, .ref a0_trial, .ref a0_diary, .int (iI a0_acts), .ref a0_kept, .ref a0_isKept, .ref a0_clip, .ref a0_line, .int (iI a0_lineSize), .ref a0_read, .int (iI r1.2.1), .ref a0_opens, .ref a0_chains, .ref a0_factors, .ref a0_plains, .ref a0_belows, .ref a0_owned, .int (iI r1.2.2.1), .ref a0_wides, .ref a0_highs, .ref a0_lows, .ref a0_itemWides, .ref a0_pile])), (a0_belows, .inl (cs.2.1, 128, .inl (aI r1.2.2.2.1))), (a0_chains, .inl (cs.1, 128, .inl (aI r1.2.2.2.2.1))), (a0_factors, .inl (cs.1, 128, .inl (aI r1.2.2.2.2.2.1))), (a0_isKept, .inl (cs.2.1, 2, .inl (aI a0_isKeptF))), (a0_now, .inl (cs.1, 184, .inl (aI a0_nowF))), (a0_opens, .inl (cs.1, 128, .inl (aI r1.2.2.2.2.2.2.1))), (a0_owned, .inl (cs.2.1, 128, .inl (aI r1.2.2.2.2.2.2.2.1))), (a0_plains, .inl (cs.2.1, 128, .inl (aI r1.2.2.2.2.2.2.2.2.1))), (a0_read, .inl (cs.1, 512, .inl (aI r1.2.2.2.2.2.2.2.2.2))), (a0_text, .inl (cs.1, 120, .inl (aI a0_textF)))] [(0, .ref a0)] 43 [.ref a0]) h (fun z6 h => ?_) (fun k2 hk2 h => ?_)
    · refine j_iconst (pc := 43) ok dX8_load_43 ?_
      refine j_goto (pc := 44) 48 ok dX8_load_44 (by decide) ?_
      exact hk3 1 h
    · refine j_icmp_ne (pc := 7) 43 ok dX8_load_7 (by decide) h (fun h => ?_) (fun h => ?_)
      · exact hk2 () h
      · refine j_aload_n (pc := 10) 0 ok dX8_load_10 rfl rfl ?_
        refine gf_X8_35_8 (pc := 11) 0 ok rfl dX8_load_11 ?_
        refine j_iconst (pc := 14) ok dX8_load_14 ?_
        refine j_aload_n (pc := 15) 0 ok dX8_load_15 rfl rfl ?_
        refine gf_X8_153_8 (pc := 16) 0 ok rfl dX8_load_16 ?_
        obtain ⟨r4, hr4, h⟩ := bd_inv h
        refine j_callS (pc := 19) ok (k_X8_allIn (a0 := a0_read) (a0N := 512) (a0F := r1.2.2.2.2.2.2.2.2.2) (x1 := 0) (x2 := r1.2.1) hr4) gS_X8_114 hd_X8_allIn [9] (by decide) rfl rfl rfl rfl ⟨Nat.zero_le _, Nat.zero_le _⟩ (Nat.le_of_ble_eq_true rfl) dX8_load_19 rfl [(a0, .inr (8, [.int (iI a0_refusal), .ref a0_text, .int (iI a0_textSize), .ref a0_now, .ref a0_trial, .ref a0_diary, .int (iI a0_acts), .ref a0_kept, .ref a0_isKept, .ref a0_clip, .ref a0_line, .int (iI a0_lineSize), .ref a0_read, .int (iI r1.2.1), .ref a0_opens, .ref a0_chains, .ref a0_factors, .ref a0_plains, .ref a0_belows, .ref a0_owned, .int (iI r1.2.2.1), .ref a0_wides, .ref a0_highs, .ref a0_lows, .ref a0_itemWides, .ref a0_pile])), (a0_belows, .inl (cs.2.1, 128, .inl (aI r1.2.2.2.1))), (a0_chains, .inl (cs.1, 128, .inl (aI r1.2.2.2.2.1))), (a0_factors, .inl (cs.1, 128, .inl (aI r1.2.2.2.2.2.1))), (a0_isKept, .inl (cs.2.1, 2, .inl (aI a0_isKeptF))), (a0_now, .inl (cs.1, 184, .inl (aI a0_nowF))), (a0_opens, .inl (cs.1, 128, .inl (aI r1.2.2.2.2.2.2.1))), (a0_owned, .inl (cs.2.1, 128, .inl (aI r1.2.2.2.2.2.2.2.1))), (a0_plains, .inl (cs.2.1, 128, .inl (aI r1.2.2.2.2.2.2.2.2.1))), (a0_read, .inl (cs.1, 512, .inl (aI r1.2.2.2.2.2.2.2.2.2))), (a0_text, .inl (cs.1, 120, .inl (aI a0_textF)))] rfl ?_
        refine j_bipush (pc := 22) ok dX8_load_22 (by decide) ?_
        refine j_icmp_gt (pc := 24) 43 ok dX8_load_24 (by decide) h (fun h => ?_) (fun h => ?_)
        · exact hk2 () h
        · refine j_aload_n (pc := 27) 0 ok dX8_load_27 rfl rfl ?_
          refine gf_X8_35_8 (pc := 28) 0 ok rfl dX8_load_28 ?_
          refine j_iconst (pc := 31) ok dX8_load_31 ?_
          refine j_aload_n (pc := 32) 0 ok dX8_load_32 rfl rfl ?_
          refine gf_X8_153_8 (pc := 33) 0 ok rfl dX8_load_33 ?_
          obtain ⟨r5, hr5, h⟩ := bd_inv h
          refine j_callS (pc := 36) ok (k_X8_deepest (a0 := a0_read) (a0N := 512) (a0F := r1.2.2.2.2.2.2.2.2.2) (x1 := 0) (x2 := r1.2.1) hr5) gS_X8_133 hd_X8_deepest [9] (by decide) rfl rfl rfl rfl ⟨Nat.zero_le _, Nat.zero_le _⟩ (Nat.le_of_ble_eq_true rfl) dX8_load_36 rfl [(a0, .inr (8, [.int (iI a0_refusal), .ref a0_text, .int (iI a0_textSize), .ref a0_now, .ref a0_trial, .ref a0_diary, .int (iI a0_acts), .ref a0_kept, .ref a0_isKept, .ref a0_clip, .ref a0_line, .int (iI a0_lineSize), .ref a0_read, .int (iI r1.2.1), .ref a0_opens, .ref a0_chains, .ref a0_factors, .ref a0_plains, .ref a0_belows, .ref a0_owned, .int (iI r1.2.2.1), .ref a0_wides, .ref a0_highs, .ref a0_lows, .ref a0_itemWides, .ref a0_pile])), (a0_belows, .inl (cs.2.1, 128, .inl (aI r1.2.2.2.1))), (a0_chains, .inl (cs.1, 128, .inl (aI r1.2.2.2.2.1))), (a0_factors, .inl (cs.1, 128, .inl (aI r1.2.2.2.2.2.1))), (a0_isKept, .inl (cs.2.1, 2, .inl (aI a0_isKeptF))), (a0_now, .inl (cs.1, 184, .inl (aI a0_nowF))), (a0_opens, .inl (cs.1, 128, .inl (aI r1.2.2.2.2.2.2.1))), (a0_owned, .inl (cs.2.1, 128, .inl (aI r1.2.2.2.2.2.2.2.1))), (a0_plains, .inl (cs.2.1, 128, .inl (aI r1.2.2.2.2.2.2.2.2.1))), (a0_read, .inl (cs.1, 512, .inl (aI r1.2.2.2.2.2.2.2.2.2))), (a0_text, .inl (cs.1, 120, .inl (aI a0_textF)))] rfl ?_
          refine j_iconst (pc := 39) ok dX8_load_39 ?_
          refine j_icmp_le (pc := 40) 47 ok dX8_load_40 (by decide) h (fun h => ?_) (fun h => ?_)
          · refine j_iconst (pc := 47) ok dX8_load_47 ?_
            exact hk3 0 h
          · exact hk2 () h
def f_X8_about_118 (a0_nowF : (Nat → Int)) (e118_207 : Int × Int → Option (Int × Int)) : Nat → Int → Int → Option (Int × Int)
  | 0, _, _ => none
  | n + 1, y2, y3 => gIn 180 184 (cLt (y3 + 1) (a0_nowF (180 : Int).toNat) (gIn y3 184 (bd (f_X8_isBegin (a0_nowF y3.toNat)) (fun r7 => jn (fun (z11 : Int) => jn (fun (z17 : Int) => f_X8_about_118 a0_nowF e118_207 n (y2 + z17) (y3 + 1)) (fun k13 => jn (fun (z16 : Unit) => k13 0) (fun k12 => cEq z11 0 (k12 ()) (gIn (y3 + 1) 184 (jn (fun (z15 : Unit) => k13 1) (fun k14 => cEq (a0_nowF (y3 + 1).toNat) ((-10)) (k14 ()) (gIn (y3 + 1) 184 (cEq (a0_nowF (y3 + 1).toNat) ((-11)) (k14 ()) (k12 ()))))))))) (fun k9 => jn (fun (z10 : Unit) => k9 1) (fun k8 => cEq r7 0 (gIn y3 184 (cEq (a0_nowF y3.toNat) ((-10)) (k8 ()) (k9 0))) (k8 ())))))) (e118_207 (y2, y3)))
set_option maxRecDepth 100000 in
theorem l_X8_about_118 {D : va_G} {cs : q_CS} {κ : q_X} {a0 a0_text a0_now a0_trial a0_diary a0_kept a0_isKept a0_clip a0_line a0_read a0_opens a0_chains a0_factors a0_plains a0_belows a0_owned a0_wides a0_highs a0_lows a0_itemWides a0_pile : Nat} {a0_refusal a0_textSize a0_acts a0_lineSize a0_readSize a0_deep : Int} {a0_clipF a0_nowF : (Nat → Int)} {r : (Int × Int)} {e118_207 : Int × Int → Option (Int × Int)} (ok : q_ok D cs κ cX8_about 5 RX8 (q_rm 2 45)) (fin : ∀ (lv : List (Nat × Value)) (pc : Nat), decode cX8_about pc = .ok (.ireturn, 1) → q_J D κ 5 0 0 [(a0, .inr (8, [.int (iI r.2), .ref a0_text, .int (iI a0_textSize), .ref a0_now, .ref a0_trial, .ref a0_diary, .int (iI a0_acts), .ref a0_kept, .ref a0_isKept, .ref a0_clip, .ref a0_line, .int (iI a0_lineSize), .ref a0_read, .int (iI a0_readSize), .ref a0_opens, .ref a0_chains, .ref a0_factors, .ref a0_plains, .ref a0_belows, .ref a0_owned, .int (iI a0_deep), .ref a0_wides, .ref a0_highs, .ref a0_lows, .ref a0_itemWides, .ref a0_pile])), (a0_clip, .inl (cs.1, 184, .inl (aI a0_clipF))), (a0_now, .inl (cs.1, 184, .inl (aI a0_nowF)))] lv pc [.int (iI r.1)]) (he118_207 : ∀ x : Int × Int, e118_207 x = some r → q_J D κ 5 0 0 [(a0, .inr (8, [.int (iI a0_refusal), .ref a0_text, .int (iI a0_textSize), .ref a0_now, .ref a0_trial, .ref a0_diary, .int (iI a0_acts), .ref a0_kept, .ref a0_isKept, .ref a0_clip, .ref a0_line, .int (iI a0_lineSize), .ref a0_read, .int (iI a0_readSize), .ref a0_opens, .ref a0_chains, .ref a0_factors, .ref a0_plains, .ref a0_belows, .ref a0_owned, .int (iI a0_deep), .ref a0_wides, .ref a0_highs, .ref a0_lows, .ref a0_itemWides, .ref a0_pile])), (a0_clip, .inl (cs.1, 184, .inl (aI a0_clipF))), (a0_now, .inl (cs.1, 184, .inl (aI a0_nowF)))] [(2, .int (iI x.1))] 207 []) : ∀ (n : Nat) (y2 : Int) (y3 : Int), f_X8_about_118 a0_nowF e118_207 n y2 y3 = some r → q_J D κ 5 0 0 [(a0, .inr (8, [.int (iI a0_refusal), .ref a0_text, .int (iI a0_textSize), .ref a0_now, .ref a0_trial, .ref a0_diary, .int (iI a0_acts), .ref a0_kept, .ref a0_isKept, .ref a0_clip, .ref a0_line, .int (iI a0_lineSize), .ref a0_read, .int (iI a0_readSize), .ref a0_opens, .ref a0_chains, .ref a0_factors, .ref a0_plains, .ref a0_belows, .ref a0_owned, .int (iI a0_deep), .ref a0_wides, .ref a0_highs, .ref a0_lows, .ref a0_itemWides, .ref a0_pile])), (a0_clip, .inl (cs.1, 184, .inl (aI a0_clipF))), (a0_now, .inl (cs.1, 184, .inl (aI a0_nowF)))] [(0, .ref a0), (2, .int (iI y2)), (3, .int (iI y3))] 118 [] := by
  intro n
  induction n with
  | zero =>
    intro y2 y3 h
    exact absurd h (by unfold f_X8_about_118; exact fun z => by cases z)
  | succ n ih =>
    intro y2 y3 h
    unfold f_X8_about_118 at h
    refine j_iload_n (pc := 118) 2 ok dX8_about_118 rfl rfl ?_
    refine j_iconst (pc := 119) ok dX8_about_119 ?_
    refine j_iadd (pc := 120) ok dX8_about_120 ?_
    refine j_aload_n (pc := 121) 0 ok dX8_about_121 rfl rfl ?_
    refine gf_X8_13_8 (pc := 122) 0 ok rfl dX8_about_122 ?_
    refine j_sipush (pc := 125) ok dX8_about_125 (by decide) ?_
    refine j_iald (pc := 128) 2 ok rfl dX8_about_128 h (fun h => ?_)
    refine j_icmp_ge (pc := 129) 207 ok dX8_about_129 (by decide) h (fun h => ?_) (fun h => ?_)
    · refine j_lv [1] rfl ?_
      exact he118_207 (y2, y3) h
    · refine j_aload_n (pc := 132) 0 ok dX8_about_132 rfl rfl ?_
      refine gf_X8_13_8 (pc := 133) 0 ok rfl dX8_about_133 ?_
      refine j_iload_n (pc := 136) 2 ok dX8_about_136 rfl rfl ?_
      refine j_iald (pc := 137) 2 ok rfl dX8_about_137 h (fun h => ?_)
      obtain ⟨r7, hr7, h⟩ := bd_inv h
      refine j_callS (pc := 138) ok (k_X8_isBegin (x0 := a0_nowF y3.toNat) hr7) gS_X8_97 hd_X8_isBegin [] (by decide) rfl rfl rfl rfl ⟨Nat.zero_le _, Nat.zero_le _⟩ (Nat.le_of_ble_eq_true rfl) dX8_about_138 rfl [(a0, .inr (8, [.int (iI a0_refusal), .ref a0_text, .int (iI a0_textSize), .ref a0_now, .ref a0_trial, .ref a0_diary, .int (iI a0_acts), .ref a0_kept, .ref a0_isKept, .ref a0_clip, .ref a0_line, .int (iI a0_lineSize), .ref a0_read, .int (iI a0_readSize), .ref a0_opens, .ref a0_chains, .ref a0_factors, .ref a0_plains, .ref a0_belows, .ref a0_owned, .int (iI a0_deep), .ref a0_wides, .ref a0_highs, .ref a0_lows, .ref a0_itemWides, .ref a0_pile])), (a0_clip, .inl (cs.1, 184, .inl (aI a0_clipF))), (a0_now, .inl (cs.1, 184, .inl (aI a0_nowF)))] rfl ?_
      refine jn_use (P := fun z11 => q_J D κ 5 0 0 [(a0, .inr (8, [.int (iI a0_refusal), .ref a0_text, .int (iI a0_textSize), .ref a0_now, .ref a0_trial, .ref a0_diary, .int (iI a0_acts), .ref a0_kept, .ref a0_isKept, .ref a0_clip, .ref a0_line, .int (iI a0_lineSize), .ref a0_read, .int (iI a0_readSize), .ref a0_opens, .ref a0_chains, .ref a0_factors, .ref a0_plains, .ref a0_belows, .ref a0_owned, .int (iI a0_deep), .ref a0_wides, .ref a0_highs, .ref a0_lows, .ref a0_itemWides, .ref a0_pile])), (a0_clip, .inl (cs.1, 184, .inl (aI a0_clipF))), (a0_now, .inl (cs.1, 184, .inl (aI a0_nowF)))] [(0, .ref a0), (2, .int (iI y2)), (3, .int (iI y3))] 160 [.int (iI z11)]) h (fun z11 h => ?_) (fun k9 hk9 h => ?_)
      · refine j_istore (pc := 160) (lv' := [(4, .int (iI z11)), (0, .ref a0), (2, .int (iI y2)), (3, .int (iI y3))]) ok dX8_about_160 (by decide) rfl ?_
        refine j_iload_n (pc := 162) 2 ok dX8_about_162 rfl rfl ?_
        refine j_iload (pc := 163) 0 ok dX8_about_163 rfl ?_
        refine jn_use (P := fun z17 => q_J D κ 5 0 0 [(a0, .inr (8, [.int (iI a0_refusal), .ref a0_text, .int (iI a0_textSize), .ref a0_now, .ref a0_trial, .ref a0_diary, .int (iI a0_acts), .ref a0_kept, .ref a0_isKept, .ref a0_clip, .ref a0_line, .int (iI a0_lineSize), .ref a0_read, .int (iI a0_readSize), .ref a0_opens, .ref a0_chains, .ref a0_factors, .ref a0_plains, .ref a0_belows, .ref a0_owned, .int (iI a0_deep), .ref a0_wides, .ref a0_highs, .ref a0_lows, .ref a0_itemWides, .ref a0_pile])), (a0_clip, .inl (cs.1, 184, .inl (aI a0_clipF))), (a0_now, .inl (cs.1, 184, .inl (aI a0_nowF)))] [(0, .ref a0), (3, .int (iI y3))] 199 [.int (iI z17), .int (iI y2)]) h (fun z17 h => ?_) (fun k13 hk13 h => ?_)
        · refine j_iadd (pc := 199) ok dX8_about_199 ?_
          refine j_istore_n (pc := 200) (lv' := [(2, .int (iI (y2 + z17))), (0, .ref a0), (3, .int (iI y3))]) ok dX8_about_200 rfl (by decide) rfl ?_
          refine j_iinc (pc := 201) (lv' := [(3, .int (iI (y3 + 1))), (2, .int (iI (y2 + z17))), (0, .ref a0)]) 2 ok dX8_about_201 rfl (by decide) rfl ?_
          refine j_goto (pc := 204) 118 ok dX8_about_204 (by decide) ?_
          refine j_lv [2, 1, 0] rfl ?_
          exact ih _ _ h
        · refine jn_use (P := fun z16 => q_J D κ 5 0 0 [(a0, .inr (8, [.int (iI a0_refusal), .ref a0_text, .int (iI a0_textSize), .ref a0_now, .ref a0_trial, .ref a0_diary, .int (iI a0_acts), .ref a0_kept, .ref a0_isKept, .ref a0_clip, .ref a0_line, .int (iI a0_lineSize), .ref a0_read, .int (iI a0_readSize), .ref a0_opens, .ref a0_chains, .ref a0_factors, .ref a0_plains, .ref a0_belows, .ref a0_owned, .int (iI a0_deep), .ref a0_wides, .ref a0_highs, .ref a0_lows, .ref a0_itemWides, .ref a0_pile])), (a0_clip, .inl (cs.1, 184, .inl (aI a0_clipF))), (a0_now, .inl (cs.1, 184, .inl (aI a0_nowF)))] [(0, .ref a0), (3, .int (iI y3))] 198 [.int (iI y2)]) h (fun z16 h => ?_) (fun k12 hk12 h => ?_)
          · refine j_iconst (pc := 198) ok dX8_about_198 ?_
            exact hk13 0 h
          · refine j_if_eq (pc := 165) 198 ok dX8_about_165 (by decide) h (fun h => ?_) (fun h => ?_)
            · refine j_lv [1, 3] rfl ?_
              exact hk12 () h
            · refine j_aload_n (pc := 168) 1 ok dX8_about_168 rfl rfl ?_
              refine gf_X8_13_8 (pc := 169) 0 ok rfl dX8_about_169 ?_
              refine j_iload_n (pc := 172) 3 ok dX8_about_172 rfl rfl ?_
              refine j_iconst (pc := 173) ok dX8_about_173 ?_
              refine j_iadd (pc := 174) ok dX8_about_174 ?_
              refine j_iald (pc := 175) 2 ok rfl dX8_about_175 h (fun h => ?_)
              refine j_bipush (pc := 176) ok dX8_about_176 (by decide) ?_
              refine jn_use (P := fun z15 => q_J D κ 5 0 0 [(a0, .inr (8, [.int (iI a0_refusal), .ref a0_text, .int (iI a0_textSize), .ref a0_now, .ref a0_trial, .ref a0_diary, .int (iI a0_acts), .ref a0_kept, .ref a0_isKept, .ref a0_clip, .ref a0_line, .int (iI a0_lineSize), .ref a0_read, .int (iI a0_readSize), .ref a0_opens, .ref a0_chains, .ref a0_factors, .ref a0_plains, .ref a0_belows, .ref a0_owned, .int (iI a0_deep), .ref a0_wides, .ref a0_highs, .ref a0_lows, .ref a0_itemWides, .ref a0_pile])), (a0_clip, .inl (cs.1, 184, .inl (aI a0_clipF))), (a0_now, .inl (cs.1, 184, .inl (aI a0_nowF)))] [(0, .ref a0), (3, .int (iI y3))] 194 [.int (iI y2)]) h (fun z15 h => ?_) (fun k14 hk14 h => ?_)
              · refine j_iconst (pc := 194) ok dX8_about_194 ?_
                refine j_goto (pc := 195) 199 ok dX8_about_195 (by decide) ?_
                exact hk13 1 h
              · refine j_icmp_eq (pc := 178) 194 ok dX8_about_178 (by decide) h (fun h => ?_) (fun h => ?_)
                · refine j_lv [1, 3] rfl ?_
                  exact hk14 () h
                · refine j_aload_n (pc := 181) 1 ok dX8_about_181 rfl rfl ?_
                  refine gf_X8_13_8 (pc := 182) 0 ok rfl dX8_about_182 ?_
                  refine j_iload_n (pc := 185) 3 ok dX8_about_185 rfl rfl ?_
                  refine j_iconst (pc := 186) ok dX8_about_186 ?_
                  refine j_iadd (pc := 187) ok dX8_about_187 ?_
                  refine j_iald (pc := 188) 2 ok rfl dX8_about_188 h (fun h => ?_)
                  refine j_bipush (pc := 189) ok dX8_about_189 (by decide) ?_
                  refine j_icmp_ne (pc := 191) 198 ok dX8_about_191 (by decide) h (fun h => ?_) (fun h => ?_)
                  · refine j_lv [1, 3] rfl ?_
                    exact hk12 () h
                  · refine j_lv [1, 3] rfl ?_
                    exact hk14 () h
      · refine jn_use (P := fun z10 => q_J D κ 5 0 0 [(a0, .inr (8, [.int (iI a0_refusal), .ref a0_text, .int (iI a0_textSize), .ref a0_now, .ref a0_trial, .ref a0_diary, .int (iI a0_acts), .ref a0_kept, .ref a0_isKept, .ref a0_clip, .ref a0_line, .int (iI a0_lineSize), .ref a0_read, .int (iI a0_readSize), .ref a0_opens, .ref a0_chains, .ref a0_factors, .ref a0_plains, .ref a0_belows, .ref a0_owned, .int (iI a0_deep), .ref a0_wides, .ref a0_highs, .ref a0_lows, .ref a0_itemWides, .ref a0_pile])), (a0_clip, .inl (cs.1, 184, .inl (aI a0_clipF))), (a0_now, .inl (cs.1, 184, .inl (aI a0_nowF)))] [(0, .ref a0), (2, .int (iI y2)), (3, .int (iI y3))] 155 []) h (fun z10 h => ?_) (fun k8 hk8 h => ?_)
        · refine j_iconst (pc := 155) ok dX8_about_155 ?_
          refine j_goto (pc := 156) 160 ok dX8_about_156 (by decide) ?_
          exact hk9 1 h
        · refine j_if_ne (pc := 141) 155 ok dX8_about_141 (by decide) h (fun h => ?_) (fun h => ?_)
          · exact hk8 () h
          · refine j_aload_n (pc := 144) 0 ok dX8_about_144 rfl rfl ?_
            refine gf_X8_13_8 (pc := 145) 0 ok rfl dX8_about_145 ?_
            refine j_iload_n (pc := 148) 2 ok dX8_about_148 rfl rfl ?_
            refine j_iald (pc := 149) 2 ok rfl dX8_about_149 h (fun h => ?_)
            refine j_bipush (pc := 150) ok dX8_about_150 (by decide) ?_
            refine j_icmp_ne (pc := 152) 159 ok dX8_about_152 (by decide) h (fun h => ?_) (fun h => ?_)
            · refine j_iconst (pc := 159) ok dX8_about_159 ?_
              exact hk9 0 h
            · exact hk8 () h
def f_X8_about (a0_refusal : Int) (a0_clipF : (Nat → Int)) (a0_nowF : (Nat → Int)) (x1 : Int) : Option (Int × Int) := gR x1 (bd (f_X8_in x1 0 5) (fun r1 => jn (fun (z3 : Int) => bd (f_X8_refused a0_refusal z3) (fun r4 => cEq r4.1 0 (cEq x1 0 (gIn 180 184 (bd (f_X8_allIn 184 a0_nowF 0 (a0_nowF (180 : Int).toNat)) (fun r5 => some (r5, r4.2)))) (cEq x1 1 (gIn 180 184 (some ((a0_nowF (180 : Int).toNat) + 1, r4.2))) (cEq x1 2 (gIn 181 184 (some (a0_nowF (181 : Int).toNat, r4.2))) (cEq x1 3 (gIn 180 184 (bd (f_X8_deepest 184 a0_nowF 0 (a0_nowF (180 : Int).toNat)) (fun r6 => some (r6, r4.2)))) (cEq x1 4 (f_X8_about_118 a0_nowF (fun (z18 : Int × Int) => some (z18.1, r4.2)) fuel 0 0) (gIn 180 184 (bd (f_X8_allIn 184 a0_clipF 0 (a0_clipF (180 : Int).toNat)) (fun r19 => some (r19, r4.2))))))))) (some (0, r4.2)))) (fun k2 => cEq r1 0 (k2 1) (k2 0))))
set_option maxRecDepth 100000 in
set_option maxHeartbeats 4000000 in
theorem k_X8_about {D : va_G} {cs : q_CS} {a0 a0_text a0_now a0_trial a0_diary a0_kept a0_isKept a0_clip a0_line a0_read a0_opens a0_chains a0_factors a0_plains a0_belows a0_owned a0_wides a0_highs a0_lows a0_itemWides a0_pile : Nat} {a0_refusal a0_textSize a0_acts a0_lineSize a0_readSize a0_deep : Int} {a0_clipF a0_nowF : (Nat → Int)} {x1 : Int} {r : (Int × Int)} (h : f_X8_about a0_refusal a0_clipF a0_nowF x1 = some r) : q_M D cs yX8_about cX8_about 5 (some .int) 2 45 [.ref a0, .int (iI x1)] [(a0, .inr (8, [.int (iI a0_refusal), .ref a0_text, .int (iI a0_textSize), .ref a0_now, .ref a0_trial, .ref a0_diary, .int (iI a0_acts), .ref a0_kept, .ref a0_isKept, .ref a0_clip, .ref a0_line, .int (iI a0_lineSize), .ref a0_read, .int (iI a0_readSize), .ref a0_opens, .ref a0_chains, .ref a0_factors, .ref a0_plains, .ref a0_belows, .ref a0_owned, .int (iI a0_deep), .ref a0_wides, .ref a0_highs, .ref a0_lows, .ref a0_itemWides, .ref a0_pile])), (a0_clip, .inl (cs.1, 184, .inl (aI a0_clipF))), (a0_now, .inl (cs.1, 184, .inl (aI a0_nowF)))] (some (.int (iI r.1))) [(a0, .inr (8, [.int (iI r.2), .ref a0_text, .int (iI a0_textSize), .ref a0_now, .ref a0_trial, .ref a0_diary, .int (iI a0_acts), .ref a0_kept, .ref a0_isKept, .ref a0_clip, .ref a0_line, .int (iI a0_lineSize), .ref a0_read, .int (iI a0_readSize), .ref a0_opens, .ref a0_chains, .ref a0_factors, .ref a0_plains, .ref a0_belows, .ref a0_owned, .int (iI a0_deep), .ref a0_wides, .ref a0_highs, .ref a0_lows, .ref a0_itemWides, .ref a0_pile])), (a0_clip, .inl (cs.1, 184, .inl (aI a0_clipF))), (a0_now, .inl (cs.1, 184, .inl (aI a0_nowF)))] := by
  refine q_start_i [(0, .ref a0), (1, .int (iI x1))] RX8 rfl (by decide +kernel) rfl (Nat.le_of_ble_eq_true rfl) rfl (fun κ ok fin => ?_)
  unfold f_X8_about at h
  refine j_aload_n (pc := 0) 0 ok dX8_about_0 rfl rfl ?_
  refine j_iload_n (pc := 1) 1 ok dX8_about_1 rfl rfl ?_
  refine j_i2l (pc := 2) ok dX8_about_2 h (fun h => ?_)
  refine j_lconst (pc := 3) 0 ok dX8_about_3 (by decide) ?_
  refine j_ldc2 (pc := 4) 5 ok dX8_about_4 (q_in 1308 (by decide +kernel) (by decide +kernel)) ?_
  obtain ⟨r1, hr1, h⟩ := bd_inv h
  refine j_callS (pc := 7) ok (k_X8_in (x0 := x1) (x1 := 0) (x2 := 5) hr1) gS_X8_79 hd_X8_in [] (by decide) rfl rfl rfl rfl ⟨Nat.zero_le _, Nat.zero_le _⟩ (Nat.le_of_ble_eq_true rfl) dX8_about_7 rfl [(a0, .inr (8, [.int (iI a0_refusal), .ref a0_text, .int (iI a0_textSize), .ref a0_now, .ref a0_trial, .ref a0_diary, .int (iI a0_acts), .ref a0_kept, .ref a0_isKept, .ref a0_clip, .ref a0_line, .int (iI a0_lineSize), .ref a0_read, .int (iI a0_readSize), .ref a0_opens, .ref a0_chains, .ref a0_factors, .ref a0_plains, .ref a0_belows, .ref a0_owned, .int (iI a0_deep), .ref a0_wides, .ref a0_highs, .ref a0_lows, .ref a0_itemWides, .ref a0_pile])), (a0_clip, .inl (cs.1, 184, .inl (aI a0_clipF))), (a0_now, .inl (cs.1, 184, .inl (aI a0_nowF)))] rfl ?_
  refine jn_use (P := fun z3 => q_J D κ 5 0 0 [(a0, .inr (8, [.int (iI a0_refusal), .ref a0_text, .int (iI a0_textSize), .ref a0_now, .ref a0_trial, .ref a0_diary, .int (iI a0_acts), .ref a0_kept, .ref a0_isKept, .ref a0_clip, .ref a0_line, .int (iI a0_lineSize), .ref a0_read, .int (iI a0_readSize), .ref a0_opens, .ref a0_chains, .ref a0_factors, .ref a0_plains, .ref a0_belows, .ref a0_owned, .int (iI a0_deep), .ref a0_wides, .ref a0_highs, .ref a0_lows, .ref a0_itemWides, .ref a0_pile])), (a0_clip, .inl (cs.1, 184, .inl (aI a0_clipF))), (a0_now, .inl (cs.1, 184, .inl (aI a0_nowF)))] [(0, .ref a0), (1, .int (iI x1))] 18 [.int (iI z3), .ref a0]) h (fun z3 h => ?_) (fun k2 hk2 h => ?_)
  · obtain ⟨r4, hr4, h⟩ := bd_inv h
    refine j_callV (pc := 18) ok (k_X8_refused (a0 := a0) (a0_text := a0_text) (a0_now := a0_now) (a0_trial := a0_trial) (a0_diary := a0_diary) (a0_kept := a0_kept) (a0_isKept := a0_isKept) (a0_clip := a0_clip) (a0_line := a0_line) (a0_read := a0_read) (a0_opens := a0_opens) (a0_chains := a0_chains) (a0_factors := a0_factors) (a0_plains := a0_plains) (a0_belows := a0_belows) (a0_owned := a0_owned) (a0_wides := a0_wides) (a0_highs := a0_highs) (a0_lows := a0_lows) (a0_itemWides := a0_itemWides) (a0_pile := a0_pile) (a0_refusal := a0_refusal) (a0_textSize := a0_textSize) (a0_acts := a0_acts) (a0_lineSize := a0_lineSize) (a0_readSize := a0_readSize) (a0_deep := a0_deep) (x1 := z3) hr4) gV_X8_150 ⟨rfl, hd_X8_refused⟩ [0] (by decide) rfl rfl 0 rfl rfl rfl rfl ⟨Nat.zero_le _, Nat.zero_le _⟩ (Nat.le_of_ble_eq_true rfl) dX8_about_18 rfl [(a0, .inr (8, [.int (iI r4.2), .ref a0_text, .int (iI a0_textSize), .ref a0_now, .ref a0_trial, .ref a0_diary, .int (iI a0_acts), .ref a0_kept, .ref a0_isKept, .ref a0_clip, .ref a0_line, .int (iI a0_lineSize), .ref a0_read, .int (iI a0_readSize), .ref a0_opens, .ref a0_chains, .ref a0_factors, .ref a0_plains, .ref a0_belows, .ref a0_owned, .int (iI a0_deep), .ref a0_wides, .ref a0_highs, .ref a0_lows, .ref a0_itemWides, .ref a0_pile])), (a0_clip, .inl (cs.1, 184, .inl (aI a0_clipF))), (a0_now, .inl (cs.1, 184, .inl (aI a0_nowF)))] rfl ?_
    refine j_if_eq (pc := 21) 26 ok dX8_about_21 (by decide) h (fun h => ?_) (fun h => ?_)
    · refine j_iload_n (pc := 26) 1 ok dX8_about_26 rfl rfl ?_
      obtain ⟨hR, h1, h2⟩ := cEq_inv h
      by_cases e27_0 : x1 = 0
      · have h := h1 e27_0
        refine j_tabIn (pc := 27) 0 60 ok dX8_about_27 hR.1 e27_0 (by decide) rfl (by decide) ?_
        refine j_aload_n (pc := 60) 0 ok dX8_about_60 rfl rfl ?_
        refine gf_X8_13_8 (pc := 61) 0 ok rfl dX8_about_61 ?_
        refine j_iconst (pc := 64) ok dX8_about_64 ?_
        refine j_aload_n (pc := 65) 0 ok dX8_about_65 rfl rfl ?_
        refine gf_X8_13_8 (pc := 66) 0 ok rfl dX8_about_66 ?_
        refine j_sipush (pc := 69) ok dX8_about_69 (by decide) ?_
        refine j_iald (pc := 72) 2 ok rfl dX8_about_72 h (fun h => ?_)
        obtain ⟨r5, hr5, h⟩ := bd_inv h
        refine j_callS (pc := 73) ok (k_X8_allIn (a0 := a0_now) (a0N := 184) (a0F := a0_nowF) (x1 := 0) (x2 := a0_nowF (180 : Int).toNat) hr5) gS_X8_114 hd_X8_allIn [2] (by decide) rfl rfl rfl rfl ⟨Nat.zero_le _, Nat.zero_le _⟩ (Nat.le_of_ble_eq_true rfl) dX8_about_73 rfl [(a0, .inr (8, [.int (iI r4.2), .ref a0_text, .int (iI a0_textSize), .ref a0_now, .ref a0_trial, .ref a0_diary, .int (iI a0_acts), .ref a0_kept, .ref a0_isKept, .ref a0_clip, .ref a0_line, .int (iI a0_lineSize), .ref a0_read, .int (iI a0_readSize), .ref a0_opens, .ref a0_chains, .ref a0_factors, .ref a0_plains, .ref a0_belows, .ref a0_owned, .int (iI a0_deep), .ref a0_wides, .ref a0_highs, .ref a0_lows, .ref a0_itemWides, .ref a0_pile])), (a0_clip, .inl (cs.1, 184, .inl (aI a0_clipF))), (a0_now, .inl (cs.1, 184, .inl (aI a0_nowF)))] rfl ?_
        obtain rfl := Option.some.inj h
        exact fin _ 76 dX8_about_76
      · have h := h2 e27_0
        obtain ⟨hR, h1, h2⟩ := cEq_inv h
        by_cases e27_1 : x1 = 1
        · have h := h1 e27_1
          refine j_tabIn (pc := 27) 1 77 ok dX8_about_27 hR.1 e27_1 (by decide) rfl (by decide) ?_
          refine j_aload_n (pc := 77) 0 ok dX8_about_77 rfl rfl ?_
          refine gf_X8_13_8 (pc := 78) 0 ok rfl dX8_about_78 ?_
          refine j_sipush (pc := 81) ok dX8_about_81 (by decide) ?_
          refine j_iald (pc := 84) 2 ok rfl dX8_about_84 h (fun h => ?_)
          refine j_iconst (pc := 85) ok dX8_about_85 ?_
          refine j_iadd (pc := 86) ok dX8_about_86 ?_
          obtain rfl := Option.some.inj h
          exact fin _ 87 dX8_about_87
        · have h := h2 e27_1
          obtain ⟨hR, h1, h2⟩ := cEq_inv h
          by_cases e27_2 : x1 = 2
          · have h := h1 e27_2
            refine j_tabIn (pc := 27) 2 88 ok dX8_about_27 hR.1 e27_2 (by decide) rfl (by decide) ?_
            refine j_aload_n (pc := 88) 0 ok dX8_about_88 rfl rfl ?_
            refine gf_X8_13_8 (pc := 89) 0 ok rfl dX8_about_89 ?_
            refine j_sipush (pc := 92) ok dX8_about_92 (by decide) ?_
            refine j_iald (pc := 95) 2 ok rfl dX8_about_95 h (fun h => ?_)
            obtain rfl := Option.some.inj h
            exact fin _ 96 dX8_about_96
          · have h := h2 e27_2
            obtain ⟨hR, h1, h2⟩ := cEq_inv h
            by_cases e27_3 : x1 = 3
            · have h := h1 e27_3
              refine j_tabIn (pc := 27) 3 97 ok dX8_about_27 hR.1 e27_3 (by decide) rfl (by decide) ?_
              refine j_aload_n (pc := 97) 0 ok dX8_about_97 rfl rfl ?_
              refine gf_X8_13_8 (pc := 98) 0 ok rfl dX8_about_98 ?_
              refine j_iconst (pc := 101) ok dX8_about_101 ?_
              refine j_aload_n (pc := 102) 0 ok dX8_about_102 rfl rfl ?_
              refine gf_X8_13_8 (pc := 103) 0 ok rfl dX8_about_103 ?_
              refine j_sipush (pc := 106) ok dX8_about_106 (by decide) ?_
              refine j_iald (pc := 109) 2 ok rfl dX8_about_109 h (fun h => ?_)
              obtain ⟨r6, hr6, h⟩ := bd_inv h
              refine j_callS (pc := 110) ok (k_X8_deepest (a0 := a0_now) (a0N := 184) (a0F := a0_nowF) (x1 := 0) (x2 := a0_nowF (180 : Int).toNat) hr6) gS_X8_133 hd_X8_deepest [2] (by decide) rfl rfl rfl rfl ⟨Nat.zero_le _, Nat.zero_le _⟩ (Nat.le_of_ble_eq_true rfl) dX8_about_110 rfl [(a0, .inr (8, [.int (iI r4.2), .ref a0_text, .int (iI a0_textSize), .ref a0_now, .ref a0_trial, .ref a0_diary, .int (iI a0_acts), .ref a0_kept, .ref a0_isKept, .ref a0_clip, .ref a0_line, .int (iI a0_lineSize), .ref a0_read, .int (iI a0_readSize), .ref a0_opens, .ref a0_chains, .ref a0_factors, .ref a0_plains, .ref a0_belows, .ref a0_owned, .int (iI a0_deep), .ref a0_wides, .ref a0_highs, .ref a0_lows, .ref a0_itemWides, .ref a0_pile])), (a0_clip, .inl (cs.1, 184, .inl (aI a0_clipF))), (a0_now, .inl (cs.1, 184, .inl (aI a0_nowF)))] rfl ?_
              obtain rfl := Option.some.inj h
              exact fin _ 113 dX8_about_113
            · have h := h2 e27_3
              obtain ⟨hR, h1, h2⟩ := cEq_inv h
              by_cases e27_4 : x1 = 4
              · have h := h1 e27_4
                refine j_tabIn (pc := 27) 4 114 ok dX8_about_27 hR.1 e27_4 (by decide) rfl (by decide) ?_
                refine j_iconst (pc := 114) ok dX8_about_114 ?_
                refine j_istore_n (pc := 115) (lv' := [(2, .int (iI 0)), (0, .ref a0), (1, .int (iI x1))]) ok dX8_about_115 rfl (by decide) rfl ?_
                refine j_iconst (pc := 116) ok dX8_about_116 ?_
                refine j_istore_n (pc := 117) (lv' := [(3, .int (iI 0)), (2, .int (iI 0)), (0, .ref a0), (1, .int (iI x1))]) ok dX8_about_117 rfl (by decide) rfl ?_
                refine j_lv [2, 1, 0] rfl ?_
                refine l_X8_about_118 ok fin (fun z18 h => ?_) fuel _ _ h
                · refine j_iload_n (pc := 207) 0 ok dX8_about_207 rfl rfl ?_
                  obtain rfl := Option.some.inj h
                  exact fin _ 208 dX8_about_208
              · have h := h2 e27_4
                refine j_tabOut (pc := 27) 209 ok dX8_about_27 hR.1 (by omega) (by decide) ?_
                refine j_aload_n (pc := 209) 0 ok dX8_about_209 rfl rfl ?_
                refine gf_X8_29_8 (pc := 210) 0 ok rfl dX8_about_210 ?_
                refine j_iconst (pc := 213) ok dX8_about_213 ?_
                refine j_aload_n (pc := 214) 0 ok dX8_about_214 rfl rfl ?_
                refine gf_X8_29_8 (pc := 215) 0 ok rfl dX8_about_215 ?_
                refine j_sipush (pc := 218) ok dX8_about_218 (by decide) ?_
                refine j_iald (pc := 221) 1 ok rfl dX8_about_221 h (fun h => ?_)
                obtain ⟨r19, hr19, h⟩ := bd_inv h
                refine j_callS (pc := 222) ok (k_X8_allIn (a0 := a0_clip) (a0N := 184) (a0F := a0_clipF) (x1 := 0) (x2 := a0_clipF (180 : Int).toNat) hr19) gS_X8_114 hd_X8_allIn [1] (by decide) rfl rfl rfl rfl ⟨Nat.zero_le _, Nat.zero_le _⟩ (Nat.le_of_ble_eq_true rfl) dX8_about_222 rfl [(a0, .inr (8, [.int (iI r4.2), .ref a0_text, .int (iI a0_textSize), .ref a0_now, .ref a0_trial, .ref a0_diary, .int (iI a0_acts), .ref a0_kept, .ref a0_isKept, .ref a0_clip, .ref a0_line, .int (iI a0_lineSize), .ref a0_read, .int (iI a0_readSize), .ref a0_opens, .ref a0_chains, .ref a0_factors, .ref a0_plains, .ref a0_belows, .ref a0_owned, .int (iI a0_deep), .ref a0_wides, .ref a0_highs, .ref a0_lows, .ref a0_itemWides, .ref a0_pile])), (a0_clip, .inl (cs.1, 184, .inl (aI a0_clipF))), (a0_now, .inl (cs.1, 184, .inl (aI a0_nowF)))] rfl ?_
                obtain rfl := Option.some.inj h
                exact fin _ 225 dX8_about_225
    · refine j_iconst (pc := 24) ok dX8_about_24 ?_
      obtain rfl := Option.some.inj h
      exact fin _ 25 dX8_about_25
  · refine j_if_eq (pc := 10) 17 ok dX8_about_10 (by decide) h (fun h => ?_) (fun h => ?_)
    · refine j_iconst (pc := 17) ok dX8_about_17 ?_
      exact hk2 1 h
    · refine j_iconst (pc := 13) ok dX8_about_13 ?_
      refine j_goto (pc := 14) 18 ok dX8_about_14 (by decide) ?_
      exact hk2 0 h
def f_X8_isPlace (a0_nowF : (Nat → Int)) (x1 : Int) : Option (Int) := gR x1 (gIn 180 184 (gR (a0_nowF (180 : Int).toNat) (bd (f_X8_in x1 0 (a0_nowF (180 : Int).toNat)) (fun r1 => gB r1 (some r1)))))
set_option maxRecDepth 100000 in
set_option maxHeartbeats 4000000 in
theorem k_X8_isPlace {D : va_G} {cs : q_CS} {a0 a0_text a0_now a0_trial a0_diary a0_kept a0_isKept a0_clip a0_line a0_read a0_opens a0_chains a0_factors a0_plains a0_belows a0_owned a0_wides a0_highs a0_lows a0_itemWides a0_pile : Nat} {a0_refusal a0_textSize a0_acts a0_lineSize a0_readSize a0_deep : Int} {a0_nowF : (Nat → Int)} {x1 : Int} {r : (Int)} (h : f_X8_isPlace a0_nowF x1 = some r) : q_M D cs yX8_isPlace cX8_isPlace 2 (some .boolean) 1 25 [.ref a0, .int (iI x1)] [(a0, .inr (8, [.int (iI a0_refusal), .ref a0_text, .int (iI a0_textSize), .ref a0_now, .ref a0_trial, .ref a0_diary, .int (iI a0_acts), .ref a0_kept, .ref a0_isKept, .ref a0_clip, .ref a0_line, .int (iI a0_lineSize), .ref a0_read, .int (iI a0_readSize), .ref a0_opens, .ref a0_chains, .ref a0_factors, .ref a0_plains, .ref a0_belows, .ref a0_owned, .int (iI a0_deep), .ref a0_wides, .ref a0_highs, .ref a0_lows, .ref a0_itemWides, .ref a0_pile])), (a0_now, .inl (cs.1, 184, .inl (aI a0_nowF)))] (some (.int (iI r))) [(a0, .inr (8, [.int (iI a0_refusal), .ref a0_text, .int (iI a0_textSize), .ref a0_now, .ref a0_trial, .ref a0_diary, .int (iI a0_acts), .ref a0_kept, .ref a0_isKept, .ref a0_clip, .ref a0_line, .int (iI a0_lineSize), .ref a0_read, .int (iI a0_readSize), .ref a0_opens, .ref a0_chains, .ref a0_factors, .ref a0_plains, .ref a0_belows, .ref a0_owned, .int (iI a0_deep), .ref a0_wides, .ref a0_highs, .ref a0_lows, .ref a0_itemWides, .ref a0_pile])), (a0_now, .inl (cs.1, 184, .inl (aI a0_nowF)))] := by
  refine q_start_z [(0, .ref a0), (1, .int (iI x1))] RX8 rfl (by decide +kernel) rfl (Nat.le_of_ble_eq_true rfl) (fun κ ok fin => ?_)
  unfold f_X8_isPlace at h
  refine j_iload_n (pc := 0) 1 ok dX8_isPlace_0 rfl rfl ?_
  refine j_i2l (pc := 1) ok dX8_isPlace_1 h (fun h => ?_)
  refine j_lconst (pc := 2) 0 ok dX8_isPlace_2 (by decide) ?_
  refine j_aload_n (pc := 3) 0 ok dX8_isPlace_3 rfl rfl ?_
  refine gf_X8_13_8 (pc := 4) 0 ok rfl dX8_isPlace_4 ?_
  refine j_sipush (pc := 7) ok dX8_isPlace_7 (by decide) ?_
  refine j_iald (pc := 10) 1 ok rfl dX8_isPlace_10 h (fun h => ?_)
  refine j_i2l (pc := 11) ok dX8_isPlace_11 h (fun h => ?_)
  obtain ⟨r1, hr1, h⟩ := bd_inv h
  refine j_callS (pc := 12) ok (k_X8_in (x0 := x1) (x1 := 0) (x2 := a0_nowF (180 : Int).toNat) hr1) gS_X8_79 hd_X8_in [] (by decide) rfl rfl rfl rfl ⟨Nat.zero_le _, Nat.zero_le _⟩ (Nat.le_of_ble_eq_true rfl) dX8_isPlace_12 rfl [(a0, .inr (8, [.int (iI a0_refusal), .ref a0_text, .int (iI a0_textSize), .ref a0_now, .ref a0_trial, .ref a0_diary, .int (iI a0_acts), .ref a0_kept, .ref a0_isKept, .ref a0_clip, .ref a0_line, .int (iI a0_lineSize), .ref a0_read, .int (iI a0_readSize), .ref a0_opens, .ref a0_chains, .ref a0_factors, .ref a0_plains, .ref a0_belows, .ref a0_owned, .int (iI a0_deep), .ref a0_wides, .ref a0_highs, .ref a0_lows, .ref a0_itemWides, .ref a0_pile])), (a0_now, .inl (cs.1, 184, .inl (aI a0_nowF)))] rfl ?_
  obtain ⟨hbo, h⟩ := gB_inv h
  obtain rfl := Option.some.inj h
  exact fin _ 15 hbo dX8_isPlace_15
def f_X8_place (a0_refusal : Int) (a0_nowF : (Nat → Int)) (x1 : Int) (x2 : Int) : Option (Int × Int) := bd (f_X8_isPlace a0_nowF x1) (fun r1 => jn (fun (z4 : Int) => bd (f_X8_refused a0_refusal z4) (fun r5 => cEq r5.1 0 (bd (f_X8_rowStart 184 a0_nowF x1) (fun r6 => bd (f_X8_rowEnd 184 a0_nowF x1) (fun r7 => jn (fun (z11 : Int) => cEq x2 0 (bd (f_X8_levelAt 184 a0_nowF x1) (fun r12 => some (r12, r5.2))) (cEq x2 1 (bd (f_X8_itemsIn 184 a0_nowF r6 x1) (fun r13 => some (r13, r5.2))) (cEq x2 2 (bd (f_X8_itemsIn 184 a0_nowF r6 r7) (fun r14 => some (r14, r5.2))) (cEq x2 3 (jn (fun (z16 : Int) => some (z16, r5.2)) (fun k15 => cEq r6 0 (k15 0) (cEq z11 0 (gIn (r6 - 1) 184 (k15 (-(a0_nowF (r6 - 1).toNat)))) (k15 1)))) (cEq x2 4 (jn (fun (z18 : Int) => some (z18, r5.2)) (fun k17 => cEq z11 0 (k17 0) (k17 1))) (jn (fun (z20 : Int) => some (z20, r5.2)) (fun k19 => cEq x1 r7 (k19 (-9)) (gIn x1 184 (cLt 0 (a0_nowF x1.toNat) (gIn x1 184 (k19 (a0_nowF x1.toNat))) (gIn x1 184 (k19 (-(a0_nowF x1.toNat))))))))))))) (fun k9 => jn (fun (z10 : Unit) => k9 0) (fun k8 => cLt 0 r6 (gIn (r6 - 1) 184 (cEq (a0_nowF (r6 - 1).toNat) ((-10)) (k9 1) (k8 ()))) (k8 ())))))) (some (0, r5.2)))) (fun k2 => cEq r1 0 (k2 1) (gR x2 (bd (f_X8_in x2 0 5) (fun r3 => cEq r3 0 (k2 2) (k2 0))))))
set_option maxRecDepth 100000 in
set_option maxHeartbeats 4000000 in
theorem k_X8_place {D : va_G} {cs : q_CS} {a0 a0_text a0_now a0_trial a0_diary a0_kept a0_isKept a0_clip a0_line a0_read a0_opens a0_chains a0_factors a0_plains a0_belows a0_owned a0_wides a0_highs a0_lows a0_itemWides a0_pile : Nat} {a0_refusal a0_textSize a0_acts a0_lineSize a0_readSize a0_deep : Int} {a0_nowF : (Nat → Int)} {x1 x2 : Int} {r : (Int × Int)} (h : f_X8_place a0_refusal a0_nowF x1 x2 = some r) : q_M D cs yX8_place cX8_place 6 (some .int) 4 88 [.ref a0, .int (iI x1), .int (iI x2)] [(a0, .inr (8, [.int (iI a0_refusal), .ref a0_text, .int (iI a0_textSize), .ref a0_now, .ref a0_trial, .ref a0_diary, .int (iI a0_acts), .ref a0_kept, .ref a0_isKept, .ref a0_clip, .ref a0_line, .int (iI a0_lineSize), .ref a0_read, .int (iI a0_readSize), .ref a0_opens, .ref a0_chains, .ref a0_factors, .ref a0_plains, .ref a0_belows, .ref a0_owned, .int (iI a0_deep), .ref a0_wides, .ref a0_highs, .ref a0_lows, .ref a0_itemWides, .ref a0_pile])), (a0_now, .inl (cs.1, 184, .inl (aI a0_nowF)))] (some (.int (iI r.1))) [(a0, .inr (8, [.int (iI r.2), .ref a0_text, .int (iI a0_textSize), .ref a0_now, .ref a0_trial, .ref a0_diary, .int (iI a0_acts), .ref a0_kept, .ref a0_isKept, .ref a0_clip, .ref a0_line, .int (iI a0_lineSize), .ref a0_read, .int (iI a0_readSize), .ref a0_opens, .ref a0_chains, .ref a0_factors, .ref a0_plains, .ref a0_belows, .ref a0_owned, .int (iI a0_deep), .ref a0_wides, .ref a0_highs, .ref a0_lows, .ref a0_itemWides, .ref a0_pile])), (a0_now, .inl (cs.1, 184, .inl (aI a0_nowF)))] := by
  refine q_start_i [(0, .ref a0), (1, .int (iI x1)), (2, .int (iI x2))] RX8 rfl (by decide +kernel) rfl (Nat.le_of_ble_eq_true rfl) rfl (fun κ ok fin => ?_)
  unfold f_X8_place at h
  refine j_aload_n (pc := 0) 0 ok dX8_place_0 rfl rfl ?_
  refine j_aload_n (pc := 1) 0 ok dX8_place_1 rfl rfl ?_
  refine j_iload_n (pc := 2) 1 ok dX8_place_2 rfl rfl ?_
  obtain ⟨r1, hr1, h⟩ := bd_inv h
  refine j_callV (pc := 3) ok (k_X8_isPlace (a0 := a0) (a0_text := a0_text) (a0_now := a0_now) (a0_trial := a0_trial) (a0_diary := a0_diary) (a0_kept := a0_kept) (a0_isKept := a0_isKept) (a0_clip := a0_clip) (a0_line := a0_line) (a0_read := a0_read) (a0_opens := a0_opens) (a0_chains := a0_chains) (a0_factors := a0_factors) (a0_plains := a0_plains) (a0_belows := a0_belows) (a0_owned := a0_owned) (a0_wides := a0_wides) (a0_highs := a0_highs) (a0_lows := a0_lows) (a0_itemWides := a0_itemWides) (a0_pile := a0_pile) (a0_refusal := a0_refusal) (a0_textSize := a0_textSize) (a0_acts := a0_acts) (a0_lineSize := a0_lineSize) (a0_readSize := a0_readSize) (a0_deep := a0_deep) (a0_nowF := a0_nowF) (x1 := x1) hr1) gV_X8_185 ⟨rfl, hd_X8_isPlace⟩ [0, 1] (by decide) rfl rfl 0 rfl rfl rfl rfl ⟨Nat.zero_le _, Nat.zero_le _⟩ (Nat.le_of_ble_eq_true rfl) dX8_place_3 rfl [(a0, .inr (8, [.int (iI a0_refusal), .ref a0_text, .int (iI a0_textSize), .ref a0_now, .ref a0_trial, .ref a0_diary, .int (iI a0_acts), .ref a0_kept, .ref a0_isKept, .ref a0_clip, .ref a0_line, .int (iI a0_lineSize), .ref a0_read, .int (iI a0_readSize), .ref a0_opens, .ref a0_chains, .ref a0_factors, .ref a0_plains, .ref a0_belows, .ref a0_owned, .int (iI a0_deep), .ref a0_wides, .ref a0_highs, .ref a0_lows, .ref a0_itemWides, .ref a0_pile])), (a0_now, .inl (cs.1, 184, .inl (aI a0_nowF)))] rfl ?_
  refine jn_use (P := fun z4 => q_J D κ 6 0 0 [(a0, .inr (8, [.int (iI a0_refusal), .ref a0_text, .int (iI a0_textSize), .ref a0_now, .ref a0_trial, .ref a0_diary, .int (iI a0_acts), .ref a0_kept, .ref a0_isKept, .ref a0_clip, .ref a0_line, .int (iI a0_lineSize), .ref a0_read, .int (iI a0_readSize), .ref a0_opens, .ref a0_chains, .ref a0_factors, .ref a0_plains, .ref a0_belows, .ref a0_owned, .int (iI a0_deep), .ref a0_wides, .ref a0_highs, .ref a0_lows, .ref a0_itemWides, .ref a0_pile])), (a0_now, .inl (cs.1, 184, .inl (aI a0_nowF)))] [(0, .ref a0), (1, .int (iI x1)), (2, .int (iI x2))] 30 [.int (iI z4), .ref a0]) h (fun z4 h => ?_) (fun k2 hk2 h => ?_)
  · obtain ⟨r5, hr5, h⟩ := bd_inv h
    refine j_callV (pc := 30) ok (k_X8_refused (a0 := a0) (a0_text := a0_text) (a0_now := a0_now) (a0_trial := a0_trial) (a0_diary := a0_diary) (a0_kept := a0_kept) (a0_isKept := a0_isKept) (a0_clip := a0_clip) (a0_line := a0_line) (a0_read := a0_read) (a0_opens := a0_opens) (a0_chains := a0_chains) (a0_factors := a0_factors) (a0_plains := a0_plains) (a0_belows := a0_belows) (a0_owned := a0_owned) (a0_wides := a0_wides) (a0_highs := a0_highs) (a0_lows := a0_lows) (a0_itemWides := a0_itemWides) (a0_pile := a0_pile) (a0_refusal := a0_refusal) (a0_textSize := a0_textSize) (a0_acts := a0_acts) (a0_lineSize := a0_lineSize) (a0_readSize := a0_readSize) (a0_deep := a0_deep) (x1 := z4) hr5) gV_X8_150 ⟨rfl, hd_X8_refused⟩ [0] (by decide) rfl rfl 0 rfl rfl rfl rfl ⟨Nat.zero_le _, Nat.zero_le _⟩ (Nat.le_of_ble_eq_true rfl) dX8_place_30 rfl [(a0, .inr (8, [.int (iI r5.2), .ref a0_text, .int (iI a0_textSize), .ref a0_now, .ref a0_trial, .ref a0_diary, .int (iI a0_acts), .ref a0_kept, .ref a0_isKept, .ref a0_clip, .ref a0_line, .int (iI a0_lineSize), .ref a0_read, .int (iI a0_readSize), .ref a0_opens, .ref a0_chains, .ref a0_factors, .ref a0_plains, .ref a0_belows, .ref a0_owned, .int (iI a0_deep), .ref a0_wides, .ref a0_highs, .ref a0_lows, .ref a0_itemWides, .ref a0_pile])), (a0_now, .inl (cs.1, 184, .inl (aI a0_nowF)))] rfl ?_
    refine j_if_eq (pc := 33) 38 ok dX8_place_33 (by decide) h (fun h => ?_) (fun h => ?_)
    · refine j_aload_n (pc := 38) 0 ok dX8_place_38 rfl rfl ?_
      refine gf_X8_13_8 (pc := 39) 0 ok rfl dX8_place_39 ?_
      refine j_iload_n (pc := 42) 1 ok dX8_place_42 rfl rfl ?_
      obtain ⟨r6, hr6, h⟩ := bd_inv h
      refine j_callS (pc := 43) ok (k_X8_rowStart (a0 := a0_now) (a0N := 184) (a0F := a0_nowF) (x1 := x1) hr6) gS_X8_136 hd_X8_rowStart [1] (by decide) rfl rfl rfl rfl ⟨Nat.zero_le _, Nat.zero_le _⟩ (Nat.le_of_ble_eq_true rfl) dX8_place_43 rfl [(a0, .inr (8, [.int (iI r5.2), .ref a0_text, .int (iI a0_textSize), .ref a0_now, .ref a0_trial, .ref a0_diary, .int (iI a0_acts), .ref a0_kept, .ref a0_isKept, .ref a0_clip, .ref a0_line, .int (iI a0_lineSize), .ref a0_read, .int (iI a0_readSize), .ref a0_opens, .ref a0_chains, .ref a0_factors, .ref a0_plains, .ref a0_belows, .ref a0_owned, .int (iI a0_deep), .ref a0_wides, .ref a0_highs, .ref a0_lows, .ref a0_itemWides, .ref a0_pile])), (a0_now, .inl (cs.1, 184, .inl (aI a0_nowF)))] rfl ?_
      refine j_istore_n (pc := 46) (lv' := [(3, .int (iI r6)), (0, .ref a0), (1, .int (iI x1)), (2, .int (iI x2))]) ok dX8_place_46 rfl (by decide) rfl ?_
      refine j_aload_n (pc := 47) 1 ok dX8_place_47 rfl rfl ?_
      refine gf_X8_13_8 (pc := 48) 0 ok rfl dX8_place_48 ?_
      refine j_iload_n (pc := 51) 2 ok dX8_place_51 rfl rfl ?_
      obtain ⟨r7, hr7, h⟩ := bd_inv h
      refine j_callS (pc := 52) ok (k_X8_rowEnd (a0 := a0_now) (a0N := 184) (a0F := a0_nowF) (x1 := x1) hr7) gS_X8_142 hd_X8_rowEnd [1] (by decide) rfl rfl rfl rfl ⟨Nat.zero_le _, Nat.zero_le _⟩ (Nat.le_of_ble_eq_true rfl) dX8_place_52 rfl [(a0, .inr (8, [.int (iI r5.2), .ref a0_text, .int (iI a0_textSize), .ref a0_now, .ref a0_trial, .ref a0_diary, .int (iI a0_acts), .ref a0_kept, .ref a0_isKept, .ref a0_clip, .ref a0_line, .int (iI a0_lineSize), .ref a0_read, .int (iI a0_readSize), .ref a0_opens, .ref a0_chains, .ref a0_factors, .ref a0_plains, .ref a0_belows, .ref a0_owned, .int (iI a0_deep), .ref a0_wides, .ref a0_highs, .ref a0_lows, .ref a0_itemWides, .ref a0_pile])), (a0_now, .inl (cs.1, 184, .inl (aI a0_nowF)))] rfl ?_
      refine j_istore (pc := 55) (lv' := [(4, .int (iI r7)), (3, .int (iI r6)), (0, .ref a0), (1, .int (iI x1)), (2, .int (iI x2))]) ok dX8_place_55 (by decide) rfl ?_
      refine j_iload_n (pc := 57) 1 ok dX8_place_57 rfl rfl ?_
      refine jn_use (P := fun z11 => q_J D κ 6 0 0 [(a0, .inr (8, [.int (iI r5.2), .ref a0_text, .int (iI a0_textSize), .ref a0_now, .ref a0_trial, .ref a0_diary, .int (iI a0_acts), .ref a0_kept, .ref a0_isKept, .ref a0_clip, .ref a0_line, .int (iI a0_lineSize), .ref a0_read, .int (iI a0_readSize), .ref a0_opens, .ref a0_chains, .ref a0_factors, .ref a0_plains, .ref a0_belows, .ref a0_owned, .int (iI a0_deep), .ref a0_wides, .ref a0_highs, .ref a0_lows, .ref a0_itemWides, .ref a0_pile])), (a0_now, .inl (cs.1, 184, .inl (aI a0_nowF)))] [(0, .ref a0), (1, .int (iI x1)), (2, .int (iI x2)), (3, .int (iI r6)), (4, .int (iI r7))] 79 [.int (iI z11)]) h (fun z11 h => ?_) (fun k9 hk9 h => ?_)
      · refine j_istore (pc := 79) (lv' := [(5, .int (iI z11)), (0, .ref a0), (1, .int (iI x1)), (2, .int (iI x2)), (3, .int (iI r6)), (4, .int (iI r7))]) ok dX8_place_79 (by decide) rfl ?_
        refine j_iload_n (pc := 81) 3 ok dX8_place_81 rfl rfl ?_
        obtain ⟨hR, h1, h2⟩ := cEq_inv h
        by_cases e82_0 : x2 = 0
        · have h := h1 e82_0
          refine j_tabIn (pc := 82) 0 116 ok dX8_place_82 hR.1 e82_0 (by decide) rfl (by decide) ?_
          refine j_aload_n (pc := 116) 1 ok dX8_place_116 rfl rfl ?_
          refine gf_X8_13_8 (pc := 117) 0 ok rfl dX8_place_117 ?_
          refine j_iload_n (pc := 120) 2 ok dX8_place_120 rfl rfl ?_
          obtain ⟨r12, hr12, h⟩ := bd_inv h
          refine j_callS (pc := 121) ok (k_X8_levelAt (a0 := a0_now) (a0N := 184) (a0F := a0_nowF) (x1 := x1) hr12) gS_X8_130 hd_X8_levelAt [1] (by decide) rfl rfl rfl rfl ⟨Nat.zero_le _, Nat.zero_le _⟩ (Nat.le_of_ble_eq_true rfl) dX8_place_121 rfl [(a0, .inr (8, [.int (iI r5.2), .ref a0_text, .int (iI a0_textSize), .ref a0_now, .ref a0_trial, .ref a0_diary, .int (iI a0_acts), .ref a0_kept, .ref a0_isKept, .ref a0_clip, .ref a0_line, .int (iI a0_lineSize), .ref a0_read, .int (iI a0_readSize), .ref a0_opens, .ref a0_chains, .ref a0_factors, .ref a0_plains, .ref a0_belows, .ref a0_owned, .int (iI a0_deep), .ref a0_wides, .ref a0_highs, .ref a0_lows, .ref a0_itemWides, .ref a0_pile])), (a0_now, .inl (cs.1, 184, .inl (aI a0_nowF)))] rfl ?_
          obtain rfl := Option.some.inj h
          exact fin _ 124 dX8_place_124
        · have h := h2 e82_0
          obtain ⟨hR, h1, h2⟩ := cEq_inv h
          by_cases e82_1 : x2 = 1
          · have h := h1 e82_1
            refine j_tabIn (pc := 82) 1 125 ok dX8_place_82 hR.1 e82_1 (by decide) rfl (by decide) ?_
            refine j_aload_n (pc := 125) 1 ok dX8_place_125 rfl rfl ?_
            refine gf_X8_13_8 (pc := 126) 0 ok rfl dX8_place_126 ?_
            refine j_iload_n (pc := 129) 4 ok dX8_place_129 rfl rfl ?_
            refine j_iload_n (pc := 130) 2 ok dX8_place_130 rfl rfl ?_
            obtain ⟨r13, hr13, h⟩ := bd_inv h
            refine j_callS (pc := 131) ok (k_X8_itemsIn (a0 := a0_now) (a0N := 184) (a0F := a0_nowF) (x1 := r6) (x2 := x1) hr13) gS_X8_188 hd_X8_itemsIn [1] (by decide) rfl rfl rfl rfl ⟨Nat.zero_le _, Nat.zero_le _⟩ (Nat.le_of_ble_eq_true rfl) dX8_place_131 rfl [(a0, .inr (8, [.int (iI r5.2), .ref a0_text, .int (iI a0_textSize), .ref a0_now, .ref a0_trial, .ref a0_diary, .int (iI a0_acts), .ref a0_kept, .ref a0_isKept, .ref a0_clip, .ref a0_line, .int (iI a0_lineSize), .ref a0_read, .int (iI a0_readSize), .ref a0_opens, .ref a0_chains, .ref a0_factors, .ref a0_plains, .ref a0_belows, .ref a0_owned, .int (iI a0_deep), .ref a0_wides, .ref a0_highs, .ref a0_lows, .ref a0_itemWides, .ref a0_pile])), (a0_now, .inl (cs.1, 184, .inl (aI a0_nowF)))] rfl ?_
            obtain rfl := Option.some.inj h
            exact fin _ 134 dX8_place_134
          · have h := h2 e82_1
            obtain ⟨hR, h1, h2⟩ := cEq_inv h
            by_cases e82_2 : x2 = 2
            · have h := h1 e82_2
              refine j_tabIn (pc := 82) 2 135 ok dX8_place_82 hR.1 e82_2 (by decide) rfl (by decide) ?_
              refine j_aload_n (pc := 135) 1 ok dX8_place_135 rfl rfl ?_
              refine gf_X8_13_8 (pc := 136) 0 ok rfl dX8_place_136 ?_
              refine j_iload_n (pc := 139) 4 ok dX8_place_139 rfl rfl ?_
              refine j_iload (pc := 140) 5 ok dX8_place_140 rfl ?_
              obtain ⟨r14, hr14, h⟩ := bd_inv h
              refine j_callS (pc := 142) ok (k_X8_itemsIn (a0 := a0_now) (a0N := 184) (a0F := a0_nowF) (x1 := r6) (x2 := r7) hr14) gS_X8_188 hd_X8_itemsIn [1] (by decide) rfl rfl rfl rfl ⟨Nat.zero_le _, Nat.zero_le _⟩ (Nat.le_of_ble_eq_true rfl) dX8_place_142 rfl [(a0, .inr (8, [.int (iI r5.2), .ref a0_text, .int (iI a0_textSize), .ref a0_now, .ref a0_trial, .ref a0_diary, .int (iI a0_acts), .ref a0_kept, .ref a0_isKept, .ref a0_clip, .ref a0_line, .int (iI a0_lineSize), .ref a0_read, .int (iI a0_readSize), .ref a0_opens, .ref a0_chains, .ref a0_factors, .ref a0_plains, .ref a0_belows, .ref a0_owned, .int (iI a0_deep), .ref a0_wides, .ref a0_highs, .ref a0_lows, .ref a0_itemWides, .ref a0_pile])), (a0_now, .inl (cs.1, 184, .inl (aI a0_nowF)))] rfl ?_
              obtain rfl := Option.some.inj h
              exact fin _ 145 dX8_place_145
            · have h := h2 e82_2
              obtain ⟨hR, h1, h2⟩ := cEq_inv h
              by_cases e82_3 : x2 = 3
              · have h := h1 e82_3
                refine j_tabIn (pc := 82) 3 146 ok dX8_place_82 hR.1 e82_3 (by decide) rfl (by decide) ?_
                refine j_iload_n (pc := 146) 4 ok dX8_place_146 rfl rfl ?_
                refine jn_use (P := fun z16 => q_J D κ 6 0 0 [(a0, .inr (8, [.int (iI r5.2), .ref a0_text, .int (iI a0_textSize), .ref a0_now, .ref a0_trial, .ref a0_diary, .int (iI a0_acts), .ref a0_kept, .ref a0_isKept, .ref a0_clip, .ref a0_line, .int (iI a0_lineSize), .ref a0_read, .int (iI a0_readSize), .ref a0_opens, .ref a0_chains, .ref a0_factors, .ref a0_plains, .ref a0_belows, .ref a0_owned, .int (iI a0_deep), .ref a0_wides, .ref a0_highs, .ref a0_lows, .ref a0_itemWides, .ref a0_pile])), (a0_now, .inl (cs.1, 184, .inl (aI a0_nowF)))] [] 172 [.int (iI z16)]) h (fun z16 h => ?_) (fun k15 hk15 h => ?_)
                · obtain rfl := Option.some.inj h
                  exact fin _ 172 dX8_place_172
                · refine j_if_ne (pc := 147) 154 ok dX8_place_147 (by decide) h (fun h => ?_) (fun h => ?_)
                  · refine j_iload (pc := 154) 0 ok dX8_place_154 rfl ?_
                    refine j_if_eq (pc := 156) 163 ok dX8_place_156 (by decide) h (fun h => ?_) (fun h => ?_)
                    · refine j_aload_n (pc := 163) 1 ok dX8_place_163 rfl rfl ?_
                      refine gf_X8_13_8 (pc := 164) 0 ok rfl dX8_place_164 ?_
                      refine j_iload_n (pc := 167) 4 ok dX8_place_167 rfl rfl ?_
                      refine j_iconst (pc := 168) ok dX8_place_168 ?_
                      refine j_isub (pc := 169) ok dX8_place_169 ?_
                      refine j_iald (pc := 170) 1 ok rfl dX8_place_170 h (fun h => ?_)
                      refine j_ineg (pc := 171) ok dX8_place_171 ?_
                      refine j_lv [] rfl ?_
                      exact hk15 (-(a0_nowF (r6 - 1).toNat)) h
                    · refine j_iconst (pc := 159) ok dX8_place_159 ?_
                      refine j_goto (pc := 160) 172 ok dX8_place_160 (by decide) ?_
                      refine j_lv [] rfl ?_
                      exact hk15 1 h
                  · refine j_iconst (pc := 150) ok dX8_place_150 ?_
                    refine j_goto (pc := 151) 172 ok dX8_place_151 (by decide) ?_
                    refine j_lv [] rfl ?_
                    exact hk15 0 h
              · have h := h2 e82_3
                obtain ⟨hR, h1, h2⟩ := cEq_inv h
                by_cases e82_4 : x2 = 4
                · have h := h1 e82_4
                  refine j_tabIn (pc := 82) 4 173 ok dX8_place_82 hR.1 e82_4 (by decide) rfl (by decide) ?_
                  refine j_iload (pc := 173) 0 ok dX8_place_173 rfl ?_
                  refine jn_use (P := fun z18 => q_J D κ 6 0 0 [(a0, .inr (8, [.int (iI r5.2), .ref a0_text, .int (iI a0_textSize), .ref a0_now, .ref a0_trial, .ref a0_diary, .int (iI a0_acts), .ref a0_kept, .ref a0_isKept, .ref a0_clip, .ref a0_line, .int (iI a0_lineSize), .ref a0_read, .int (iI a0_readSize), .ref a0_opens, .ref a0_chains, .ref a0_factors, .ref a0_plains, .ref a0_belows, .ref a0_owned, .int (iI a0_deep), .ref a0_wides, .ref a0_highs, .ref a0_lows, .ref a0_itemWides, .ref a0_pile])), (a0_now, .inl (cs.1, 184, .inl (aI a0_nowF)))] [] 183 [.int (iI z18)]) h (fun z18 h => ?_) (fun k17 hk17 h => ?_)
                  · obtain rfl := Option.some.inj h
                    exact fin _ 183 dX8_place_183
                  · refine j_if_eq (pc := 175) 182 ok dX8_place_175 (by decide) h (fun h => ?_) (fun h => ?_)
                    · refine j_iconst (pc := 182) ok dX8_place_182 ?_
                      refine j_lv [] rfl ?_
                      exact hk17 0 h
                    · refine j_iconst (pc := 178) ok dX8_place_178 ?_
                      refine j_goto (pc := 179) 183 ok dX8_place_179 (by decide) ?_
                      refine j_lv [] rfl ?_
                      exact hk17 1 h
                · have h := h2 e82_4
                  refine j_tabOut (pc := 82) 184 ok dX8_place_82 hR.1 (by omega) (by decide) ?_
                  refine j_iload_n (pc := 184) 2 ok dX8_place_184 rfl rfl ?_
                  refine j_iload (pc := 185) 5 ok dX8_place_185 rfl ?_
                  refine jn_use (P := fun z20 => q_J D κ 6 0 0 [(a0, .inr (8, [.int (iI r5.2), .ref a0_text, .int (iI a0_textSize), .ref a0_now, .ref a0_trial, .ref a0_diary, .int (iI a0_acts), .ref a0_kept, .ref a0_isKept, .ref a0_clip, .ref a0_line, .int (iI a0_lineSize), .ref a0_read, .int (iI a0_readSize), .ref a0_opens, .ref a0_chains, .ref a0_factors, .ref a0_plains, .ref a0_belows, .ref a0_owned, .int (iI a0_deep), .ref a0_wides, .ref a0_highs, .ref a0_lows, .ref a0_itemWides, .ref a0_pile])), (a0_now, .inl (cs.1, 184, .inl (aI a0_nowF)))] [] 220 [.int (iI z20)]) h (fun z20 h => ?_) (fun k19 hk19 h => ?_)
                  · obtain rfl := Option.some.inj h
                    exact fin _ 220 dX8_place_220
                  · refine j_icmp_ne (pc := 187) 195 ok dX8_place_187 (by decide) h (fun h => ?_) (fun h => ?_)
                    · refine j_aload_n (pc := 195) 1 ok dX8_place_195 rfl rfl ?_
                      refine gf_X8_13_8 (pc := 196) 0 ok rfl dX8_place_196 ?_
                      refine j_iload_n (pc := 199) 2 ok dX8_place_199 rfl rfl ?_
                      refine j_iald (pc := 200) 1 ok rfl dX8_place_200 h (fun h => ?_)
                      refine j_if_le (pc := 201) 213 ok dX8_place_201 (by decide) h (fun h => ?_) (fun h => ?_)
                      · refine j_aload_n (pc := 213) 1 ok dX8_place_213 rfl rfl ?_
                        refine gf_X8_13_8 (pc := 214) 0 ok rfl dX8_place_214 ?_
                        refine j_iload_n (pc := 217) 2 ok dX8_place_217 rfl rfl ?_
                        refine j_iald (pc := 218) 1 ok rfl dX8_place_218 h (fun h => ?_)
                        refine j_ineg (pc := 219) ok dX8_place_219 ?_
                        refine j_lv [] rfl ?_
                        exact hk19 (-(a0_nowF x1.toNat)) h
                      · refine j_aload_n (pc := 204) 1 ok dX8_place_204 rfl rfl ?_
                        refine gf_X8_13_8 (pc := 205) 0 ok rfl dX8_place_205 ?_
                        refine j_iload_n (pc := 208) 2 ok dX8_place_208 rfl rfl ?_
                        refine j_iald (pc := 209) 1 ok rfl dX8_place_209 h (fun h => ?_)
                        refine j_goto (pc := 210) 220 ok dX8_place_210 (by decide) ?_
                        refine j_lv [] rfl ?_
                        exact hk19 (a0_nowF x1.toNat) h
                    · refine j_bipush (pc := 190) ok dX8_place_190 (by decide) ?_
                      refine j_goto (pc := 192) 220 ok dX8_place_192 (by decide) ?_
                      refine j_lv [] rfl ?_
                      exact hk19 (-9) h
      · refine jn_use (P := fun z10 => q_J D κ 6 0 0 [(a0, .inr (8, [.int (iI r5.2), .ref a0_text, .int (iI a0_textSize), .ref a0_now, .ref a0_trial, .ref a0_diary, .int (iI a0_acts), .ref a0_kept, .ref a0_isKept, .ref a0_clip, .ref a0_line, .int (iI a0_lineSize), .ref a0_read, .int (iI a0_readSize), .ref a0_opens, .ref a0_chains, .ref a0_factors, .ref a0_plains, .ref a0_belows, .ref a0_owned, .int (iI a0_deep), .ref a0_wides, .ref a0_highs, .ref a0_lows, .ref a0_itemWides, .ref a0_pile])), (a0_now, .inl (cs.1, 184, .inl (aI a0_nowF)))] [(0, .ref a0), (1, .int (iI x1)), (2, .int (iI x2)), (3, .int (iI r6)), (4, .int (iI r7))] 78 []) h (fun z10 h => ?_) (fun k8 hk8 h => ?_)
        · refine j_iconst (pc := 78) ok dX8_place_78 ?_
          exact hk9 0 h
        · refine j_if_le (pc := 58) 78 ok dX8_place_58 (by decide) h (fun h => ?_) (fun h => ?_)
          · refine j_lv [2, 3, 4, 1, 0] rfl ?_
            exact hk8 () h
          · refine j_aload_n (pc := 61) 2 ok dX8_place_61 rfl rfl ?_
            refine gf_X8_13_8 (pc := 62) 0 ok rfl dX8_place_62 ?_
            refine j_iload_n (pc := 65) 1 ok dX8_place_65 rfl rfl ?_
            refine j_iconst (pc := 66) ok dX8_place_66 ?_
            refine j_isub (pc := 67) ok dX8_place_67 ?_
            refine j_iald (pc := 68) 1 ok rfl dX8_place_68 h (fun h => ?_)
            refine j_bipush (pc := 69) ok dX8_place_69 (by decide) ?_
            refine j_icmp_ne (pc := 71) 78 ok dX8_place_71 (by decide) h (fun h => ?_) (fun h => ?_)
            · refine j_lv [2, 3, 4, 1, 0] rfl ?_
              exact hk8 () h
            · refine j_iconst (pc := 74) ok dX8_place_74 ?_
              refine j_goto (pc := 75) 79 ok dX8_place_75 (by decide) ?_
              refine j_lv [2, 3, 4, 1, 0] rfl ?_
              exact hk9 1 h
    · refine j_iconst (pc := 36) ok dX8_place_36 ?_
      obtain rfl := Option.some.inj h
      exact fin _ 37 dX8_place_37
  · refine j_if_ne (pc := 6) 13 ok dX8_place_6 (by decide) h (fun h => ?_) (fun h => ?_)
    · refine j_iload_n (pc := 13) 2 ok dX8_place_13 rfl rfl ?_
      refine j_i2l (pc := 14) ok dX8_place_14 h (fun h => ?_)
      refine j_lconst (pc := 15) 0 ok dX8_place_15 (by decide) ?_
      refine j_ldc2 (pc := 16) 5 ok dX8_place_16 (q_in 1308 (by decide +kernel) (by decide +kernel)) ?_
      obtain ⟨r3, hr3, h⟩ := bd_inv h
      refine j_callS (pc := 19) ok (k_X8_in (x0 := x2) (x1 := 0) (x2 := 5) hr3) gS_X8_79 hd_X8_in [] (by decide) rfl rfl rfl rfl ⟨Nat.zero_le _, Nat.zero_le _⟩ (Nat.le_of_ble_eq_true rfl) dX8_place_19 rfl [(a0, .inr (8, [.int (iI a0_refusal), .ref a0_text, .int (iI a0_textSize), .ref a0_now, .ref a0_trial, .ref a0_diary, .int (iI a0_acts), .ref a0_kept, .ref a0_isKept, .ref a0_clip, .ref a0_line, .int (iI a0_lineSize), .ref a0_read, .int (iI a0_readSize), .ref a0_opens, .ref a0_chains, .ref a0_factors, .ref a0_plains, .ref a0_belows, .ref a0_owned, .int (iI a0_deep), .ref a0_wides, .ref a0_highs, .ref a0_lows, .ref a0_itemWides, .ref a0_pile])), (a0_now, .inl (cs.1, 184, .inl (aI a0_nowF)))] rfl ?_
      refine j_if_ne (pc := 22) 29 ok dX8_place_22 (by decide) h (fun h => ?_) (fun h => ?_)
      · refine j_iconst (pc := 29) ok dX8_place_29 ?_
        exact hk2 0 h
      · refine j_iconst (pc := 25) ok dX8_place_25 ?_
        refine j_goto (pc := 26) 30 ok dX8_place_26 (by decide) ?_
        exact hk2 2 h
    · refine j_iconst (pc := 9) ok dX8_place_9 ?_
      refine j_goto (pc := 10) 30 ok dX8_place_10 (by decide) ?_
      exact hk2 1 h
def f_X8_selection (a0_refusal : Int) (a0_nowF : (Nat → Int)) (x1 : Int) : Option (Int × Int) := gR x1 (bd (f_X8_in x1 0 2) (fun r1 => jn (fun (z3 : Int) => bd (f_X8_refused a0_refusal z3) (fun r4 => cEq r4.1 0 (gIn 182 184 (jn (fun (z6 : Int) => jn (fun (z10 : Int) => some (z10, r4.2)) (fun k7 => cEq x1 0 (gIn 181 184 (bd (f_X8_itemsIn 184 a0_nowF z6 (a0_nowF (181 : Int).toNat)) (fun r9 => k7 r9))) (cEq x1 1 (gIn 181 184 (bd (f_X8_allIn 184 a0_nowF z6 (a0_nowF (181 : Int).toNat)) (fun r8 => k7 r8))) (k7 z6)))) (fun k5 => cEq (a0_nowF (182 : Int).toNat) ((-9)) (gIn 181 184 (k5 (a0_nowF (181 : Int).toNat))) (gIn 182 184 (k5 (a0_nowF (182 : Int).toNat)))))) (some (0, r4.2)))) (fun k2 => cEq r1 0 (k2 1) (k2 0))))
set_option maxRecDepth 100000 in
set_option maxHeartbeats 4000000 in
theorem k_X8_selection {D : va_G} {cs : q_CS} {a0 a0_text a0_now a0_trial a0_diary a0_kept a0_isKept a0_clip a0_line a0_read a0_opens a0_chains a0_factors a0_plains a0_belows a0_owned a0_wides a0_highs a0_lows a0_itemWides a0_pile : Nat} {a0_refusal a0_textSize a0_acts a0_lineSize a0_readSize a0_deep : Int} {a0_nowF : (Nat → Int)} {x1 : Int} {r : (Int × Int)} (h : f_X8_selection a0_refusal a0_nowF x1 = some r) : q_M D cs yX8_selection cX8_selection 3 (some .int) 4 88 [.ref a0, .int (iI x1)] [(a0, .inr (8, [.int (iI a0_refusal), .ref a0_text, .int (iI a0_textSize), .ref a0_now, .ref a0_trial, .ref a0_diary, .int (iI a0_acts), .ref a0_kept, .ref a0_isKept, .ref a0_clip, .ref a0_line, .int (iI a0_lineSize), .ref a0_read, .int (iI a0_readSize), .ref a0_opens, .ref a0_chains, .ref a0_factors, .ref a0_plains, .ref a0_belows, .ref a0_owned, .int (iI a0_deep), .ref a0_wides, .ref a0_highs, .ref a0_lows, .ref a0_itemWides, .ref a0_pile])), (a0_now, .inl (cs.1, 184, .inl (aI a0_nowF)))] (some (.int (iI r.1))) [(a0, .inr (8, [.int (iI r.2), .ref a0_text, .int (iI a0_textSize), .ref a0_now, .ref a0_trial, .ref a0_diary, .int (iI a0_acts), .ref a0_kept, .ref a0_isKept, .ref a0_clip, .ref a0_line, .int (iI a0_lineSize), .ref a0_read, .int (iI a0_readSize), .ref a0_opens, .ref a0_chains, .ref a0_factors, .ref a0_plains, .ref a0_belows, .ref a0_owned, .int (iI a0_deep), .ref a0_wides, .ref a0_highs, .ref a0_lows, .ref a0_itemWides, .ref a0_pile])), (a0_now, .inl (cs.1, 184, .inl (aI a0_nowF)))] := by
  refine q_start_i [(0, .ref a0), (1, .int (iI x1))] RX8 rfl (by decide +kernel) rfl (Nat.le_of_ble_eq_true rfl) rfl (fun κ ok fin => ?_)
  unfold f_X8_selection at h
  refine j_aload_n (pc := 0) 0 ok dX8_selection_0 rfl rfl ?_
  refine j_iload_n (pc := 1) 1 ok dX8_selection_1 rfl rfl ?_
  refine j_i2l (pc := 2) ok dX8_selection_2 h (fun h => ?_)
  refine j_lconst (pc := 3) 0 ok dX8_selection_3 (by decide) ?_
  refine j_ldc2 (pc := 4) 2 ok dX8_selection_4 (q_in 1339 (by decide +kernel) (by decide +kernel)) ?_
  obtain ⟨r1, hr1, h⟩ := bd_inv h
  refine j_callS (pc := 7) ok (k_X8_in (x0 := x1) (x1 := 0) (x2 := 2) hr1) gS_X8_79 hd_X8_in [] (by decide) rfl rfl rfl rfl ⟨Nat.zero_le _, Nat.zero_le _⟩ (Nat.le_of_ble_eq_true rfl) dX8_selection_7 rfl [(a0, .inr (8, [.int (iI a0_refusal), .ref a0_text, .int (iI a0_textSize), .ref a0_now, .ref a0_trial, .ref a0_diary, .int (iI a0_acts), .ref a0_kept, .ref a0_isKept, .ref a0_clip, .ref a0_line, .int (iI a0_lineSize), .ref a0_read, .int (iI a0_readSize), .ref a0_opens, .ref a0_chains, .ref a0_factors, .ref a0_plains, .ref a0_belows, .ref a0_owned, .int (iI a0_deep), .ref a0_wides, .ref a0_highs, .ref a0_lows, .ref a0_itemWides, .ref a0_pile])), (a0_now, .inl (cs.1, 184, .inl (aI a0_nowF)))] rfl ?_
  refine jn_use (P := fun z3 => q_J D κ 3 0 0 [(a0, .inr (8, [.int (iI a0_refusal), .ref a0_text, .int (iI a0_textSize), .ref a0_now, .ref a0_trial, .ref a0_diary, .int (iI a0_acts), .ref a0_kept, .ref a0_isKept, .ref a0_clip, .ref a0_line, .int (iI a0_lineSize), .ref a0_read, .int (iI a0_readSize), .ref a0_opens, .ref a0_chains, .ref a0_factors, .ref a0_plains, .ref a0_belows, .ref a0_owned, .int (iI a0_deep), .ref a0_wides, .ref a0_highs, .ref a0_lows, .ref a0_itemWides, .ref a0_pile])), (a0_now, .inl (cs.1, 184, .inl (aI a0_nowF)))] [(0, .ref a0), (1, .int (iI x1))] 18 [.int (iI z3), .ref a0]) h (fun z3 h => ?_) (fun k2 hk2 h => ?_)
  · obtain ⟨r4, hr4, h⟩ := bd_inv h
    refine j_callV (pc := 18) ok (k_X8_refused (a0 := a0) (a0_text := a0_text) (a0_now := a0_now) (a0_trial := a0_trial) (a0_diary := a0_diary) (a0_kept := a0_kept) (a0_isKept := a0_isKept) (a0_clip := a0_clip) (a0_line := a0_line) (a0_read := a0_read) (a0_opens := a0_opens) (a0_chains := a0_chains) (a0_factors := a0_factors) (a0_plains := a0_plains) (a0_belows := a0_belows) (a0_owned := a0_owned) (a0_wides := a0_wides) (a0_highs := a0_highs) (a0_lows := a0_lows) (a0_itemWides := a0_itemWides) (a0_pile := a0_pile) (a0_refusal := a0_refusal) (a0_textSize := a0_textSize) (a0_acts := a0_acts) (a0_lineSize := a0_lineSize) (a0_readSize := a0_readSize) (a0_deep := a0_deep) (x1 := z3) hr4) gV_X8_150 ⟨rfl, hd_X8_refused⟩ [0] (by decide) rfl rfl 0 rfl rfl rfl rfl ⟨Nat.zero_le _, Nat.zero_le _⟩ (Nat.le_of_ble_eq_true rfl) dX8_selection_18 rfl [(a0, .inr (8, [.int (iI r4.2), .ref a0_text, .int (iI a0_textSize), .ref a0_now, .ref a0_trial, .ref a0_diary, .int (iI a0_acts), .ref a0_kept, .ref a0_isKept, .ref a0_clip, .ref a0_line, .int (iI a0_lineSize), .ref a0_read, .int (iI a0_readSize), .ref a0_opens, .ref a0_chains, .ref a0_factors, .ref a0_plains, .ref a0_belows, .ref a0_owned, .int (iI a0_deep), .ref a0_wides, .ref a0_highs, .ref a0_lows, .ref a0_itemWides, .ref a0_pile])), (a0_now, .inl (cs.1, 184, .inl (aI a0_nowF)))] rfl ?_
    refine j_if_eq (pc := 21) 26 ok dX8_selection_21 (by decide) h (fun h => ?_) (fun h => ?_)
    · refine j_aload_n (pc := 26) 0 ok dX8_selection_26 rfl rfl ?_
      refine gf_X8_13_8 (pc := 27) 0 ok rfl dX8_selection_27 ?_
      refine j_sipush (pc := 30) ok dX8_selection_30 (by decide) ?_
      refine j_iald (pc := 33) 1 ok rfl dX8_selection_33 h (fun h => ?_)
      refine j_bipush (pc := 34) ok dX8_selection_34 (by decide) ?_
      refine jn_use (P := fun z6 => q_J D κ 3 0 0 [(a0, .inr (8, [.int (iI r4.2), .ref a0_text, .int (iI a0_textSize), .ref a0_now, .ref a0_trial, .ref a0_diary, .int (iI a0_acts), .ref a0_kept, .ref a0_isKept, .ref a0_clip, .ref a0_line, .int (iI a0_lineSize), .ref a0_read, .int (iI a0_readSize), .ref a0_opens, .ref a0_chains, .ref a0_factors, .ref a0_plains, .ref a0_belows, .ref a0_owned, .int (iI a0_deep), .ref a0_wides, .ref a0_highs, .ref a0_lows, .ref a0_itemWides, .ref a0_pile])), (a0_now, .inl (cs.1, 184, .inl (aI a0_nowF)))] [(0, .ref a0), (1, .int (iI x1))] 58 [.int (iI z6)]) h (fun z6 h => ?_) (fun k5 hk5 h => ?_)
      · refine j_istore_n (pc := 58) (lv' := [(2, .int (iI z6)), (0, .ref a0), (1, .int (iI x1))]) ok dX8_selection_58 rfl (by decide) rfl ?_
        refine j_iload_n (pc := 59) 2 ok dX8_selection_59 rfl rfl ?_
        refine jn_use (P := fun z10 => q_J D κ 3 0 0 [(a0, .inr (8, [.int (iI r4.2), .ref a0_text, .int (iI a0_textSize), .ref a0_now, .ref a0_trial, .ref a0_diary, .int (iI a0_acts), .ref a0_kept, .ref a0_isKept, .ref a0_clip, .ref a0_line, .int (iI a0_lineSize), .ref a0_read, .int (iI a0_readSize), .ref a0_opens, .ref a0_chains, .ref a0_factors, .ref a0_plains, .ref a0_belows, .ref a0_owned, .int (iI a0_deep), .ref a0_wides, .ref a0_highs, .ref a0_lows, .ref a0_itemWides, .ref a0_pile])), (a0_now, .inl (cs.1, 184, .inl (aI a0_nowF)))] [] 107 [.int (iI z10)]) h (fun z10 h => ?_) (fun k7 hk7 h => ?_)
        · obtain rfl := Option.some.inj h
          exact fin _ 107 dX8_selection_107
        · refine j_if_ne (pc := 60) 82 ok dX8_selection_60 (by decide) h (fun h => ?_) (fun h => ?_)
          · refine j_iload_n (pc := 82) 2 ok dX8_selection_82 rfl rfl ?_
            refine j_iconst (pc := 83) ok dX8_selection_83 ?_
            refine j_icmp_ne (pc := 84) 106 ok dX8_selection_84 (by decide) h (fun h => ?_) (fun h => ?_)
            · refine j_iload_n (pc := 106) 0 ok dX8_selection_106 rfl rfl ?_
              refine j_lv [] rfl ?_
              exact hk7 z6 h
            · refine j_aload_n (pc := 87) 1 ok dX8_selection_87 rfl rfl ?_
              refine gf_X8_13_8 (pc := 88) 0 ok rfl dX8_selection_88 ?_
              refine j_iload_n (pc := 91) 0 ok dX8_selection_91 rfl rfl ?_
              refine j_aload_n (pc := 92) 1 ok dX8_selection_92 rfl rfl ?_
              refine gf_X8_13_8 (pc := 93) 0 ok rfl dX8_selection_93 ?_
              refine j_sipush (pc := 96) ok dX8_selection_96 (by decide) ?_
              refine j_iald (pc := 99) 1 ok rfl dX8_selection_99 h (fun h => ?_)
              obtain ⟨r8, hr8, h⟩ := bd_inv h
              refine j_callS (pc := 100) ok (k_X8_allIn (a0 := a0_now) (a0N := 184) (a0F := a0_nowF) (x1 := z6) (x2 := a0_nowF (181 : Int).toNat) hr8) gS_X8_114 hd_X8_allIn [1] (by decide) rfl rfl rfl rfl ⟨Nat.zero_le _, Nat.zero_le _⟩ (Nat.le_of_ble_eq_true rfl) dX8_selection_100 rfl [(a0, .inr (8, [.int (iI r4.2), .ref a0_text, .int (iI a0_textSize), .ref a0_now, .ref a0_trial, .ref a0_diary, .int (iI a0_acts), .ref a0_kept, .ref a0_isKept, .ref a0_clip, .ref a0_line, .int (iI a0_lineSize), .ref a0_read, .int (iI a0_readSize), .ref a0_opens, .ref a0_chains, .ref a0_factors, .ref a0_plains, .ref a0_belows, .ref a0_owned, .int (iI a0_deep), .ref a0_wides, .ref a0_highs, .ref a0_lows, .ref a0_itemWides, .ref a0_pile])), (a0_now, .inl (cs.1, 184, .inl (aI a0_nowF)))] rfl ?_
              refine j_goto (pc := 103) 107 ok dX8_selection_103 (by decide) ?_
              refine j_lv [] rfl ?_
              exact hk7 r8 h
          · refine j_aload_n (pc := 63) 1 ok dX8_selection_63 rfl rfl ?_
            refine gf_X8_13_8 (pc := 64) 0 ok rfl dX8_selection_64 ?_
            refine j_iload_n (pc := 67) 0 ok dX8_selection_67 rfl rfl ?_
            refine j_aload_n (pc := 68) 1 ok dX8_selection_68 rfl rfl ?_
            refine gf_X8_13_8 (pc := 69) 0 ok rfl dX8_selection_69 ?_
            refine j_sipush (pc := 72) ok dX8_selection_72 (by decide) ?_
            refine j_iald (pc := 75) 1 ok rfl dX8_selection_75 h (fun h => ?_)
            obtain ⟨r9, hr9, h⟩ := bd_inv h
            refine j_callS (pc := 76) ok (k_X8_itemsIn (a0 := a0_now) (a0N := 184) (a0F := a0_nowF) (x1 := z6) (x2 := a0_nowF (181 : Int).toNat) hr9) gS_X8_188 hd_X8_itemsIn [1] (by decide) rfl rfl rfl rfl ⟨Nat.zero_le _, Nat.zero_le _⟩ (Nat.le_of_ble_eq_true rfl) dX8_selection_76 rfl [(a0, .inr (8, [.int (iI r4.2), .ref a0_text, .int (iI a0_textSize), .ref a0_now, .ref a0_trial, .ref a0_diary, .int (iI a0_acts), .ref a0_kept, .ref a0_isKept, .ref a0_clip, .ref a0_line, .int (iI a0_lineSize), .ref a0_read, .int (iI a0_readSize), .ref a0_opens, .ref a0_chains, .ref a0_factors, .ref a0_plains, .ref a0_belows, .ref a0_owned, .int (iI a0_deep), .ref a0_wides, .ref a0_highs, .ref a0_lows, .ref a0_itemWides, .ref a0_pile])), (a0_now, .inl (cs.1, 184, .inl (aI a0_nowF)))] rfl ?_
            refine j_goto (pc := 79) 107 ok dX8_selection_79 (by decide) ?_
            refine j_lv [] rfl ?_
            exact hk7 r9 h
      · refine j_icmp_ne (pc := 36) 50 ok dX8_selection_36 (by decide) h (fun h => ?_) (fun h => ?_)
        · refine j_aload_n (pc := 50) 0 ok dX8_selection_50 rfl rfl ?_
          refine gf_X8_13_8 (pc := 51) 0 ok rfl dX8_selection_51 ?_
          refine j_sipush (pc := 54) ok dX8_selection_54 (by decide) ?_
          refine j_iald (pc := 57) 1 ok rfl dX8_selection_57 h (fun h => ?_)
          exact hk5 (a0_nowF (182 : Int).toNat) h
        · refine j_aload_n (pc := 39) 0 ok dX8_selection_39 rfl rfl ?_
          refine gf_X8_13_8 (pc := 40) 0 ok rfl dX8_selection_40 ?_
          refine j_sipush (pc := 43) ok dX8_selection_43 (by decide) ?_
          refine j_iald (pc := 46) 1 ok rfl dX8_selection_46 h (fun h => ?_)
          refine j_goto (pc := 47) 58 ok dX8_selection_47 (by decide) ?_
          exact hk5 (a0_nowF (181 : Int).toNat) h
    · refine j_iconst (pc := 24) ok dX8_selection_24 ?_
      obtain rfl := Option.some.inj h
      exact fin _ 25 dX8_selection_25
  · refine j_if_eq (pc := 10) 17 ok dX8_selection_10 (by decide) h (fun h => ?_) (fun h => ?_)
    · refine j_iconst (pc := 17) ok dX8_selection_17 ?_
      exact hk2 1 h
    · refine j_iconst (pc := 13) ok dX8_selection_13 ?_
      refine j_goto (pc := 14) 18 ok dX8_selection_14 (by decide) ?_
      exact hk2 0 h
def f_X8_isShort_101 (a0N : Nat) (a0F : (Nat → Int)) (y3 : Int) (e101_148 : Int × Int → Option (Int)) : Nat → Int → Int → Option (Int)
  | 0, _, _ => none
  | n + 1, y5, y7 => cLt y5 y3 (jn (fun (z19 : Int) => bd (f_X8_itemEnd a0N a0F y5) (fun r20 => f_X8_isShort_101 a0N a0F y3 e101_148 n r20 z19)) (fun k15 => jn (fun (z18 : Unit) => k15 0) (fun k14 => cEq y7 0 (k14 ()) (gIn y5 a0N (jn (fun (z17 : Unit) => k15 1) (fun k16 => cEq (a0F y5.toNat) ((-2)) (k16 ()) (gIn y5 a0N (cEq (a0F y5.toNat) ((-3)) (k16 ()) (k14 ()))))))))) (e101_148 (y5, y7))
set_option maxRecDepth 100000 in
theorem l_X8_isShort_101 {D : va_G} {cs : q_CS} {κ : q_X} {a0 : Nat} {a0N : Nat} {a0F : (Nat → Int)} {y3 : Int} {r : (Int)} {e101_148 : Int × Int → Option (Int)} (ok : q_ok D cs κ cX8_isShort 8 RX8 (q_rm 3 64)) (fin : ∀ (lv : List (Nat × Value)) (pc : Nat), (r = 0 ∨ r = 1) → decode cX8_isShort pc = .ok (.ireturn, 1) → q_J D κ 8 0 0 [(a0, .inl (cs.1, a0N, .inl (aI a0F)))] lv pc [.int (iI r)]) (he101_148 : ∀ x : Int × Int, e101_148 x = some r → q_J D κ 8 0 0 [(a0, .inl (cs.1, a0N, .inl (aI a0F)))] [(7, .int (iI x.2))] 148 []) : ∀ (n : Nat) (y5 : Int) (y7 : Int), f_X8_isShort_101 a0N a0F y3 e101_148 n y5 y7 = some r → q_J D κ 8 0 0 [(a0, .inl (cs.1, a0N, .inl (aI a0F)))] [(0, .ref a0), (3, .int (iI y3)), (5, .int (iI y5)), (7, .int (iI y7))] 101 [] := by
  intro n
  induction n with
  | zero =>
    intro y5 y7 h
    exact absurd h (by unfold f_X8_isShort_101; exact fun z => by cases z)
  | succ n ih =>
    intro y5 y7 h
    unfold f_X8_isShort_101 at h
    refine j_iload (pc := 101) 2 ok dX8_isShort_101 rfl ?_
    refine j_iload_n (pc := 103) 1 ok dX8_isShort_103 rfl rfl ?_
    refine j_icmp_ge (pc := 104) 148 ok dX8_isShort_104 (by decide) h (fun h => ?_) (fun h => ?_)
    · refine j_lv [3] rfl ?_
      exact he101_148 (y5, y7) h
    · refine j_iload (pc := 107) 3 ok dX8_isShort_107 rfl ?_
      refine jn_use (P := fun z19 => q_J D κ 8 0 0 [(a0, .inl (cs.1, a0N, .inl (aI a0F)))] [(0, .ref a0), (3, .int (iI y3)), (5, .int (iI y5))] 135 [.int (iI z19)]) h (fun z19 h => ?_) (fun k15 hk15 h => ?_)
      · refine j_istore (pc := 135) (lv' := [(7, .int (iI z19)), (0, .ref a0), (3, .int (iI y3)), (5, .int (iI y5))]) ok dX8_isShort_135 (by decide) rfl ?_
        refine j_aload_n (pc := 137) 1 ok dX8_isShort_137 rfl rfl ?_
        refine j_iload (pc := 138) 3 ok dX8_isShort_138 rfl ?_
        obtain ⟨r20, hr20, h⟩ := bd_inv h
        refine j_callS (pc := 140) ok (k_X8_itemEnd (a0 := a0) (a0N := a0N) (a0F := a0F) (x1 := y5) hr20) gS_X8_107 hd_X8_itemEnd [0] (by decide) rfl rfl rfl rfl ⟨Nat.zero_le _, Nat.zero_le _⟩ (Nat.le_of_ble_eq_true rfl) dX8_isShort_140 rfl [(a0, .inl (cs.1, a0N, .inl (aI a0F)))] rfl ?_
        refine j_istore (pc := 143) (lv' := [(5, .int (iI r20)), (7, .int (iI z19)), (0, .ref a0), (3, .int (iI y3))]) ok dX8_isShort_143 (by decide) rfl ?_
        refine j_goto (pc := 145) 101 ok dX8_isShort_145 (by decide) ?_
        refine j_lv [2, 3, 0, 1] rfl ?_
        exact ih _ _ h
      · refine jn_use (P := fun z18 => q_J D κ 8 0 0 [(a0, .inl (cs.1, a0N, .inl (aI a0F)))] [(0, .ref a0), (3, .int (iI y3)), (5, .int (iI y5))] 134 []) h (fun z18 h => ?_) (fun k14 hk14 h => ?_)
        · refine j_iconst (pc := 134) ok dX8_isShort_134 ?_
          exact hk15 0 h
        · refine j_if_eq (pc := 109) 134 ok dX8_isShort_109 (by decide) h (fun h => ?_) (fun h => ?_)
          · refine j_lv [0, 1, 2] rfl ?_
            exact hk14 () h
          · refine j_aload_n (pc := 112) 0 ok dX8_isShort_112 rfl rfl ?_
            refine j_iload (pc := 113) 2 ok dX8_isShort_113 rfl ?_
            refine j_iald (pc := 115) 0 ok rfl dX8_isShort_115 h (fun h => ?_)
            refine j_bipush (pc := 116) ok dX8_isShort_116 (by decide) ?_
            refine jn_use (P := fun z17 => q_J D κ 8 0 0 [(a0, .inl (cs.1, a0N, .inl (aI a0F)))] [(0, .ref a0), (3, .int (iI y3)), (5, .int (iI y5))] 130 []) h (fun z17 h => ?_) (fun k16 hk16 h => ?_)
            · refine j_iconst (pc := 130) ok dX8_isShort_130 ?_
              refine j_goto (pc := 131) 135 ok dX8_isShort_131 (by decide) ?_
              exact hk15 1 h
            · refine j_icmp_eq (pc := 118) 130 ok dX8_isShort_118 (by decide) h (fun h => ?_) (fun h => ?_)
              · refine j_lv [0, 1, 2] rfl ?_
                exact hk16 () h
              · refine j_aload_n (pc := 121) 0 ok dX8_isShort_121 rfl rfl ?_
                refine j_iload (pc := 122) 2 ok dX8_isShort_122 rfl ?_
                refine j_iald (pc := 124) 0 ok rfl dX8_isShort_124 h (fun h => ?_)
                refine j_bipush (pc := 125) ok dX8_isShort_125 (by decide) ?_
                refine j_icmp_ne (pc := 127) 134 ok dX8_isShort_127 (by decide) h (fun h => ?_) (fun h => ?_)
                · refine j_lv [0, 1, 2] rfl ?_
                  exact hk14 () h
                · refine j_lv [0, 1, 2] rfl ?_
                  exact hk16 () h
def f_X8_isShort (a0N : Nat) (a0F : (Nat → Int)) (x1 : Int) (x2 : Int) : Option (Int) := bd (f_X8_rowEnd a0N a0F x1) (fun r1 => cEq x1 r1 (gB 0 (some 0)) (gIn x1 a0N (bd (f_X8_itemEnd a0N a0F x1) (fun r2 => bd (f_X8_isLetter (a0F x1.toNat)) (fun r3 => jn (fun (z8 : Int) => jn (fun (z22 : Unit) => jn (fun (z26 : Int) => gB z26 (some z26)) (fun k24 => jn (fun (z25 : Unit) => k24 0) (fun k23 => cEq z8 0 (k23 ()) (cEq r2 r1 (k24 1) (k23 ()))))) (fun k9 => cEq x2 0 (k9 ()) (cEq r2 r1 (k9 ()) (jn (fun (z13 : Int) => f_X8_isShort_101 a0N a0F r1 (fun (z21 : Int × Int) => gB z21.2 (some z21.2)) fuel r2 z13) (fun k11 => jn (fun (z12 : Unit) => k11 1) (fun k10 => cEq z8 0 (cEq (a0F x1.toNat) ((-5)) (k10 ()) (k11 0)) (k10 ()))))))) (fun k5 => jn (fun (z7 : Unit) => k5 1) (fun k4 => cEq r3 0 (bd (f_X8_isDigit (a0F x1.toNat)) (fun r6 => cEq r6 0 (cEq (a0F x1.toNat) ((-4)) (k4 ()) (k5 0)) (k4 ()))) (k4 ()))))))))
set_option maxRecDepth 100000 in
set_option maxHeartbeats 4000000 in
theorem k_X8_isShort {D : va_G} {cs : q_CS} {a0 : Nat} {a0N : Nat} {a0F : (Nat → Int)} {x1 x2 : Int} {r : (Int)} (h : f_X8_isShort a0N a0F x1 x2 = some r) : q_M D cs yX8_isShort cX8_isShort 8 (some .boolean) 3 64 [.ref a0, .int (iI x1), .int (iI x2)] [(a0, .inl (cs.1, a0N, .inl (aI a0F)))] (some (.int (iI r))) [(a0, .inl (cs.1, a0N, .inl (aI a0F)))] := by
  refine q_start_z [(0, .ref a0), (1, .int (iI x1)), (2, .int (iI x2))] RX8 rfl (by decide +kernel) rfl (Nat.le_of_ble_eq_true rfl) (fun κ ok fin => ?_)
  unfold f_X8_isShort at h
  refine j_aload_n (pc := 0) 0 ok dX8_isShort_0 rfl rfl ?_
  refine j_iload_n (pc := 1) 1 ok dX8_isShort_1 rfl rfl ?_
  obtain ⟨r1, hr1, h⟩ := bd_inv h
  refine j_callS (pc := 2) ok (k_X8_rowEnd (a0 := a0) (a0N := a0N) (a0F := a0F) (x1 := x1) hr1) gS_X8_142 hd_X8_rowEnd [0] (by decide) rfl rfl rfl rfl ⟨Nat.zero_le _, Nat.zero_le _⟩ (Nat.le_of_ble_eq_true rfl) dX8_isShort_2 rfl [(a0, .inl (cs.1, a0N, .inl (aI a0F)))] rfl ?_
  refine j_istore_n (pc := 5) (lv' := [(3, .int (iI r1)), (0, .ref a0), (1, .int (iI x1)), (2, .int (iI x2))]) ok dX8_isShort_5 rfl (by decide) rfl ?_
  refine j_iload_n (pc := 6) 2 ok dX8_isShort_6 rfl rfl ?_
  refine j_iload_n (pc := 7) 0 ok dX8_isShort_7 rfl rfl ?_
  refine j_icmp_ne (pc := 8) 13 ok dX8_isShort_8 (by decide) h (fun h => ?_) (fun h => ?_)
  · refine j_aload_n (pc := 13) 1 ok dX8_isShort_13 rfl rfl ?_
    refine j_iload_n (pc := 14) 2 ok dX8_isShort_14 rfl rfl ?_
    refine j_iald (pc := 15) 0 ok rfl dX8_isShort_15 h (fun h => ?_)
    refine j_istore (pc := 16) (lv' := [(4, .int (iI (a0F x1.toNat))), (3, .int (iI r1)), (0, .ref a0), (1, .int (iI x1)), (2, .int (iI x2))]) ok dX8_isShort_16 (by decide) rfl ?_
    refine j_aload_n (pc := 18) 2 ok dX8_isShort_18 rfl rfl ?_
    refine j_iload_n (pc := 19) 3 ok dX8_isShort_19 rfl rfl ?_
    obtain ⟨r2, hr2, h⟩ := bd_inv h
    refine j_callS (pc := 20) ok (k_X8_itemEnd (a0 := a0) (a0N := a0N) (a0F := a0F) (x1 := x1) hr2) gS_X8_107 hd_X8_itemEnd [0] (by decide) rfl rfl rfl rfl ⟨Nat.zero_le _, Nat.zero_le _⟩ (Nat.le_of_ble_eq_true rfl) dX8_isShort_20 rfl [(a0, .inl (cs.1, a0N, .inl (aI a0F)))] rfl ?_
    refine j_istore (pc := 23) (lv' := [(5, .int (iI r2)), (4, .int (iI (a0F x1.toNat))), (3, .int (iI r1)), (0, .ref a0), (1, .int (iI x1)), (2, .int (iI x2))]) ok dX8_isShort_23 (by decide) rfl ?_
    refine j_iload (pc := 25) 1 ok dX8_isShort_25 rfl ?_
    obtain ⟨r3, hr3, h⟩ := bd_inv h
    refine j_callS (pc := 27) ok (k_X8_isLetter (x0 := a0F x1.toNat) hr3) gS_X8_87 hd_X8_isLetter [] (by decide) rfl rfl rfl rfl ⟨Nat.zero_le _, Nat.zero_le _⟩ (Nat.le_of_ble_eq_true rfl) dX8_isShort_27 rfl [(a0, .inl (cs.1, a0N, .inl (aI a0F)))] rfl ?_
    refine jn_use (P := fun z8 => q_J D κ 8 0 0 [(a0, .inl (cs.1, a0N, .inl (aI a0F)))] [(0, .ref a0), (2, .int (iI x2)), (3, .int (iI r1)), (4, .int (iI (a0F x1.toNat))), (5, .int (iI r2))] 53 [.int (iI z8)]) h (fun z8 h => ?_) (fun k5 hk5 h => ?_)
    · refine j_istore (pc := 53) (lv' := [(6, .int (iI z8)), (0, .ref a0), (2, .int (iI x2)), (3, .int (iI r1)), (4, .int (iI (a0F x1.toNat))), (5, .int (iI r2))]) ok dX8_isShort_53 (by decide) rfl ?_
      refine j_iload_n (pc := 55) 2 ok dX8_isShort_55 rfl rfl ?_
      refine jn_use (P := fun z22 => q_J D κ 8 0 0 [(a0, .inl (cs.1, a0N, .inl (aI a0F)))] [(3, .int (iI r1)), (5, .int (iI r2)), (6, .int (iI z8))] 65 []) h (fun z22 h => ?_) (fun k9 hk9 h => ?_)
      · refine j_iload (pc := 65) 2 ok dX8_isShort_65 rfl ?_
        refine jn_use (P := fun z26 => q_J D κ 8 0 0 [(a0, .inl (cs.1, a0N, .inl (aI a0F)))] [] 81 [.int (iI z26)]) h (fun z26 h => ?_) (fun k24 hk24 h => ?_)
        · obtain ⟨hbo, h⟩ := gB_inv h
          obtain rfl := Option.some.inj h
          exact fin _ 81 hbo dX8_isShort_81
        · refine jn_use (P := fun z25 => q_J D κ 8 0 0 [(a0, .inl (cs.1, a0N, .inl (aI a0F)))] [] 80 []) h (fun z25 h => ?_) (fun k23 hk23 h => ?_)
          · refine j_iconst (pc := 80) ok dX8_isShort_80 ?_
            exact hk24 0 h
          · refine j_if_eq (pc := 67) 80 ok dX8_isShort_67 (by decide) h (fun h => ?_) (fun h => ?_)
            · refine j_lv [] rfl ?_
              exact hk23 () h
            · refine j_iload (pc := 70) 1 ok dX8_isShort_70 rfl ?_
              refine j_iload_n (pc := 72) 0 ok dX8_isShort_72 rfl rfl ?_
              refine j_icmp_ne (pc := 73) 80 ok dX8_isShort_73 (by decide) h (fun h => ?_) (fun h => ?_)
              · refine j_lv [] rfl ?_
                exact hk23 () h
              · refine j_iconst (pc := 76) ok dX8_isShort_76 ?_
                refine j_goto (pc := 77) 81 ok dX8_isShort_77 (by decide) ?_
                refine j_lv [] rfl ?_
                exact hk24 1 h
      · refine j_if_eq (pc := 56) 65 ok dX8_isShort_56 (by decide) h (fun h => ?_) (fun h => ?_)
        · refine j_lv [3, 5, 0] rfl ?_
          exact hk9 () h
        · refine j_iload (pc := 59) 5 ok dX8_isShort_59 rfl ?_
          refine j_iload_n (pc := 61) 3 ok dX8_isShort_61 rfl rfl ?_
          refine j_icmp_ne (pc := 62) 82 ok dX8_isShort_62 (by decide) h (fun h => ?_) (fun h => ?_)
          · refine j_iload (pc := 82) 0 ok dX8_isShort_82 rfl ?_
            refine jn_use (P := fun z13 => q_J D κ 8 0 0 [(a0, .inl (cs.1, a0N, .inl (aI a0F)))] [(0, .ref a0), (3, .int (iI r1)), (5, .int (iI r2))] 99 [.int (iI z13)]) h (fun z13 h => ?_) (fun k11 hk11 h => ?_)
            · refine j_istore (pc := 99) (lv' := [(7, .int (iI z13)), (0, .ref a0), (3, .int (iI r1)), (5, .int (iI r2))]) ok dX8_isShort_99 (by decide) rfl ?_
              refine j_lv [1, 2, 3, 0] rfl ?_
              refine l_X8_isShort_101 ok fin (fun z21 h => ?_) fuel _ _ h
              · refine j_iload (pc := 148) 0 ok dX8_isShort_148 rfl ?_
                obtain ⟨hbo, h⟩ := gB_inv h
                obtain rfl := Option.some.inj h
                exact fin _ 150 hbo dX8_isShort_150
            · refine jn_use (P := fun z12 => q_J D κ 8 0 0 [(a0, .inl (cs.1, a0N, .inl (aI a0F)))] [(0, .ref a0), (3, .int (iI r1)), (5, .int (iI r2))] 94 []) h (fun z12 h => ?_) (fun k10 hk10 h => ?_)
              · refine j_iconst (pc := 94) ok dX8_isShort_94 ?_
                refine j_goto (pc := 95) 99 ok dX8_isShort_95 (by decide) ?_
                exact hk11 1 h
              · refine j_if_ne (pc := 84) 94 ok dX8_isShort_84 (by decide) h (fun h => ?_) (fun h => ?_)
                · refine j_lv [1, 3, 5] rfl ?_
                  exact hk10 () h
                · refine j_iload (pc := 87) 4 ok dX8_isShort_87 rfl ?_
                  refine j_bipush (pc := 89) ok dX8_isShort_89 (by decide) ?_
                  refine j_icmp_ne (pc := 91) 98 ok dX8_isShort_91 (by decide) h (fun h => ?_) (fun h => ?_)
                  · refine j_iconst (pc := 98) ok dX8_isShort_98 ?_
                    refine j_lv [1, 3, 5] rfl ?_
                    exact hk11 0 h
                  · refine j_lv [1, 3, 5] rfl ?_
                    exact hk10 () h
          · refine j_lv [3, 5, 0] rfl ?_
            exact hk9 () h
    · refine jn_use (P := fun z7 => q_J D κ 8 0 0 [(a0, .inl (cs.1, a0N, .inl (aI a0F)))] [(0, .ref a0), (2, .int (iI x2)), (3, .int (iI r1)), (4, .int (iI (a0F x1.toNat))), (5, .int (iI r2))] 48 []) h (fun z7 h => ?_) (fun k4 hk4 h => ?_)
      · refine j_iconst (pc := 48) ok dX8_isShort_48 ?_
        refine j_goto (pc := 49) 53 ok dX8_isShort_49 (by decide) ?_
        exact hk5 1 h
      · refine j_if_ne (pc := 30) 48 ok dX8_isShort_30 (by decide) h (fun h => ?_) (fun h => ?_)
        · refine j_lv [3, 5, 2, 1, 0] rfl ?_
          exact hk4 () h
        · refine j_iload (pc := 33) 1 ok dX8_isShort_33 rfl ?_
          obtain ⟨r6, hr6, h⟩ := bd_inv h
          refine j_callS (pc := 35) ok (k_X8_isDigit (x0 := a0F x1.toNat) hr6) gS_X8_91 hd_X8_isDigit [] (by decide) rfl rfl rfl rfl ⟨Nat.zero_le _, Nat.zero_le _⟩ (Nat.le_of_ble_eq_true rfl) dX8_isShort_35 rfl [(a0, .inl (cs.1, a0N, .inl (aI a0F)))] rfl ?_
          refine j_if_ne (pc := 38) 48 ok dX8_isShort_38 (by decide) h (fun h => ?_) (fun h => ?_)
          · refine j_lv [3, 5, 2, 1, 0] rfl ?_
            exact hk4 () h
          · refine j_iload (pc := 41) 1 ok dX8_isShort_41 rfl ?_
            refine j_bipush (pc := 43) ok dX8_isShort_43 (by decide) ?_
            refine j_icmp_ne (pc := 45) 52 ok dX8_isShort_45 (by decide) h (fun h => ?_) (fun h => ?_)
            · refine j_iconst (pc := 52) ok dX8_isShort_52 ?_
              refine j_lv [3, 5, 2, 1, 0] rfl ?_
              exact hk5 0 h
            · refine j_lv [3, 5, 2, 1, 0] rfl ?_
              exact hk4 () h
  · refine j_iconst (pc := 11) ok dX8_isShort_11 ?_
    obtain ⟨hbo, h⟩ := gB_inv h
    obtain rfl := Option.some.inj h
    exact fin _ 12 hbo dX8_isShort_12
def f_X8_say (a0_lineSize : Int) (a0_lineF : (Nat → Int)) (x1 : Int) : Option (Int × (Nat → Int)) := gIn a0_lineSize 1024 (some (a0_lineSize + 1, va_up a0_lineF a0_lineSize.toNat x1))
set_option maxRecDepth 100000 in
set_option maxHeartbeats 4000000 in
theorem k_X8_say {D : va_G} {cs : q_CS} {a0 a0_text a0_now a0_trial a0_diary a0_kept a0_isKept a0_clip a0_line a0_read a0_opens a0_chains a0_factors a0_plains a0_belows a0_owned a0_wides a0_highs a0_lows a0_itemWides a0_pile : Nat} {a0_refusal a0_textSize a0_acts a0_lineSize a0_readSize a0_deep : Int} {a0_lineF : (Nat → Int)} {x1 : Int} {r : (Int × (Nat → Int))} (h : f_X8_say a0_lineSize a0_lineF x1 = some r) : q_M D cs yX8_say cX8_say 2 none 0 0 [.ref a0, .int (iI x1)] [(a0, .inr (8, [.int (iI a0_refusal), .ref a0_text, .int (iI a0_textSize), .ref a0_now, .ref a0_trial, .ref a0_diary, .int (iI a0_acts), .ref a0_kept, .ref a0_isKept, .ref a0_clip, .ref a0_line, .int (iI a0_lineSize), .ref a0_read, .int (iI a0_readSize), .ref a0_opens, .ref a0_chains, .ref a0_factors, .ref a0_plains, .ref a0_belows, .ref a0_owned, .int (iI a0_deep), .ref a0_wides, .ref a0_highs, .ref a0_lows, .ref a0_itemWides, .ref a0_pile])), (a0_line, .inl (cs.1, 1024, .inl (aI a0_lineF)))] none [(a0, .inr (8, [.int (iI a0_refusal), .ref a0_text, .int (iI a0_textSize), .ref a0_now, .ref a0_trial, .ref a0_diary, .int (iI a0_acts), .ref a0_kept, .ref a0_isKept, .ref a0_clip, .ref a0_line, .int (iI r.1), .ref a0_read, .int (iI a0_readSize), .ref a0_opens, .ref a0_chains, .ref a0_factors, .ref a0_plains, .ref a0_belows, .ref a0_owned, .int (iI a0_deep), .ref a0_wides, .ref a0_highs, .ref a0_lows, .ref a0_itemWides, .ref a0_pile])), (a0_line, .inl (cs.1, 1024, .inl (aI r.2)))] := by
  refine q_start_v [(0, .ref a0), (1, .int (iI x1))] RX8 rfl (by decide +kernel) rfl (Nat.le_of_ble_eq_true rfl) (fun κ ok fin => ?_)
  unfold f_X8_say at h
  refine j_aload_n (pc := 0) 0 ok dX8_say_0 rfl rfl ?_
  refine gf_X8_32_8 (pc := 1) 0 ok rfl dX8_say_1 ?_
  refine j_aload_n (pc := 4) 0 ok dX8_say_4 rfl rfl ?_
  refine gf_X8_193_8 (pc := 5) 0 ok rfl dX8_say_5 ?_
  refine j_iload_n (pc := 8) 1 ok dX8_say_8 rfl rfl ?_
  refine j_iastw (pc := 9) 1 ok rfl dX8_say_9 h [(a0, .inr (8, [.int (iI a0_refusal), .ref a0_text, .int (iI a0_textSize), .ref a0_now, .ref a0_trial, .ref a0_diary, .int (iI a0_acts), .ref a0_kept, .ref a0_isKept, .ref a0_clip, .ref a0_line, .int (iI a0_lineSize), .ref a0_read, .int (iI a0_readSize), .ref a0_opens, .ref a0_chains, .ref a0_factors, .ref a0_plains, .ref a0_belows, .ref a0_owned, .int (iI a0_deep), .ref a0_wides, .ref a0_highs, .ref a0_lows, .ref a0_itemWides, .ref a0_pile])), (a0_line, .inl (cs.1, 1024, .inl (aI (va_up a0_lineF a0_lineSize.toNat x1))))] rfl (fun h => ?_)
  refine j_aload_n (pc := 10) 0 ok dX8_say_10 rfl rfl ?_
  refine j_dup (pc := 11) ok dX8_say_11 rfl ?_
  refine gf_X8_193_8 (pc := 12) 0 ok rfl dX8_say_12 ?_
  refine j_iconst (pc := 15) ok dX8_say_15 ?_
  refine j_iadd (pc := 16) ok dX8_say_16 ?_
  refine pf_X8_193_8 (pc := 17) 0 ok rfl dX8_say_17 [(a0, .inr (8, [.int (iI a0_refusal), .ref a0_text, .int (iI a0_textSize), .ref a0_now, .ref a0_trial, .ref a0_diary, .int (iI a0_acts), .ref a0_kept, .ref a0_isKept, .ref a0_clip, .ref a0_line, .int (iI (a0_lineSize + 1)), .ref a0_read, .int (iI a0_readSize), .ref a0_opens, .ref a0_chains, .ref a0_factors, .ref a0_plains, .ref a0_belows, .ref a0_owned, .int (iI a0_deep), .ref a0_wides, .ref a0_highs, .ref a0_lows, .ref a0_itemWides, .ref a0_pile])), (a0_line, .inl (cs.1, 1024, .inl (aI (va_up a0_lineF a0_lineSize.toNat x1))))] rfl ?_
  obtain rfl := Option.some.inj h
  exact fin _ 20 dX8_say_20
def f_X8_sayUnless (a0_lineSize : Int) (a0_lineF : (Nat → Int)) (x1 : Int) (x2 : Int) : Option (Int × (Nat → Int)) := jn (fun (z3 : Int × (Nat → Int)) => some (z3.1, z3.2)) (fun k1 => cEq x1 0 (bd (f_X8_say a0_lineSize a0_lineF x2) (fun r2 => k1 (r2.1, r2.2))) (k1 (a0_lineSize, a0_lineF)))
set_option maxRecDepth 100000 in
set_option maxHeartbeats 4000000 in
theorem k_X8_sayUnless {D : va_G} {cs : q_CS} {a0 a0_text a0_now a0_trial a0_diary a0_kept a0_isKept a0_clip a0_line a0_read a0_opens a0_chains a0_factors a0_plains a0_belows a0_owned a0_wides a0_highs a0_lows a0_itemWides a0_pile : Nat} {a0_refusal a0_textSize a0_acts a0_lineSize a0_readSize a0_deep : Int} {a0_lineF : (Nat → Int)} {x1 x2 : Int} {r : (Int × (Nat → Int))} (h : f_X8_sayUnless a0_lineSize a0_lineF x1 x2 = some r) : q_M D cs yX8_sayUnless cX8_sayUnless 3 none 1 21 [.ref a0, .int (iI x1), .int (iI x2)] [(a0, .inr (8, [.int (iI a0_refusal), .ref a0_text, .int (iI a0_textSize), .ref a0_now, .ref a0_trial, .ref a0_diary, .int (iI a0_acts), .ref a0_kept, .ref a0_isKept, .ref a0_clip, .ref a0_line, .int (iI a0_lineSize), .ref a0_read, .int (iI a0_readSize), .ref a0_opens, .ref a0_chains, .ref a0_factors, .ref a0_plains, .ref a0_belows, .ref a0_owned, .int (iI a0_deep), .ref a0_wides, .ref a0_highs, .ref a0_lows, .ref a0_itemWides, .ref a0_pile])), (a0_line, .inl (cs.1, 1024, .inl (aI a0_lineF)))] none [(a0, .inr (8, [.int (iI a0_refusal), .ref a0_text, .int (iI a0_textSize), .ref a0_now, .ref a0_trial, .ref a0_diary, .int (iI a0_acts), .ref a0_kept, .ref a0_isKept, .ref a0_clip, .ref a0_line, .int (iI r.1), .ref a0_read, .int (iI a0_readSize), .ref a0_opens, .ref a0_chains, .ref a0_factors, .ref a0_plains, .ref a0_belows, .ref a0_owned, .int (iI a0_deep), .ref a0_wides, .ref a0_highs, .ref a0_lows, .ref a0_itemWides, .ref a0_pile])), (a0_line, .inl (cs.1, 1024, .inl (aI r.2)))] := by
  refine q_start_v [(0, .ref a0), (1, .int (iI x1)), (2, .int (iI x2))] RX8 rfl (by decide +kernel) rfl (Nat.le_of_ble_eq_true rfl) (fun κ ok fin => ?_)
  unfold f_X8_sayUnless at h
  refine j_iload_n (pc := 0) 1 ok dX8_sayUnless_0 rfl rfl ?_
  refine jn_use (P := fun z3 => q_J D κ 3 0 0 [(a0, .inr (8, [.int (iI a0_refusal), .ref a0_text, .int (iI a0_textSize), .ref a0_now, .ref a0_trial, .ref a0_diary, .int (iI a0_acts), .ref a0_kept, .ref a0_isKept, .ref a0_clip, .ref a0_line, .int (iI z3.1), .ref a0_read, .int (iI a0_readSize), .ref a0_opens, .ref a0_chains, .ref a0_factors, .ref a0_plains, .ref a0_belows, .ref a0_owned, .int (iI a0_deep), .ref a0_wides, .ref a0_highs, .ref a0_lows, .ref a0_itemWides, .ref a0_pile])), (a0_line, .inl (cs.1, 1024, .inl (aI z3.2)))] [] 9 []) h (fun z3 h => ?_) (fun k1 hk1 h => ?_)
  · obtain rfl := Option.some.inj h
    exact fin _ 9 dX8_sayUnless_9
  · refine j_if_ne (pc := 1) 9 ok dX8_sayUnless_1 (by decide) h (fun h => ?_) (fun h => ?_)
    · refine j_lv [] rfl ?_
      exact hk1 (a0_lineSize, a0_lineF) h
    · refine j_aload_n (pc := 4) 0 ok dX8_sayUnless_4 rfl rfl ?_
      refine j_iload_n (pc := 5) 2 ok dX8_sayUnless_5 rfl rfl ?_
      obtain ⟨r2, hr2, h⟩ := bd_inv h
      refine j_callV (pc := 6) ok (k_X8_say (a0 := a0) (a0_text := a0_text) (a0_now := a0_now) (a0_trial := a0_trial) (a0_diary := a0_diary) (a0_kept := a0_kept) (a0_isKept := a0_isKept) (a0_clip := a0_clip) (a0_line := a0_line) (a0_read := a0_read) (a0_opens := a0_opens) (a0_chains := a0_chains) (a0_factors := a0_factors) (a0_plains := a0_plains) (a0_belows := a0_belows) (a0_owned := a0_owned) (a0_wides := a0_wides) (a0_highs := a0_highs) (a0_lows := a0_lows) (a0_itemWides := a0_itemWides) (a0_pile := a0_pile) (a0_refusal := a0_refusal) (a0_textSize := a0_textSize) (a0_acts := a0_acts) (a0_lineSize := a0_lineSize) (a0_readSize := a0_readSize) (a0_deep := a0_deep) (a0_lineF := a0_lineF) (x1 := x2) hr2) gV_X8_196 ⟨rfl, hd_X8_say⟩ [0, 1] (by decide) rfl rfl 0 rfl rfl rfl rfl ⟨Nat.zero_le _, Nat.zero_le _⟩ (Nat.le_of_ble_eq_true rfl) dX8_sayUnless_6 rfl [(a0, .inr (8, [.int (iI a0_refusal), .ref a0_text, .int (iI a0_textSize), .ref a0_now, .ref a0_trial, .ref a0_diary, .int (iI a0_acts), .ref a0_kept, .ref a0_isKept, .ref a0_clip, .ref a0_line, .int (iI r2.1), .ref a0_read, .int (iI a0_readSize), .ref a0_opens, .ref a0_chains, .ref a0_factors, .ref a0_plains, .ref a0_belows, .ref a0_owned, .int (iI a0_deep), .ref a0_wides, .ref a0_highs, .ref a0_lows, .ref a0_itemWides, .ref a0_pile])), (a0_line, .inl (cs.1, 1024, .inl (aI r2.2)))] rfl ?_
      refine j_lv [] rfl ?_
      exact hk1 (r2.1, r2.2) h
