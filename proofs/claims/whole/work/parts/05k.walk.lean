def f_X8_layLine_9 (a1N : Nat) (a1F : (Nat → Int)) (e9_324 : Int × (Nat → Int) × (Nat → Int) × Int × Int → Option (Int × (Nat → Int) × (Nat → Int))) : Nat → Int → (Nat → Int) → (Nat → Int) → Int → Int → Option (Int × (Nat → Int) × (Nat → Int))
  | 0, _, _, _, _, _ => none
  | n + 1, a0_lineSize, a0_lineF, a0_pileF, y2, y3 => gIn 180 a1N (cLt y3 (a1F (180 : Int).toNat) (gIn y3 a1N (jn (fun (z39 : Int × (Nat → Int) × (Nat → Int) × Int) => f_X8_layLine_9 a1N a1F e9_324 n z39.1 z39.2.1 z39.2.2.1 z39.2.2.2 (y3 + 1)) (fun k1 => cLt 0 (a1F y3.toNat) (bd (f_X8_say a0_lineSize a0_lineF (a1F y3.toNat)) (fun r38 => k1 (r38.1, r38.2, a0_pileF, y2))) (bd (f_X8_isBegin (a1F y3.toNat)) (fun r2 => cEq r2 0 (cEq (a1F y3.toNat) ((-10)) (gIn (y2 - 1) 64 (bd (f_X8_isShort a1N a1F ((a0_pileF (y2 - 1).toNat) + 1) 1) (fun r13 => bd (f_X8_sayUnless a0_lineSize a0_lineF r13 41) (fun r14 => bd (f_X8_say r14.1 r14.2 47) (fun r15 => bd (f_X8_isShort a1N a1F (y3 + 1) 1) (fun r16 => bd (f_X8_sayUnless r15.1 r15.2 r16 40) (fun r17 => k1 (r17.1, r17.2, a0_pileF, y2)))))))) (gIn (y2 + (-1)) 64 (gIn (a0_pileF (y2 + (-1)).toNat) a1N (jn (fun (z11 : Int) => bd (f_X8_sayUnless a0_lineSize a0_lineF z11 41) (fun r12 => k1 (r12.1, r12.2, a0_pileF, y2 + (-1)))) (fun k3 => cEq (a1F (a0_pileF (y2 + (-1)).toNat).toNat) ((-1)) (bd (f_X8_rowStart a1N a1F y3) (fun r9 => bd (f_X8_isShort a1N a1F r9 1) (fun r10 => k3 r10))) (jn (fun (z8 : Unit) => k3 0) (fun k5 => jn (fun (z6 : Unit) => gIn (y2 + (-1)) 64 (bd (f_X8_isShort a1N a1F ((a0_pileF (y2 + (-1)).toNat) + 1) 0) (fun r7 => cEq r7 0 (k5 ()) (k3 1)))) (fun k4 => cEq (a1F (a0_pileF (y2 + (-1)).toNat).toNat) ((-2)) (k4 ()) (cEq (a1F (a0_pileF (y2 + (-1)).toNat).toNat) ((-3)) (k4 ()) (k5 ())))))))))) (gIn y2 64 (cEq (a1F y3.toNat) ((-1)) (bd (f_X8_isShort a1N a1F (y3 + 1) 1) (fun r36 => bd (f_X8_sayUnless a0_lineSize a0_lineF r36 40) (fun r37 => k1 (r37.1, r37.2, va_up a0_pileF y2.toNat y3, y2 + 1)))) (cLt ((-4)) (a1F y3.toNat) (bd (f_X8_rowStart a1N a1F y3) (fun r22 => jn (fun (z27 : Int) => jn (fun (z29 : Int) => bd (f_X8_sayUnless a0_lineSize a0_lineF z29 32) (fun r30 => jn (fun (z32 : Int) => bd (f_X8_say r30.1 r30.2 z32) (fun r33 => bd (f_X8_isShort a1N a1F (y3 + 1) 0) (fun r34 => bd (f_X8_sayUnless r33.1 r33.2 r34 40) (fun r35 => k1 (r35.1, r35.2, va_up a0_pileF y2.toNat y3, y2 + 1))))) (fun k31 => cEq (a1F y3.toNat) ((-2)) (k31 94) (k31 95)))) (fun k28 => cEq z27 0 (k28 1) (k28 0))) (fun k24 => jn (fun (z26 : Unit) => k24 0) (fun k23 => cLt r22 y3 (bd (f_X8_itemStart a1N a1F y3) (fun r25 => gIn r25 a1N (cEq (a1F r25.toNat) ((-1)) (k24 1) (k23 ())))) (k23 ()))))) (jn (fun (z19 : Int) => bd (f_X8_sayUnless a0_lineSize a0_lineF z19 114) (fun r20 => bd (f_X8_say r20.1 r20.2 40) (fun r21 => k1 (r21.1, r21.2, va_up a0_pileF y2.toNat y3, y2 + 1)))) (fun k18 => cEq (a1F y3.toNat) ((-5)) (k18 1) (k18 0))))))))))) (e9_324 (a0_lineSize, a0_lineF, a0_pileF, y2, y3)))
set_option maxRecDepth 100000 in
theorem l_X8_layLine_9 {D : va_G} {cs : q_CS} {κ : q_X} {a0 a0_text a0_now a0_trial a0_diary a0_kept a0_isKept a0_clip a0_line a0_read a0_opens a0_chains a0_factors a0_plains a0_belows a0_owned a0_wides a0_highs a0_lows a0_itemWides a0_pile a1 : Nat} {a1N : Nat} {a0_refusal a0_textSize a0_acts a0_readSize a0_deep : Int} {a1F : (Nat → Int)} {r : (Int × (Nat → Int) × (Nat → Int))} {e9_324 : Int × (Nat → Int) × (Nat → Int) × Int × Int → Option (Int × (Nat → Int) × (Nat → Int))} (ok : q_ok D cs κ cX8_layLine 7 RX8 (q_rm 4 91)) (fin : ∀ (lv : List (Nat × Value)) (pc : Nat), decode cX8_layLine pc = .ok (.return_, 1) → q_J D κ 7 0 0 [(a0, .inr (8, [.int (iI a0_refusal), .ref a0_text, .int (iI a0_textSize), .ref a0_now, .ref a0_trial, .ref a0_diary, .int (iI a0_acts), .ref a0_kept, .ref a0_isKept, .ref a0_clip, .ref a0_line, .int (iI r.1), .ref a0_read, .int (iI a0_readSize), .ref a0_opens, .ref a0_chains, .ref a0_factors, .ref a0_plains, .ref a0_belows, .ref a0_owned, .int (iI a0_deep), .ref a0_wides, .ref a0_highs, .ref a0_lows, .ref a0_itemWides, .ref a0_pile])), (a0_line, .inl (cs.1, 1024, .inl (aI r.2.1))), (a0_pile, .inl (cs.1, 64, .inl (aI r.2.2))), (a1, .inl (cs.1, a1N, .inl (aI a1F)))] lv pc []) (he9_324 : ∀ x : Int × (Nat → Int) × (Nat → Int) × Int × Int, e9_324 x = some r → q_J D κ 7 0 0 [(a0, .inr (8, [.int (iI a0_refusal), .ref a0_text, .int (iI a0_textSize), .ref a0_now, .ref a0_trial, .ref a0_diary, .int (iI a0_acts), .ref a0_kept, .ref a0_isKept, .ref a0_clip, .ref a0_line, .int (iI x.1), .ref a0_read, .int (iI a0_readSize), .ref a0_opens, .ref a0_chains, .ref a0_factors, .ref a0_plains, .ref a0_belows, .ref a0_owned, .int (iI a0_deep), .ref a0_wides, .ref a0_highs, .ref a0_lows, .ref a0_itemWides, .ref a0_pile])), (a0_line, .inl (cs.1, 1024, .inl (aI x.2.1))), (a0_pile, .inl (cs.1, 64, .inl (aI x.2.2.1))), (a1, .inl (cs.1, a1N, .inl (aI a1F)))] [] 324 []) : ∀ (n : Nat) (a0_lineSize : Int) (a0_lineF : (Nat → Int)) (a0_pileF : (Nat → Int)) (y2 : Int) (y3 : Int), f_X8_layLine_9 a1N a1F e9_324 n a0_lineSize a0_lineF a0_pileF y2 y3 = some r → q_J D κ 7 0 0 [(a0, .inr (8, [.int (iI a0_refusal), .ref a0_text, .int (iI a0_textSize), .ref a0_now, .ref a0_trial, .ref a0_diary, .int (iI a0_acts), .ref a0_kept, .ref a0_isKept, .ref a0_clip, .ref a0_line, .int (iI a0_lineSize), .ref a0_read, .int (iI a0_readSize), .ref a0_opens, .ref a0_chains, .ref a0_factors, .ref a0_plains, .ref a0_belows, .ref a0_owned, .int (iI a0_deep), .ref a0_wides, .ref a0_highs, .ref a0_lows, .ref a0_itemWides, .ref a0_pile])), (a0_line, .inl (cs.1, 1024, .inl (aI a0_lineF))), (a0_pile, .inl (cs.1, 64, .inl (aI a0_pileF))), (a1, .inl (cs.1, a1N, .inl (aI a1F)))] [(0, .ref a0), (1, .ref a1), (2, .int (iI y2)), (3, .int (iI y3))] 9 [] := by
  intro n
  induction n with
  | zero =>
    intro a0_lineSize a0_lineF a0_pileF y2 y3 h
    exact absurd h (by unfold f_X8_layLine_9; exact fun z => by cases z)
  | succ n ih =>
    intro a0_lineSize a0_lineF a0_pileF y2 y3 h
    unfold f_X8_layLine_9 at h
    refine j_iload_n (pc := 9) 3 ok dX8_layLine_9 rfl rfl ?_
    refine j_aload_n (pc := 10) 1 ok dX8_layLine_10 rfl rfl ?_
    refine j_sipush (pc := 11) ok dX8_layLine_11 (by decide) ?_
    refine j_iald (pc := 14) 3 ok rfl dX8_layLine_14 h (fun h => ?_)
    refine j_icmp_ge (pc := 15) 324 ok dX8_layLine_15 (by decide) h (fun h => ?_) (fun h => ?_)
    · refine j_lv [] rfl ?_
      exact he9_324 (a0_lineSize, a0_lineF, a0_pileF, y2, y3) h
    · refine j_aload_n (pc := 18) 1 ok dX8_layLine_18 rfl rfl ?_
      refine j_iload_n (pc := 19) 3 ok dX8_layLine_19 rfl rfl ?_
      refine j_iald (pc := 20) 3 ok rfl dX8_layLine_20 h (fun h => ?_)
      refine j_istore (pc := 21) (lv' := [(4, .int (iI (a1F y3.toNat))), (0, .ref a0), (1, .ref a1), (2, .int (iI y2)), (3, .int (iI y3))]) ok dX8_layLine_21 (by decide) rfl ?_
      refine j_iload (pc := 23) 0 ok dX8_layLine_23 rfl ?_
      refine jn_use (P := fun z39 => q_J D κ 7 0 0 [(a0, .inr (8, [.int (iI a0_refusal), .ref a0_text, .int (iI a0_textSize), .ref a0_now, .ref a0_trial, .ref a0_diary, .int (iI a0_acts), .ref a0_kept, .ref a0_isKept, .ref a0_clip, .ref a0_line, .int (iI z39.1), .ref a0_read, .int (iI a0_readSize), .ref a0_opens, .ref a0_chains, .ref a0_factors, .ref a0_plains, .ref a0_belows, .ref a0_owned, .int (iI a0_deep), .ref a0_wides, .ref a0_highs, .ref a0_lows, .ref a0_itemWides, .ref a0_pile])), (a0_line, .inl (cs.1, 1024, .inl (aI z39.2.1))), (a0_pile, .inl (cs.1, 64, .inl (aI z39.2.2.1))), (a1, .inl (cs.1, a1N, .inl (aI a1F)))] [(0, .ref a0), (1, .ref a1), (2, .int (iI z39.2.2.2)), (3, .int (iI y3))] 318 []) h (fun z39 h => ?_) (fun k1 hk1 h => ?_)
      · refine j_iinc (pc := 318) (lv' := [(3, .int (iI (y3 + 1))), (0, .ref a0), (1, .ref a1), (2, .int (iI z39.2.2.2))]) 3 ok dX8_layLine_318 rfl (by decide) rfl ?_
        refine j_goto (pc := 321) 9 ok dX8_layLine_321 (by decide) ?_
        refine j_lv [1, 2, 3, 0] rfl ?_
        exact ih _ _ _ _ _ h
      · refine j_if_le (pc := 25) 37 ok dX8_layLine_25 (by decide) h (fun h => ?_) (fun h => ?_)
        · refine j_iload (pc := 37) 0 ok dX8_layLine_37 rfl ?_
          obtain ⟨r2, hr2, h⟩ := bd_inv h
          refine j_callS (pc := 39) ok (k_X8_isBegin (x0 := a1F y3.toNat) hr2) gS_X8_97 hd_X8_isBegin [] (by decide) rfl rfl rfl rfl ⟨Nat.zero_le _, Nat.zero_le _⟩ (Nat.le_of_ble_eq_true rfl) dX8_layLine_39 rfl [(a0, .inr (8, [.int (iI a0_refusal), .ref a0_text, .int (iI a0_textSize), .ref a0_now, .ref a0_trial, .ref a0_diary, .int (iI a0_acts), .ref a0_kept, .ref a0_isKept, .ref a0_clip, .ref a0_line, .int (iI a0_lineSize), .ref a0_read, .int (iI a0_readSize), .ref a0_opens, .ref a0_chains, .ref a0_factors, .ref a0_plains, .ref a0_belows, .ref a0_owned, .int (iI a0_deep), .ref a0_wides, .ref a0_highs, .ref a0_lows, .ref a0_itemWides, .ref a0_pile])), (a0_line, .inl (cs.1, 1024, .inl (aI a0_lineF))), (a0_pile, .inl (cs.1, 64, .inl (aI a0_pileF))), (a1, .inl (cs.1, a1N, .inl (aI a1F)))] rfl ?_
          refine j_if_eq (pc := 42) 190 ok dX8_layLine_42 (by decide) h (fun h => ?_) (fun h => ?_)
          · refine j_iload (pc := 190) 0 ok dX8_layLine_190 rfl ?_
            refine j_bipush (pc := 192) ok dX8_layLine_192 (by decide) ?_
            refine j_icmp_ne (pc := 194) 241 ok dX8_layLine_194 (by decide) h (fun h => ?_) (fun h => ?_)
            · refine j_iinc (pc := 241) (lv' := [(2, .int (iI (y2 + (-1)))), (4, .int (iI (a1F y3.toNat))), (0, .ref a0), (1, .ref a1), (3, .int (iI y3))]) 3 ok dX8_layLine_241 rfl (by decide) rfl ?_
              refine j_aload_n (pc := 244) 3 ok dX8_layLine_244 rfl rfl ?_
              refine j_aload_n (pc := 245) 2 ok dX8_layLine_245 rfl rfl ?_
              refine gf_X8_68_8 (pc := 246) 0 ok rfl dX8_layLine_246 ?_
              refine j_iload_n (pc := 249) 0 ok dX8_layLine_249 rfl rfl ?_
              refine j_iald (pc := 250) 2 ok rfl dX8_layLine_250 h (fun h => ?_)
              refine j_iald (pc := 251) 3 ok rfl dX8_layLine_251 h (fun h => ?_)
              refine j_istore (pc := 252) (lv' := [(5, .int (iI (a1F (a0_pileF (y2 + (-1)).toNat).toNat))), (2, .int (iI (y2 + (-1)))), (4, .int (iI (a1F y3.toNat))), (0, .ref a0), (1, .ref a1), (3, .int (iI y3))]) ok dX8_layLine_252 (by decide) rfl ?_
              refine j_iload (pc := 254) 0 ok dX8_layLine_254 rfl ?_
              refine j_iconst (pc := 256) ok dX8_layLine_256 ?_
              refine jn_use (P := fun z11 => q_J D κ 7 0 0 [(a0, .inr (8, [.int (iI a0_refusal), .ref a0_text, .int (iI a0_textSize), .ref a0_now, .ref a0_trial, .ref a0_diary, .int (iI a0_acts), .ref a0_kept, .ref a0_isKept, .ref a0_clip, .ref a0_line, .int (iI a0_lineSize), .ref a0_read, .int (iI a0_readSize), .ref a0_opens, .ref a0_chains, .ref a0_factors, .ref a0_plains, .ref a0_belows, .ref a0_owned, .int (iI a0_deep), .ref a0_wides, .ref a0_highs, .ref a0_lows, .ref a0_itemWides, .ref a0_pile])), (a0_line, .inl (cs.1, 1024, .inl (aI a0_lineF))), (a0_pile, .inl (cs.1, 64, .inl (aI a0_pileF))), (a1, .inl (cs.1, a1N, .inl (aI a1F)))] [(0, .ref a0), (1, .ref a1), (2, .int (iI (y2 + (-1)))), (3, .int (iI y3))] 308 [.int (iI z11)]) h (fun z11 h => ?_) (fun k3 hk3 h => ?_)
              · refine j_istore (pc := 308) (lv' := [(6, .int (iI z11)), (0, .ref a0), (1, .ref a1), (2, .int (iI (y2 + (-1)))), (3, .int (iI y3))]) ok dX8_layLine_308 (by decide) rfl ?_
                refine j_aload_n (pc := 310) 1 ok dX8_layLine_310 rfl rfl ?_
                refine j_iload (pc := 311) 0 ok dX8_layLine_311 rfl ?_
                refine j_bipush (pc := 313) ok dX8_layLine_313 (by decide) ?_
                obtain ⟨r12, hr12, h⟩ := bd_inv h
                refine j_callV (pc := 315) ok (k_X8_sayUnless (a0 := a0) (a0_text := a0_text) (a0_now := a0_now) (a0_trial := a0_trial) (a0_diary := a0_diary) (a0_kept := a0_kept) (a0_isKept := a0_isKept) (a0_clip := a0_clip) (a0_line := a0_line) (a0_read := a0_read) (a0_opens := a0_opens) (a0_chains := a0_chains) (a0_factors := a0_factors) (a0_plains := a0_plains) (a0_belows := a0_belows) (a0_owned := a0_owned) (a0_wides := a0_wides) (a0_highs := a0_highs) (a0_lows := a0_lows) (a0_itemWides := a0_itemWides) (a0_pile := a0_pile) (a0_refusal := a0_refusal) (a0_textSize := a0_textSize) (a0_acts := a0_acts) (a0_lineSize := a0_lineSize) (a0_readSize := a0_readSize) (a0_deep := a0_deep) (a0_lineF := a0_lineF) (x1 := z11) (x2 := 41) hr12) gV_X8_203 ⟨rfl, hd_X8_sayUnless⟩ [0, 1] (by decide) rfl rfl 0 rfl rfl rfl rfl ⟨Nat.zero_le _, Nat.zero_le _⟩ (Nat.le_of_ble_eq_true rfl) dX8_layLine_315 rfl [(a0, .inr (8, [.int (iI a0_refusal), .ref a0_text, .int (iI a0_textSize), .ref a0_now, .ref a0_trial, .ref a0_diary, .int (iI a0_acts), .ref a0_kept, .ref a0_isKept, .ref a0_clip, .ref a0_line, .int (iI r12.1), .ref a0_read, .int (iI a0_readSize), .ref a0_opens, .ref a0_chains, .ref a0_factors, .ref a0_plains, .ref a0_belows, .ref a0_owned, .int (iI a0_deep), .ref a0_wides, .ref a0_highs, .ref a0_lows, .ref a0_itemWides, .ref a0_pile])), (a0_line, .inl (cs.1, 1024, .inl (aI r12.2))), (a0_pile, .inl (cs.1, 64, .inl (aI a0_pileF))), (a1, .inl (cs.1, a1N, .inl (aI a1F)))] rfl ?_
                refine j_lv [1, 2, 3, 4] rfl ?_
                exact hk1 (r12.1, r12.2, a0_pileF, y2 + (-1)) h
              · refine j_icmp_ne (pc := 257) 273 ok dX8_layLine_257 (by decide) h (fun h => ?_) (fun h => ?_)
                · refine j_iload (pc := 273) 0 ok dX8_layLine_273 rfl ?_
                  refine j_bipush (pc := 275) ok dX8_layLine_275 (by decide) ?_
                  refine jn_use (P := fun z8 => q_J D κ 7 0 0 [(a0, .inr (8, [.int (iI a0_refusal), .ref a0_text, .int (iI a0_textSize), .ref a0_now, .ref a0_trial, .ref a0_diary, .int (iI a0_acts), .ref a0_kept, .ref a0_isKept, .ref a0_clip, .ref a0_line, .int (iI a0_lineSize), .ref a0_read, .int (iI a0_readSize), .ref a0_opens, .ref a0_chains, .ref a0_factors, .ref a0_plains, .ref a0_belows, .ref a0_owned, .int (iI a0_deep), .ref a0_wides, .ref a0_highs, .ref a0_lows, .ref a0_itemWides, .ref a0_pile])), (a0_line, .inl (cs.1, 1024, .inl (aI a0_lineF))), (a0_pile, .inl (cs.1, 64, .inl (aI a0_pileF))), (a1, .inl (cs.1, a1N, .inl (aI a1F)))] [(0, .ref a0), (1, .ref a1), (2, .int (iI (y2 + (-1)))), (3, .int (iI y3))] 307 []) h (fun z8 h => ?_) (fun k5 hk5 h => ?_)
                  · refine j_iconst (pc := 307) ok dX8_layLine_307 ?_
                    exact hk3 0 h
                  · refine jn_use (P := fun z6 => q_J D κ 7 0 0 [(a0, .inr (8, [.int (iI a0_refusal), .ref a0_text, .int (iI a0_textSize), .ref a0_now, .ref a0_trial, .ref a0_diary, .int (iI a0_acts), .ref a0_kept, .ref a0_isKept, .ref a0_clip, .ref a0_line, .int (iI a0_lineSize), .ref a0_read, .int (iI a0_readSize), .ref a0_opens, .ref a0_chains, .ref a0_factors, .ref a0_plains, .ref a0_belows, .ref a0_owned, .int (iI a0_deep), .ref a0_wides, .ref a0_highs, .ref a0_lows, .ref a0_itemWides, .ref a0_pile])), (a0_line, .inl (cs.1, 1024, .inl (aI a0_lineF))), (a0_pile, .inl (cs.1, 64, .inl (aI a0_pileF))), (a1, .inl (cs.1, a1N, .inl (aI a1F)))] [(0, .ref a0), (1, .ref a1), (2, .int (iI (y2 + (-1)))), (3, .int (iI y3))] 287 []) h (fun z6 h => ?_) (fun k4 hk4 h => ?_)
                    · refine j_aload_n (pc := 287) 1 ok dX8_layLine_287 rfl rfl ?_
                      refine j_aload_n (pc := 288) 0 ok dX8_layLine_288 rfl rfl ?_
                      refine gf_X8_68_8 (pc := 289) 0 ok rfl dX8_layLine_289 ?_
                      refine j_iload_n (pc := 292) 2 ok dX8_layLine_292 rfl rfl ?_
                      refine j_iald (pc := 293) 2 ok rfl dX8_layLine_293 h (fun h => ?_)
                      refine j_iconst (pc := 294) ok dX8_layLine_294 ?_
                      refine j_iadd (pc := 295) ok dX8_layLine_295 ?_
                      refine j_iconst (pc := 296) ok dX8_layLine_296 ?_
                      obtain ⟨r7, hr7, h⟩ := bd_inv h
                      refine j_callS (pc := 297) ok (k_X8_isShort (a0 := a1) (a0N := a1N) (a0F := a1F) (x1 := (a0_pileF (y2 + (-1)).toNat) + 1) (x2 := 0) hr7) gS_X8_199 hd_X8_isShort [3] (by decide) rfl rfl rfl rfl ⟨Nat.zero_le _, Nat.zero_le _⟩ (Nat.le_of_ble_eq_true rfl) dX8_layLine_297 rfl [(a0, .inr (8, [.int (iI a0_refusal), .ref a0_text, .int (iI a0_textSize), .ref a0_now, .ref a0_trial, .ref a0_diary, .int (iI a0_acts), .ref a0_kept, .ref a0_isKept, .ref a0_clip, .ref a0_line, .int (iI a0_lineSize), .ref a0_read, .int (iI a0_readSize), .ref a0_opens, .ref a0_chains, .ref a0_factors, .ref a0_plains, .ref a0_belows, .ref a0_owned, .int (iI a0_deep), .ref a0_wides, .ref a0_highs, .ref a0_lows, .ref a0_itemWides, .ref a0_pile])), (a0_line, .inl (cs.1, 1024, .inl (aI a0_lineF))), (a0_pile, .inl (cs.1, 64, .inl (aI a0_pileF))), (a1, .inl (cs.1, a1N, .inl (aI a1F)))] rfl ?_
                      refine j_if_eq (pc := 300) 307 ok dX8_layLine_300 (by decide) h (fun h => ?_) (fun h => ?_)
                      · exact hk5 () h
                      · refine j_iconst (pc := 303) ok dX8_layLine_303 ?_
                        refine j_goto (pc := 304) 308 ok dX8_layLine_304 (by decide) ?_
                        exact hk3 1 h
                    · refine j_icmp_eq (pc := 277) 287 ok dX8_layLine_277 (by decide) h (fun h => ?_) (fun h => ?_)
                      · refine j_lv [3, 4, 1, 5] rfl ?_
                        exact hk4 () h
                      · refine j_iload (pc := 280) 0 ok dX8_layLine_280 rfl ?_
                        refine j_bipush (pc := 282) ok dX8_layLine_282 (by decide) ?_
                        refine j_icmp_ne (pc := 284) 307 ok dX8_layLine_284 (by decide) h (fun h => ?_) (fun h => ?_)
                        · refine j_lv [3, 4, 1, 5] rfl ?_
                          exact hk5 () h
                        · refine j_lv [3, 4, 1, 5] rfl ?_
                          exact hk4 () h
                · refine j_aload_n (pc := 260) 4 ok dX8_layLine_260 rfl rfl ?_
                  refine j_aload_n (pc := 261) 4 ok dX8_layLine_261 rfl rfl ?_
                  refine j_iload_n (pc := 262) 5 ok dX8_layLine_262 rfl rfl ?_
                  obtain ⟨r9, hr9, h⟩ := bd_inv h
                  refine j_callS (pc := 263) ok (k_X8_rowStart (a0 := a1) (a0N := a1N) (a0F := a1F) (x1 := y3) hr9) gS_X8_136 hd_X8_rowStart [3] (by decide) rfl rfl rfl rfl ⟨Nat.zero_le _, Nat.zero_le _⟩ (Nat.le_of_ble_eq_true rfl) dX8_layLine_263 rfl [(a0, .inr (8, [.int (iI a0_refusal), .ref a0_text, .int (iI a0_textSize), .ref a0_now, .ref a0_trial, .ref a0_diary, .int (iI a0_acts), .ref a0_kept, .ref a0_isKept, .ref a0_clip, .ref a0_line, .int (iI a0_lineSize), .ref a0_read, .int (iI a0_readSize), .ref a0_opens, .ref a0_chains, .ref a0_factors, .ref a0_plains, .ref a0_belows, .ref a0_owned, .int (iI a0_deep), .ref a0_wides, .ref a0_highs, .ref a0_lows, .ref a0_itemWides, .ref a0_pile])), (a0_line, .inl (cs.1, 1024, .inl (aI a0_lineF))), (a0_pile, .inl (cs.1, 64, .inl (aI a0_pileF))), (a1, .inl (cs.1, a1N, .inl (aI a1F)))] rfl ?_
                  refine j_iconst (pc := 266) ok dX8_layLine_266 ?_
                  obtain ⟨r10, hr10, h⟩ := bd_inv h
                  refine j_callS (pc := 267) ok (k_X8_isShort (a0 := a1) (a0N := a1N) (a0F := a1F) (x1 := r9) (x2 := 1) hr10) gS_X8_199 hd_X8_isShort [3] (by decide) rfl rfl rfl rfl ⟨Nat.zero_le _, Nat.zero_le _⟩ (Nat.le_of_ble_eq_true rfl) dX8_layLine_267 rfl [(a0, .inr (8, [.int (iI a0_refusal), .ref a0_text, .int (iI a0_textSize), .ref a0_now, .ref a0_trial, .ref a0_diary, .int (iI a0_acts), .ref a0_kept, .ref a0_isKept, .ref a0_clip, .ref a0_line, .int (iI a0_lineSize), .ref a0_read, .int (iI a0_readSize), .ref a0_opens, .ref a0_chains, .ref a0_factors, .ref a0_plains, .ref a0_belows, .ref a0_owned, .int (iI a0_deep), .ref a0_wides, .ref a0_highs, .ref a0_lows, .ref a0_itemWides, .ref a0_pile])), (a0_line, .inl (cs.1, 1024, .inl (aI a0_lineF))), (a0_pile, .inl (cs.1, 64, .inl (aI a0_pileF))), (a1, .inl (cs.1, a1N, .inl (aI a1F)))] rfl ?_
                  refine j_goto (pc := 270) 308 ok dX8_layLine_270 (by decide) ?_
                  refine j_lv [3, 4, 1, 5] rfl ?_
                  exact hk3 r10 h
            · refine j_aload_n (pc := 197) 1 ok dX8_layLine_197 rfl rfl ?_
              refine j_aload_n (pc := 198) 2 ok dX8_layLine_198 rfl rfl ?_
              refine j_aload_n (pc := 199) 1 ok dX8_layLine_199 rfl rfl ?_
              refine gf_X8_68_8 (pc := 200) 0 ok rfl dX8_layLine_200 ?_
              refine j_iload_n (pc := 203) 3 ok dX8_layLine_203 rfl rfl ?_
              refine j_iconst (pc := 204) ok dX8_layLine_204 ?_
              refine j_isub (pc := 205) ok dX8_layLine_205 ?_
              refine j_iald (pc := 206) 2 ok rfl dX8_layLine_206 h (fun h => ?_)
              refine j_iconst (pc := 207) ok dX8_layLine_207 ?_
              refine j_iadd (pc := 208) ok dX8_layLine_208 ?_
              refine j_iconst (pc := 209) ok dX8_layLine_209 ?_
              obtain ⟨r13, hr13, h⟩ := bd_inv h
              refine j_callS (pc := 210) ok (k_X8_isShort (a0 := a1) (a0N := a1N) (a0F := a1F) (x1 := (a0_pileF (y2 - 1).toNat) + 1) (x2 := 1) hr13) gS_X8_199 hd_X8_isShort [3] (by decide) rfl rfl rfl rfl ⟨Nat.zero_le _, Nat.zero_le _⟩ (Nat.le_of_ble_eq_true rfl) dX8_layLine_210 rfl [(a0, .inr (8, [.int (iI a0_refusal), .ref a0_text, .int (iI a0_textSize), .ref a0_now, .ref a0_trial, .ref a0_diary, .int (iI a0_acts), .ref a0_kept, .ref a0_isKept, .ref a0_clip, .ref a0_line, .int (iI a0_lineSize), .ref a0_read, .int (iI a0_readSize), .ref a0_opens, .ref a0_chains, .ref a0_factors, .ref a0_plains, .ref a0_belows, .ref a0_owned, .int (iI a0_deep), .ref a0_wides, .ref a0_highs, .ref a0_lows, .ref a0_itemWides, .ref a0_pile])), (a0_line, .inl (cs.1, 1024, .inl (aI a0_lineF))), (a0_pile, .inl (cs.1, 64, .inl (aI a0_pileF))), (a1, .inl (cs.1, a1N, .inl (aI a1F)))] rfl ?_
              refine j_bipush (pc := 213) ok dX8_layLine_213 (by decide) ?_
              obtain ⟨r14, hr14, h⟩ := bd_inv h
              refine j_callV (pc := 215) ok (k_X8_sayUnless (a0 := a0) (a0_text := a0_text) (a0_now := a0_now) (a0_trial := a0_trial) (a0_diary := a0_diary) (a0_kept := a0_kept) (a0_isKept := a0_isKept) (a0_clip := a0_clip) (a0_line := a0_line) (a0_read := a0_read) (a0_opens := a0_opens) (a0_chains := a0_chains) (a0_factors := a0_factors) (a0_plains := a0_plains) (a0_belows := a0_belows) (a0_owned := a0_owned) (a0_wides := a0_wides) (a0_highs := a0_highs) (a0_lows := a0_lows) (a0_itemWides := a0_itemWides) (a0_pile := a0_pile) (a0_refusal := a0_refusal) (a0_textSize := a0_textSize) (a0_acts := a0_acts) (a0_lineSize := a0_lineSize) (a0_readSize := a0_readSize) (a0_deep := a0_deep) (a0_lineF := a0_lineF) (x1 := r13) (x2 := 41) hr14) gV_X8_203 ⟨rfl, hd_X8_sayUnless⟩ [0, 1] (by decide) rfl rfl 0 rfl rfl rfl rfl ⟨Nat.zero_le _, Nat.zero_le _⟩ (Nat.le_of_ble_eq_true rfl) dX8_layLine_215 rfl [(a0, .inr (8, [.int (iI a0_refusal), .ref a0_text, .int (iI a0_textSize), .ref a0_now, .ref a0_trial, .ref a0_diary, .int (iI a0_acts), .ref a0_kept, .ref a0_isKept, .ref a0_clip, .ref a0_line, .int (iI r14.1), .ref a0_read, .int (iI a0_readSize), .ref a0_opens, .ref a0_chains, .ref a0_factors, .ref a0_plains, .ref a0_belows, .ref a0_owned, .int (iI a0_deep), .ref a0_wides, .ref a0_highs, .ref a0_lows, .ref a0_itemWides, .ref a0_pile])), (a0_line, .inl (cs.1, 1024, .inl (aI r14.2))), (a0_pile, .inl (cs.1, 64, .inl (aI a0_pileF))), (a1, .inl (cs.1, a1N, .inl (aI a1F)))] rfl ?_
              refine j_aload_n (pc := 218) 1 ok dX8_layLine_218 rfl rfl ?_
              refine j_bipush (pc := 219) ok dX8_layLine_219 (by decide) ?_
              obtain ⟨r15, hr15, h⟩ := bd_inv h
              refine j_callV (pc := 221) ok (k_X8_say (a0 := a0) (a0_text := a0_text) (a0_now := a0_now) (a0_trial := a0_trial) (a0_diary := a0_diary) (a0_kept := a0_kept) (a0_isKept := a0_isKept) (a0_clip := a0_clip) (a0_line := a0_line) (a0_read := a0_read) (a0_opens := a0_opens) (a0_chains := a0_chains) (a0_factors := a0_factors) (a0_plains := a0_plains) (a0_belows := a0_belows) (a0_owned := a0_owned) (a0_wides := a0_wides) (a0_highs := a0_highs) (a0_lows := a0_lows) (a0_itemWides := a0_itemWides) (a0_pile := a0_pile) (a0_refusal := a0_refusal) (a0_textSize := a0_textSize) (a0_acts := a0_acts) (a0_lineSize := r14.1) (a0_readSize := a0_readSize) (a0_deep := a0_deep) (a0_lineF := r14.2) (x1 := 47) hr15) gV_X8_196 ⟨rfl, hd_X8_say⟩ [0, 1] (by decide) rfl rfl 0 rfl rfl rfl rfl ⟨Nat.zero_le _, Nat.zero_le _⟩ (Nat.le_of_ble_eq_true rfl) dX8_layLine_221 rfl [(a0, .inr (8, [.int (iI a0_refusal), .ref a0_text, .int (iI a0_textSize), .ref a0_now, .ref a0_trial, .ref a0_diary, .int (iI a0_acts), .ref a0_kept, .ref a0_isKept, .ref a0_clip, .ref a0_line, .int (iI r15.1), .ref a0_read, .int (iI a0_readSize), .ref a0_opens, .ref a0_chains, .ref a0_factors, .ref a0_plains, .ref a0_belows, .ref a0_owned, .int (iI a0_deep), .ref a0_wides, .ref a0_highs, .ref a0_lows, .ref a0_itemWides, .ref a0_pile])), (a0_line, .inl (cs.1, 1024, .inl (aI r15.2))), (a0_pile, .inl (cs.1, 64, .inl (aI a0_pileF))), (a1, .inl (cs.1, a1N, .inl (aI a1F)))] rfl ?_
              refine j_aload_n (pc := 224) 1 ok dX8_layLine_224 rfl rfl ?_
              refine j_aload_n (pc := 225) 2 ok dX8_layLine_225 rfl rfl ?_
              refine j_iload_n (pc := 226) 4 ok dX8_layLine_226 rfl rfl ?_
              refine j_iconst (pc := 227) ok dX8_layLine_227 ?_
              refine j_iadd (pc := 228) ok dX8_layLine_228 ?_
              refine j_iconst (pc := 229) ok dX8_layLine_229 ?_
              obtain ⟨r16, hr16, h⟩ := bd_inv h
              refine j_callS (pc := 230) ok (k_X8_isShort (a0 := a1) (a0N := a1N) (a0F := a1F) (x1 := y3 + 1) (x2 := 1) hr16) gS_X8_199 hd_X8_isShort [3] (by decide) rfl rfl rfl rfl ⟨Nat.zero_le _, Nat.zero_le _⟩ (Nat.le_of_ble_eq_true rfl) dX8_layLine_230 rfl [(a0, .inr (8, [.int (iI a0_refusal), .ref a0_text, .int (iI a0_textSize), .ref a0_now, .ref a0_trial, .ref a0_diary, .int (iI a0_acts), .ref a0_kept, .ref a0_isKept, .ref a0_clip, .ref a0_line, .int (iI r15.1), .ref a0_read, .int (iI a0_readSize), .ref a0_opens, .ref a0_chains, .ref a0_factors, .ref a0_plains, .ref a0_belows, .ref a0_owned, .int (iI a0_deep), .ref a0_wides, .ref a0_highs, .ref a0_lows, .ref a0_itemWides, .ref a0_pile])), (a0_line, .inl (cs.1, 1024, .inl (aI r15.2))), (a0_pile, .inl (cs.1, 64, .inl (aI a0_pileF))), (a1, .inl (cs.1, a1N, .inl (aI a1F)))] rfl ?_
              refine j_bipush (pc := 233) ok dX8_layLine_233 (by decide) ?_
              obtain ⟨r17, hr17, h⟩ := bd_inv h
              refine j_callV (pc := 235) ok (k_X8_sayUnless (a0 := a0) (a0_text := a0_text) (a0_now := a0_now) (a0_trial := a0_trial) (a0_diary := a0_diary) (a0_kept := a0_kept) (a0_isKept := a0_isKept) (a0_clip := a0_clip) (a0_line := a0_line) (a0_read := a0_read) (a0_opens := a0_opens) (a0_chains := a0_chains) (a0_factors := a0_factors) (a0_plains := a0_plains) (a0_belows := a0_belows) (a0_owned := a0_owned) (a0_wides := a0_wides) (a0_highs := a0_highs) (a0_lows := a0_lows) (a0_itemWides := a0_itemWides) (a0_pile := a0_pile) (a0_refusal := a0_refusal) (a0_textSize := a0_textSize) (a0_acts := a0_acts) (a0_lineSize := r15.1) (a0_readSize := a0_readSize) (a0_deep := a0_deep) (a0_lineF := r15.2) (x1 := r16) (x2 := 40) hr17) gV_X8_203 ⟨rfl, hd_X8_sayUnless⟩ [0, 1] (by decide) rfl rfl 0 rfl rfl rfl rfl ⟨Nat.zero_le _, Nat.zero_le _⟩ (Nat.le_of_ble_eq_true rfl) dX8_layLine_235 rfl [(a0, .inr (8, [.int (iI a0_refusal), .ref a0_text, .int (iI a0_textSize), .ref a0_now, .ref a0_trial, .ref a0_diary, .int (iI a0_acts), .ref a0_kept, .ref a0_isKept, .ref a0_clip, .ref a0_line, .int (iI r17.1), .ref a0_read, .int (iI a0_readSize), .ref a0_opens, .ref a0_chains, .ref a0_factors, .ref a0_plains, .ref a0_belows, .ref a0_owned, .int (iI a0_deep), .ref a0_wides, .ref a0_highs, .ref a0_lows, .ref a0_itemWides, .ref a0_pile])), (a0_line, .inl (cs.1, 1024, .inl (aI r17.2))), (a0_pile, .inl (cs.1, 64, .inl (aI a0_pileF))), (a1, .inl (cs.1, a1N, .inl (aI a1F)))] rfl ?_
              refine j_goto (pc := 238) 318 ok dX8_layLine_238 (by decide) ?_
              refine j_lv [1, 2, 3, 4] rfl ?_
              exact hk1 (r17.1, r17.2, a0_pileF, y2) h
          · refine j_aload_n (pc := 45) 1 ok dX8_layLine_45 rfl rfl ?_
            refine gf_X8_68_8 (pc := 46) 0 ok rfl dX8_layLine_46 ?_
            refine j_iload_n (pc := 49) 3 ok dX8_layLine_49 rfl rfl ?_
            refine j_iload_n (pc := 50) 4 ok dX8_layLine_50 rfl rfl ?_
            refine j_iastw (pc := 51) 2 ok rfl dX8_layLine_51 h [(a0, .inr (8, [.int (iI a0_refusal), .ref a0_text, .int (iI a0_textSize), .ref a0_now, .ref a0_trial, .ref a0_diary, .int (iI a0_acts), .ref a0_kept, .ref a0_isKept, .ref a0_clip, .ref a0_line, .int (iI a0_lineSize), .ref a0_read, .int (iI a0_readSize), .ref a0_opens, .ref a0_chains, .ref a0_factors, .ref a0_plains, .ref a0_belows, .ref a0_owned, .int (iI a0_deep), .ref a0_wides, .ref a0_highs, .ref a0_lows, .ref a0_itemWides, .ref a0_pile])), (a0_line, .inl (cs.1, 1024, .inl (aI a0_lineF))), (a0_pile, .inl (cs.1, 64, .inl (aI (va_up a0_pileF y2.toNat y3)))), (a1, .inl (cs.1, a1N, .inl (aI a1F)))] rfl (fun h => ?_)
            refine j_iinc (pc := 52) (lv' := [(2, .int (iI (y2 + 1))), (4, .int (iI (a1F y3.toNat))), (0, .ref a0), (1, .ref a1), (3, .int (iI y3))]) 3 ok dX8_layLine_52 rfl (by decide) rfl ?_
            refine j_iload (pc := 55) 1 ok dX8_layLine_55 rfl ?_
            refine j_iconst (pc := 57) ok dX8_layLine_57 ?_
            refine j_icmp_ne (pc := 58) 78 ok dX8_layLine_58 (by decide) h (fun h => ?_) (fun h => ?_)
            · refine j_iload (pc := 78) 1 ok dX8_layLine_78 rfl ?_
              refine j_bipush (pc := 80) ok dX8_layLine_80 (by decide) ?_
              refine j_icmp_le (pc := 82) 163 ok dX8_layLine_82 (by decide) h (fun h => ?_) (fun h => ?_)
              · refine j_aload_n (pc := 163) 2 ok dX8_layLine_163 rfl rfl ?_
                refine j_iload (pc := 164) 1 ok dX8_layLine_164 rfl ?_
                refine j_bipush (pc := 166) ok dX8_layLine_166 (by decide) ?_
                refine jn_use (P := fun z19 => q_J D κ 7 0 0 [(a0, .inr (8, [.int (iI a0_refusal), .ref a0_text, .int (iI a0_textSize), .ref a0_now, .ref a0_trial, .ref a0_diary, .int (iI a0_acts), .ref a0_kept, .ref a0_isKept, .ref a0_clip, .ref a0_line, .int (iI a0_lineSize), .ref a0_read, .int (iI a0_readSize), .ref a0_opens, .ref a0_chains, .ref a0_factors, .ref a0_plains, .ref a0_belows, .ref a0_owned, .int (iI a0_deep), .ref a0_wides, .ref a0_highs, .ref a0_lows, .ref a0_itemWides, .ref a0_pile])), (a0_line, .inl (cs.1, 1024, .inl (aI a0_lineF))), (a0_pile, .inl (cs.1, 64, .inl (aI (va_up a0_pileF y2.toNat y3)))), (a1, .inl (cs.1, a1N, .inl (aI a1F)))] [(0, .ref a0), (1, .ref a1), (2, .int (iI (y2 + 1))), (3, .int (iI y3))] 176 [.int (iI z19), .ref a0]) h (fun z19 h => ?_) (fun k18 hk18 h => ?_)
                · refine j_bipush (pc := 176) ok dX8_layLine_176 (by decide) ?_
                  obtain ⟨r20, hr20, h⟩ := bd_inv h
                  refine j_callV (pc := 178) ok (k_X8_sayUnless (a0 := a0) (a0_text := a0_text) (a0_now := a0_now) (a0_trial := a0_trial) (a0_diary := a0_diary) (a0_kept := a0_kept) (a0_isKept := a0_isKept) (a0_clip := a0_clip) (a0_line := a0_line) (a0_read := a0_read) (a0_opens := a0_opens) (a0_chains := a0_chains) (a0_factors := a0_factors) (a0_plains := a0_plains) (a0_belows := a0_belows) (a0_owned := a0_owned) (a0_wides := a0_wides) (a0_highs := a0_highs) (a0_lows := a0_lows) (a0_itemWides := a0_itemWides) (a0_pile := a0_pile) (a0_refusal := a0_refusal) (a0_textSize := a0_textSize) (a0_acts := a0_acts) (a0_lineSize := a0_lineSize) (a0_readSize := a0_readSize) (a0_deep := a0_deep) (a0_lineF := a0_lineF) (x1 := z19) (x2 := 114) hr20) gV_X8_203 ⟨rfl, hd_X8_sayUnless⟩ [0, 1] (by decide) rfl rfl 0 rfl rfl rfl rfl ⟨Nat.zero_le _, Nat.zero_le _⟩ (Nat.le_of_ble_eq_true rfl) dX8_layLine_178 rfl [(a0, .inr (8, [.int (iI a0_refusal), .ref a0_text, .int (iI a0_textSize), .ref a0_now, .ref a0_trial, .ref a0_diary, .int (iI a0_acts), .ref a0_kept, .ref a0_isKept, .ref a0_clip, .ref a0_line, .int (iI r20.1), .ref a0_read, .int (iI a0_readSize), .ref a0_opens, .ref a0_chains, .ref a0_factors, .ref a0_plains, .ref a0_belows, .ref a0_owned, .int (iI a0_deep), .ref a0_wides, .ref a0_highs, .ref a0_lows, .ref a0_itemWides, .ref a0_pile])), (a0_line, .inl (cs.1, 1024, .inl (aI r20.2))), (a0_pile, .inl (cs.1, 64, .inl (aI (va_up a0_pileF y2.toNat y3)))), (a1, .inl (cs.1, a1N, .inl (aI a1F)))] rfl ?_
                  refine j_aload_n (pc := 181) 0 ok dX8_layLine_181 rfl rfl ?_
                  refine j_bipush (pc := 182) ok dX8_layLine_182 (by decide) ?_
                  obtain ⟨r21, hr21, h⟩ := bd_inv h
                  refine j_callV (pc := 184) ok (k_X8_say (a0 := a0) (a0_text := a0_text) (a0_now := a0_now) (a0_trial := a0_trial) (a0_diary := a0_diary) (a0_kept := a0_kept) (a0_isKept := a0_isKept) (a0_clip := a0_clip) (a0_line := a0_line) (a0_read := a0_read) (a0_opens := a0_opens) (a0_chains := a0_chains) (a0_factors := a0_factors) (a0_plains := a0_plains) (a0_belows := a0_belows) (a0_owned := a0_owned) (a0_wides := a0_wides) (a0_highs := a0_highs) (a0_lows := a0_lows) (a0_itemWides := a0_itemWides) (a0_pile := a0_pile) (a0_refusal := a0_refusal) (a0_textSize := a0_textSize) (a0_acts := a0_acts) (a0_lineSize := r20.1) (a0_readSize := a0_readSize) (a0_deep := a0_deep) (a0_lineF := r20.2) (x1 := 40) hr21) gV_X8_196 ⟨rfl, hd_X8_say⟩ [0, 1] (by decide) rfl rfl 0 rfl rfl rfl rfl ⟨Nat.zero_le _, Nat.zero_le _⟩ (Nat.le_of_ble_eq_true rfl) dX8_layLine_184 rfl [(a0, .inr (8, [.int (iI a0_refusal), .ref a0_text, .int (iI a0_textSize), .ref a0_now, .ref a0_trial, .ref a0_diary, .int (iI a0_acts), .ref a0_kept, .ref a0_isKept, .ref a0_clip, .ref a0_line, .int (iI r21.1), .ref a0_read, .int (iI a0_readSize), .ref a0_opens, .ref a0_chains, .ref a0_factors, .ref a0_plains, .ref a0_belows, .ref a0_owned, .int (iI a0_deep), .ref a0_wides, .ref a0_highs, .ref a0_lows, .ref a0_itemWides, .ref a0_pile])), (a0_line, .inl (cs.1, 1024, .inl (aI r21.2))), (a0_pile, .inl (cs.1, 64, .inl (aI (va_up a0_pileF y2.toNat y3)))), (a1, .inl (cs.1, a1N, .inl (aI a1F)))] rfl ?_
                  refine j_goto (pc := 187) 318 ok dX8_layLine_187 (by decide) ?_
                  exact hk1 (r21.1, r21.2, va_up a0_pileF y2.toNat y3, y2 + 1) h
                · refine j_icmp_ne (pc := 168) 175 ok dX8_layLine_168 (by decide) h (fun h => ?_) (fun h => ?_)
                  · refine j_iconst (pc := 175) ok dX8_layLine_175 ?_
                    refine j_lv [2, 3, 0, 4] rfl ?_
                    exact hk18 0 h
                  · refine j_iconst (pc := 171) ok dX8_layLine_171 ?_
                    refine j_goto (pc := 172) 176 ok dX8_layLine_172 (by decide) ?_
                    refine j_lv [2, 3, 0, 4] rfl ?_
                    exact hk18 1 h
              · refine j_iload_n (pc := 85) 4 ok dX8_layLine_85 rfl rfl ?_
                refine j_aload_n (pc := 86) 3 ok dX8_layLine_86 rfl rfl ?_
                refine j_iload_n (pc := 87) 4 ok dX8_layLine_87 rfl rfl ?_
                obtain ⟨r22, hr22, h⟩ := bd_inv h
                refine j_callS (pc := 88) ok (k_X8_rowStart (a0 := a1) (a0N := a1N) (a0F := a1F) (x1 := y3) hr22) gS_X8_136 hd_X8_rowStart [3] (by decide) rfl rfl rfl rfl ⟨Nat.zero_le _, Nat.zero_le _⟩ (Nat.le_of_ble_eq_true rfl) dX8_layLine_88 rfl [(a0, .inr (8, [.int (iI a0_refusal), .ref a0_text, .int (iI a0_textSize), .ref a0_now, .ref a0_trial, .ref a0_diary, .int (iI a0_acts), .ref a0_kept, .ref a0_isKept, .ref a0_clip, .ref a0_line, .int (iI a0_lineSize), .ref a0_read, .int (iI a0_readSize), .ref a0_opens, .ref a0_chains, .ref a0_factors, .ref a0_plains, .ref a0_belows, .ref a0_owned, .int (iI a0_deep), .ref a0_wides, .ref a0_highs, .ref a0_lows, .ref a0_itemWides, .ref a0_pile])), (a0_line, .inl (cs.1, 1024, .inl (aI a0_lineF))), (a0_pile, .inl (cs.1, 64, .inl (aI (va_up a0_pileF y2.toNat y3)))), (a1, .inl (cs.1, a1N, .inl (aI a1F)))] rfl ?_
                refine jn_use (P := fun z27 => q_J D κ 7 0 0 [(a0, .inr (8, [.int (iI a0_refusal), .ref a0_text, .int (iI a0_textSize), .ref a0_now, .ref a0_trial, .ref a0_diary, .int (iI a0_acts), .ref a0_kept, .ref a0_isKept, .ref a0_clip, .ref a0_line, .int (iI a0_lineSize), .ref a0_read, .int (iI a0_readSize), .ref a0_opens, .ref a0_chains, .ref a0_factors, .ref a0_plains, .ref a0_belows, .ref a0_owned, .int (iI a0_deep), .ref a0_wides, .ref a0_highs, .ref a0_lows, .ref a0_itemWides, .ref a0_pile])), (a0_line, .inl (cs.1, 1024, .inl (aI a0_lineF))), (a0_pile, .inl (cs.1, 64, .inl (aI (va_up a0_pileF y2.toNat y3)))), (a1, .inl (cs.1, a1N, .inl (aI a1F)))] [(0, .ref a0), (1, .ref a1), (2, .int (iI (y2 + 1))), (3, .int (iI y3)), (4, .int (iI (a1F y3.toNat)))] 110 [.int (iI z27)]) h (fun z27 h => ?_) (fun k24 hk24 h => ?_)
                · refine j_istore (pc := 110) (lv' := [(5, .int (iI z27)), (0, .ref a0), (1, .ref a1), (2, .int (iI (y2 + 1))), (3, .int (iI y3)), (4, .int (iI (a1F y3.toNat)))]) ok dX8_layLine_110 (by decide) rfl ?_
                  refine j_aload_n (pc := 112) 1 ok dX8_layLine_112 rfl rfl ?_
                  refine j_iload (pc := 113) 0 ok dX8_layLine_113 rfl ?_
                  refine jn_use (P := fun z29 => q_J D κ 7 0 0 [(a0, .inr (8, [.int (iI a0_refusal), .ref a0_text, .int (iI a0_textSize), .ref a0_now, .ref a0_trial, .ref a0_diary, .int (iI a0_acts), .ref a0_kept, .ref a0_isKept, .ref a0_clip, .ref a0_line, .int (iI a0_lineSize), .ref a0_read, .int (iI a0_readSize), .ref a0_opens, .ref a0_chains, .ref a0_factors, .ref a0_plains, .ref a0_belows, .ref a0_owned, .int (iI a0_deep), .ref a0_wides, .ref a0_highs, .ref a0_lows, .ref a0_itemWides, .ref a0_pile])), (a0_line, .inl (cs.1, 1024, .inl (aI a0_lineF))), (a0_pile, .inl (cs.1, 64, .inl (aI (va_up a0_pileF y2.toNat y3)))), (a1, .inl (cs.1, a1N, .inl (aI a1F)))] [(0, .ref a0), (1, .ref a1), (2, .int (iI (y2 + 1))), (3, .int (iI y3)), (4, .int (iI (a1F y3.toNat)))] 123 [.int (iI z29), .ref a0]) h (fun z29 h => ?_) (fun k28 hk28 h => ?_)
                  · refine j_bipush (pc := 123) ok dX8_layLine_123 (by decide) ?_
                    obtain ⟨r30, hr30, h⟩ := bd_inv h
                    refine j_callV (pc := 125) ok (k_X8_sayUnless (a0 := a0) (a0_text := a0_text) (a0_now := a0_now) (a0_trial := a0_trial) (a0_diary := a0_diary) (a0_kept := a0_kept) (a0_isKept := a0_isKept) (a0_clip := a0_clip) (a0_line := a0_line) (a0_read := a0_read) (a0_opens := a0_opens) (a0_chains := a0_chains) (a0_factors := a0_factors) (a0_plains := a0_plains) (a0_belows := a0_belows) (a0_owned := a0_owned) (a0_wides := a0_wides) (a0_highs := a0_highs) (a0_lows := a0_lows) (a0_itemWides := a0_itemWides) (a0_pile := a0_pile) (a0_refusal := a0_refusal) (a0_textSize := a0_textSize) (a0_acts := a0_acts) (a0_lineSize := a0_lineSize) (a0_readSize := a0_readSize) (a0_deep := a0_deep) (a0_lineF := a0_lineF) (x1 := z29) (x2 := 32) hr30) gV_X8_203 ⟨rfl, hd_X8_sayUnless⟩ [0, 1] (by decide) rfl rfl 0 rfl rfl rfl rfl ⟨Nat.zero_le _, Nat.zero_le _⟩ (Nat.le_of_ble_eq_true rfl) dX8_layLine_125 rfl [(a0, .inr (8, [.int (iI a0_refusal), .ref a0_text, .int (iI a0_textSize), .ref a0_now, .ref a0_trial, .ref a0_diary, .int (iI a0_acts), .ref a0_kept, .ref a0_isKept, .ref a0_clip, .ref a0_line, .int (iI r30.1), .ref a0_read, .int (iI a0_readSize), .ref a0_opens, .ref a0_chains, .ref a0_factors, .ref a0_plains, .ref a0_belows, .ref a0_owned, .int (iI a0_deep), .ref a0_wides, .ref a0_highs, .ref a0_lows, .ref a0_itemWides, .ref a0_pile])), (a0_line, .inl (cs.1, 1024, .inl (aI r30.2))), (a0_pile, .inl (cs.1, 64, .inl (aI (va_up a0_pileF y2.toNat y3)))), (a1, .inl (cs.1, a1N, .inl (aI a1F)))] rfl ?_
                    refine j_aload_n (pc := 128) 0 ok dX8_layLine_128 rfl rfl ?_
                    refine j_iload (pc := 129) 4 ok dX8_layLine_129 rfl ?_
                    refine j_bipush (pc := 131) ok dX8_layLine_131 (by decide) ?_
                    refine jn_use (P := fun z32 => q_J D κ 7 0 0 [(a0, .inr (8, [.int (iI a0_refusal), .ref a0_text, .int (iI a0_textSize), .ref a0_now, .ref a0_trial, .ref a0_diary, .int (iI a0_acts), .ref a0_kept, .ref a0_isKept, .ref a0_clip, .ref a0_line, .int (iI r30.1), .ref a0_read, .int (iI a0_readSize), .ref a0_opens, .ref a0_chains, .ref a0_factors, .ref a0_plains, .ref a0_belows, .ref a0_owned, .int (iI a0_deep), .ref a0_wides, .ref a0_highs, .ref a0_lows, .ref a0_itemWides, .ref a0_pile])), (a0_line, .inl (cs.1, 1024, .inl (aI r30.2))), (a0_pile, .inl (cs.1, 64, .inl (aI (va_up a0_pileF y2.toNat y3)))), (a1, .inl (cs.1, a1N, .inl (aI a1F)))] [(0, .ref a0), (1, .ref a1), (2, .int (iI (y2 + 1))), (3, .int (iI y3))] 143 [.int (iI z32), .ref a0]) h (fun z32 h => ?_) (fun k31 hk31 h => ?_)
                    · obtain ⟨r33, hr33, h⟩ := bd_inv h
                      refine j_callV (pc := 143) ok (k_X8_say (a0 := a0) (a0_text := a0_text) (a0_now := a0_now) (a0_trial := a0_trial) (a0_diary := a0_diary) (a0_kept := a0_kept) (a0_isKept := a0_isKept) (a0_clip := a0_clip) (a0_line := a0_line) (a0_read := a0_read) (a0_opens := a0_opens) (a0_chains := a0_chains) (a0_factors := a0_factors) (a0_plains := a0_plains) (a0_belows := a0_belows) (a0_owned := a0_owned) (a0_wides := a0_wides) (a0_highs := a0_highs) (a0_lows := a0_lows) (a0_itemWides := a0_itemWides) (a0_pile := a0_pile) (a0_refusal := a0_refusal) (a0_textSize := a0_textSize) (a0_acts := a0_acts) (a0_lineSize := r30.1) (a0_readSize := a0_readSize) (a0_deep := a0_deep) (a0_lineF := r30.2) (x1 := z32) hr33) gV_X8_196 ⟨rfl, hd_X8_say⟩ [0, 1] (by decide) rfl rfl 0 rfl rfl rfl rfl ⟨Nat.zero_le _, Nat.zero_le _⟩ (Nat.le_of_ble_eq_true rfl) dX8_layLine_143 rfl [(a0, .inr (8, [.int (iI a0_refusal), .ref a0_text, .int (iI a0_textSize), .ref a0_now, .ref a0_trial, .ref a0_diary, .int (iI a0_acts), .ref a0_kept, .ref a0_isKept, .ref a0_clip, .ref a0_line, .int (iI r33.1), .ref a0_read, .int (iI a0_readSize), .ref a0_opens, .ref a0_chains, .ref a0_factors, .ref a0_plains, .ref a0_belows, .ref a0_owned, .int (iI a0_deep), .ref a0_wides, .ref a0_highs, .ref a0_lows, .ref a0_itemWides, .ref a0_pile])), (a0_line, .inl (cs.1, 1024, .inl (aI r33.2))), (a0_pile, .inl (cs.1, 64, .inl (aI (va_up a0_pileF y2.toNat y3)))), (a1, .inl (cs.1, a1N, .inl (aI a1F)))] rfl ?_
                      refine j_aload_n (pc := 146) 0 ok dX8_layLine_146 rfl rfl ?_
                      refine j_aload_n (pc := 147) 1 ok dX8_layLine_147 rfl rfl ?_
                      refine j_iload_n (pc := 148) 3 ok dX8_layLine_148 rfl rfl ?_
                      refine j_iconst (pc := 149) ok dX8_layLine_149 ?_
                      refine j_iadd (pc := 150) ok dX8_layLine_150 ?_
                      refine j_iconst (pc := 151) ok dX8_layLine_151 ?_
                      obtain ⟨r34, hr34, h⟩ := bd_inv h
                      refine j_callS (pc := 152) ok (k_X8_isShort (a0 := a1) (a0N := a1N) (a0F := a1F) (x1 := y3 + 1) (x2 := 0) hr34) gS_X8_199 hd_X8_isShort [3] (by decide) rfl rfl rfl rfl ⟨Nat.zero_le _, Nat.zero_le _⟩ (Nat.le_of_ble_eq_true rfl) dX8_layLine_152 rfl [(a0, .inr (8, [.int (iI a0_refusal), .ref a0_text, .int (iI a0_textSize), .ref a0_now, .ref a0_trial, .ref a0_diary, .int (iI a0_acts), .ref a0_kept, .ref a0_isKept, .ref a0_clip, .ref a0_line, .int (iI r33.1), .ref a0_read, .int (iI a0_readSize), .ref a0_opens, .ref a0_chains, .ref a0_factors, .ref a0_plains, .ref a0_belows, .ref a0_owned, .int (iI a0_deep), .ref a0_wides, .ref a0_highs, .ref a0_lows, .ref a0_itemWides, .ref a0_pile])), (a0_line, .inl (cs.1, 1024, .inl (aI r33.2))), (a0_pile, .inl (cs.1, 64, .inl (aI (va_up a0_pileF y2.toNat y3)))), (a1, .inl (cs.1, a1N, .inl (aI a1F)))] rfl ?_
                      refine j_bipush (pc := 155) ok dX8_layLine_155 (by decide) ?_
                      obtain ⟨r35, hr35, h⟩ := bd_inv h
                      refine j_callV (pc := 157) ok (k_X8_sayUnless (a0 := a0) (a0_text := a0_text) (a0_now := a0_now) (a0_trial := a0_trial) (a0_diary := a0_diary) (a0_kept := a0_kept) (a0_isKept := a0_isKept) (a0_clip := a0_clip) (a0_line := a0_line) (a0_read := a0_read) (a0_opens := a0_opens) (a0_chains := a0_chains) (a0_factors := a0_factors) (a0_plains := a0_plains) (a0_belows := a0_belows) (a0_owned := a0_owned) (a0_wides := a0_wides) (a0_highs := a0_highs) (a0_lows := a0_lows) (a0_itemWides := a0_itemWides) (a0_pile := a0_pile) (a0_refusal := a0_refusal) (a0_textSize := a0_textSize) (a0_acts := a0_acts) (a0_lineSize := r33.1) (a0_readSize := a0_readSize) (a0_deep := a0_deep) (a0_lineF := r33.2) (x1 := r34) (x2 := 40) hr35) gV_X8_203 ⟨rfl, hd_X8_sayUnless⟩ [0, 1] (by decide) rfl rfl 0 rfl rfl rfl rfl ⟨Nat.zero_le _, Nat.zero_le _⟩ (Nat.le_of_ble_eq_true rfl) dX8_layLine_157 rfl [(a0, .inr (8, [.int (iI a0_refusal), .ref a0_text, .int (iI a0_textSize), .ref a0_now, .ref a0_trial, .ref a0_diary, .int (iI a0_acts), .ref a0_kept, .ref a0_isKept, .ref a0_clip, .ref a0_line, .int (iI r35.1), .ref a0_read, .int (iI a0_readSize), .ref a0_opens, .ref a0_chains, .ref a0_factors, .ref a0_plains, .ref a0_belows, .ref a0_owned, .int (iI a0_deep), .ref a0_wides, .ref a0_highs, .ref a0_lows, .ref a0_itemWides, .ref a0_pile])), (a0_line, .inl (cs.1, 1024, .inl (aI r35.2))), (a0_pile, .inl (cs.1, 64, .inl (aI (va_up a0_pileF y2.toNat y3)))), (a1, .inl (cs.1, a1N, .inl (aI a1F)))] rfl ?_
                      refine j_goto (pc := 160) 318 ok dX8_layLine_160 (by decide) ?_
                      exact hk1 (r35.1, r35.2, va_up a0_pileF y2.toNat y3, y2 + 1) h
                    · refine j_icmp_ne (pc := 133) 141 ok dX8_layLine_133 (by decide) h (fun h => ?_) (fun h => ?_)
                      · refine j_bipush (pc := 141) ok dX8_layLine_141 (by decide) ?_
                        refine j_lv [0, 1, 2, 3] rfl ?_
                        exact hk31 95 h
                      · refine j_bipush (pc := 136) ok dX8_layLine_136 (by decide) ?_
                        refine j_goto (pc := 138) 143 ok dX8_layLine_138 (by decide) ?_
                        refine j_lv [0, 1, 2, 3] rfl ?_
                        exact hk31 94 h
                  · refine j_if_ne (pc := 115) 122 ok dX8_layLine_115 (by decide) h (fun h => ?_) (fun h => ?_)
                    · refine j_iconst (pc := 122) ok dX8_layLine_122 ?_
                      refine j_lv [1, 2, 3, 4, 5] rfl ?_
                      exact hk28 0 h
                    · refine j_iconst (pc := 118) ok dX8_layLine_118 ?_
                      refine j_goto (pc := 119) 123 ok dX8_layLine_119 (by decide) ?_
                      refine j_lv [1, 2, 3, 4, 5] rfl ?_
                      exact hk28 1 h
                · refine jn_use (P := fun z26 => q_J D κ 7 0 0 [(a0, .inr (8, [.int (iI a0_refusal), .ref a0_text, .int (iI a0_textSize), .ref a0_now, .ref a0_trial, .ref a0_diary, .int (iI a0_acts), .ref a0_kept, .ref a0_isKept, .ref a0_clip, .ref a0_line, .int (iI a0_lineSize), .ref a0_read, .int (iI a0_readSize), .ref a0_opens, .ref a0_chains, .ref a0_factors, .ref a0_plains, .ref a0_belows, .ref a0_owned, .int (iI a0_deep), .ref a0_wides, .ref a0_highs, .ref a0_lows, .ref a0_itemWides, .ref a0_pile])), (a0_line, .inl (cs.1, 1024, .inl (aI a0_lineF))), (a0_pile, .inl (cs.1, 64, .inl (aI (va_up a0_pileF y2.toNat y3)))), (a1, .inl (cs.1, a1N, .inl (aI a1F)))] [(0, .ref a0), (1, .ref a1), (2, .int (iI (y2 + 1))), (3, .int (iI y3)), (4, .int (iI (a1F y3.toNat)))] 109 []) h (fun z26 h => ?_) (fun k23 hk23 h => ?_)
                  · refine j_iconst (pc := 109) ok dX8_layLine_109 ?_
                    exact hk24 0 h
                  · refine j_icmp_le (pc := 91) 109 ok dX8_layLine_91 (by decide) h (fun h => ?_) (fun h => ?_)
                    · refine j_lv [2, 3, 0, 4, 1] rfl ?_
                      exact hk23 () h
                    · refine j_aload_n (pc := 94) 3 ok dX8_layLine_94 rfl rfl ?_
                      refine j_aload_n (pc := 95) 3 ok dX8_layLine_95 rfl rfl ?_
                      refine j_iload_n (pc := 96) 4 ok dX8_layLine_96 rfl rfl ?_
                      obtain ⟨r25, hr25, h⟩ := bd_inv h
                      refine j_callS (pc := 97) ok (k_X8_itemStart (a0 := a1) (a0N := a1N) (a0F := a1F) (x1 := y3) hr25) gS_X8_139 hd_X8_itemStart [3] (by decide) rfl rfl rfl rfl ⟨Nat.zero_le _, Nat.zero_le _⟩ (Nat.le_of_ble_eq_true rfl) dX8_layLine_97 rfl [(a0, .inr (8, [.int (iI a0_refusal), .ref a0_text, .int (iI a0_textSize), .ref a0_now, .ref a0_trial, .ref a0_diary, .int (iI a0_acts), .ref a0_kept, .ref a0_isKept, .ref a0_clip, .ref a0_line, .int (iI a0_lineSize), .ref a0_read, .int (iI a0_readSize), .ref a0_opens, .ref a0_chains, .ref a0_factors, .ref a0_plains, .ref a0_belows, .ref a0_owned, .int (iI a0_deep), .ref a0_wides, .ref a0_highs, .ref a0_lows, .ref a0_itemWides, .ref a0_pile])), (a0_line, .inl (cs.1, 1024, .inl (aI a0_lineF))), (a0_pile, .inl (cs.1, 64, .inl (aI (va_up a0_pileF y2.toNat y3)))), (a1, .inl (cs.1, a1N, .inl (aI a1F)))] rfl ?_
                      refine j_iald (pc := 100) 3 ok rfl dX8_layLine_100 h (fun h => ?_)
                      refine j_iconst (pc := 101) ok dX8_layLine_101 ?_
                      refine j_icmp_ne (pc := 102) 109 ok dX8_layLine_102 (by decide) h (fun h => ?_) (fun h => ?_)
                      · refine j_lv [2, 3, 0, 4, 1] rfl ?_
                        exact hk23 () h
                      · refine j_iconst (pc := 105) ok dX8_layLine_105 ?_
                        refine j_goto (pc := 106) 110 ok dX8_layLine_106 (by decide) ?_
                        refine j_lv [2, 3, 0, 4, 1] rfl ?_
                        exact hk24 1 h
            · refine j_aload_n (pc := 61) 2 ok dX8_layLine_61 rfl rfl ?_
              refine j_aload_n (pc := 62) 3 ok dX8_layLine_62 rfl rfl ?_
              refine j_iload_n (pc := 63) 4 ok dX8_layLine_63 rfl rfl ?_
              refine j_iconst (pc := 64) ok dX8_layLine_64 ?_
              refine j_iadd (pc := 65) ok dX8_layLine_65 ?_
              refine j_iconst (pc := 66) ok dX8_layLine_66 ?_
              obtain ⟨r36, hr36, h⟩ := bd_inv h
              refine j_callS (pc := 67) ok (k_X8_isShort (a0 := a1) (a0N := a1N) (a0F := a1F) (x1 := y3 + 1) (x2 := 1) hr36) gS_X8_199 hd_X8_isShort [3] (by decide) rfl rfl rfl rfl ⟨Nat.zero_le _, Nat.zero_le _⟩ (Nat.le_of_ble_eq_true rfl) dX8_layLine_67 rfl [(a0, .inr (8, [.int (iI a0_refusal), .ref a0_text, .int (iI a0_textSize), .ref a0_now, .ref a0_trial, .ref a0_diary, .int (iI a0_acts), .ref a0_kept, .ref a0_isKept, .ref a0_clip, .ref a0_line, .int (iI a0_lineSize), .ref a0_read, .int (iI a0_readSize), .ref a0_opens, .ref a0_chains, .ref a0_factors, .ref a0_plains, .ref a0_belows, .ref a0_owned, .int (iI a0_deep), .ref a0_wides, .ref a0_highs, .ref a0_lows, .ref a0_itemWides, .ref a0_pile])), (a0_line, .inl (cs.1, 1024, .inl (aI a0_lineF))), (a0_pile, .inl (cs.1, 64, .inl (aI (va_up a0_pileF y2.toNat y3)))), (a1, .inl (cs.1, a1N, .inl (aI a1F)))] rfl ?_
              refine j_bipush (pc := 70) ok dX8_layLine_70 (by decide) ?_
              obtain ⟨r37, hr37, h⟩ := bd_inv h
              refine j_callV (pc := 72) ok (k_X8_sayUnless (a0 := a0) (a0_text := a0_text) (a0_now := a0_now) (a0_trial := a0_trial) (a0_diary := a0_diary) (a0_kept := a0_kept) (a0_isKept := a0_isKept) (a0_clip := a0_clip) (a0_line := a0_line) (a0_read := a0_read) (a0_opens := a0_opens) (a0_chains := a0_chains) (a0_factors := a0_factors) (a0_plains := a0_plains) (a0_belows := a0_belows) (a0_owned := a0_owned) (a0_wides := a0_wides) (a0_highs := a0_highs) (a0_lows := a0_lows) (a0_itemWides := a0_itemWides) (a0_pile := a0_pile) (a0_refusal := a0_refusal) (a0_textSize := a0_textSize) (a0_acts := a0_acts) (a0_lineSize := a0_lineSize) (a0_readSize := a0_readSize) (a0_deep := a0_deep) (a0_lineF := a0_lineF) (x1 := r36) (x2 := 40) hr37) gV_X8_203 ⟨rfl, hd_X8_sayUnless⟩ [0, 1] (by decide) rfl rfl 0 rfl rfl rfl rfl ⟨Nat.zero_le _, Nat.zero_le _⟩ (Nat.le_of_ble_eq_true rfl) dX8_layLine_72 rfl [(a0, .inr (8, [.int (iI a0_refusal), .ref a0_text, .int (iI a0_textSize), .ref a0_now, .ref a0_trial, .ref a0_diary, .int (iI a0_acts), .ref a0_kept, .ref a0_isKept, .ref a0_clip, .ref a0_line, .int (iI r37.1), .ref a0_read, .int (iI a0_readSize), .ref a0_opens, .ref a0_chains, .ref a0_factors, .ref a0_plains, .ref a0_belows, .ref a0_owned, .int (iI a0_deep), .ref a0_wides, .ref a0_highs, .ref a0_lows, .ref a0_itemWides, .ref a0_pile])), (a0_line, .inl (cs.1, 1024, .inl (aI r37.2))), (a0_pile, .inl (cs.1, 64, .inl (aI (va_up a0_pileF y2.toNat y3)))), (a1, .inl (cs.1, a1N, .inl (aI a1F)))] rfl ?_
              refine j_goto (pc := 75) 318 ok dX8_layLine_75 (by decide) ?_
              refine j_lv [2, 3, 0, 4] rfl ?_
              exact hk1 (r37.1, r37.2, va_up a0_pileF y2.toNat y3, y2 + 1) h
        · refine j_aload_n (pc := 28) 1 ok dX8_layLine_28 rfl rfl ?_
          refine j_iload (pc := 29) 0 ok dX8_layLine_29 rfl ?_
          obtain ⟨r38, hr38, h⟩ := bd_inv h
          refine j_callV (pc := 31) ok (k_X8_say (a0 := a0) (a0_text := a0_text) (a0_now := a0_now) (a0_trial := a0_trial) (a0_diary := a0_diary) (a0_kept := a0_kept) (a0_isKept := a0_isKept) (a0_clip := a0_clip) (a0_line := a0_line) (a0_read := a0_read) (a0_opens := a0_opens) (a0_chains := a0_chains) (a0_factors := a0_factors) (a0_plains := a0_plains) (a0_belows := a0_belows) (a0_owned := a0_owned) (a0_wides := a0_wides) (a0_highs := a0_highs) (a0_lows := a0_lows) (a0_itemWides := a0_itemWides) (a0_pile := a0_pile) (a0_refusal := a0_refusal) (a0_textSize := a0_textSize) (a0_acts := a0_acts) (a0_lineSize := a0_lineSize) (a0_readSize := a0_readSize) (a0_deep := a0_deep) (a0_lineF := a0_lineF) (x1 := a1F y3.toNat) hr38) gV_X8_196 ⟨rfl, hd_X8_say⟩ [0, 1] (by decide) rfl rfl 0 rfl rfl rfl rfl ⟨Nat.zero_le _, Nat.zero_le _⟩ (Nat.le_of_ble_eq_true rfl) dX8_layLine_31 rfl [(a0, .inr (8, [.int (iI a0_refusal), .ref a0_text, .int (iI a0_textSize), .ref a0_now, .ref a0_trial, .ref a0_diary, .int (iI a0_acts), .ref a0_kept, .ref a0_isKept, .ref a0_clip, .ref a0_line, .int (iI r38.1), .ref a0_read, .int (iI a0_readSize), .ref a0_opens, .ref a0_chains, .ref a0_factors, .ref a0_plains, .ref a0_belows, .ref a0_owned, .int (iI a0_deep), .ref a0_wides, .ref a0_highs, .ref a0_lows, .ref a0_itemWides, .ref a0_pile])), (a0_line, .inl (cs.1, 1024, .inl (aI r38.2))), (a0_pile, .inl (cs.1, 64, .inl (aI a0_pileF))), (a1, .inl (cs.1, a1N, .inl (aI a1F)))] rfl ?_
          refine j_goto (pc := 34) 318 ok dX8_layLine_34 (by decide) ?_
          refine j_lv [1, 2, 3, 4] rfl ?_
          exact hk1 (r38.1, r38.2, a0_pileF, y2) h
def f_X8_layLine (a1N : Nat) (a0_lineSize : Int) (a0_lineF : (Nat → Int)) (a0_pileF : (Nat → Int)) (a1F : (Nat → Int)) : Option (Int × (Nat → Int) × (Nat → Int)) := f_X8_layLine_9 a1N a1F (fun (z40 : Int × (Nat → Int) × (Nat → Int) × Int × Int) => some (z40.1, z40.2.1, z40.2.2.1)) fuel 0 a0_lineF a0_pileF 0 0
set_option maxRecDepth 100000 in
set_option maxHeartbeats 4000000 in
theorem k_X8_layLine {D : va_G} {cs : q_CS} {a0 a0_text a0_now a0_trial a0_diary a0_kept a0_isKept a0_clip a0_line a0_read a0_opens a0_chains a0_factors a0_plains a0_belows a0_owned a0_wides a0_highs a0_lows a0_itemWides a0_pile a1 : Nat} {a1N : Nat} {a0_refusal a0_textSize a0_acts a0_lineSize a0_readSize a0_deep : Int} {a0_lineF a0_pileF a1F : (Nat → Int)} {r : (Int × (Nat → Int) × (Nat → Int))} (h : f_X8_layLine a1N a0_lineSize a0_lineF a0_pileF a1F = some r) : q_M D cs yX8_layLine cX8_layLine 7 none 4 91 [.ref a0, .ref a1] [(a0, .inr (8, [.int (iI a0_refusal), .ref a0_text, .int (iI a0_textSize), .ref a0_now, .ref a0_trial, .ref a0_diary, .int (iI a0_acts), .ref a0_kept, .ref a0_isKept, .ref a0_clip, .ref a0_line, .int (iI a0_lineSize), .ref a0_read, .int (iI a0_readSize), .ref a0_opens, .ref a0_chains, .ref a0_factors, .ref a0_plains, .ref a0_belows, .ref a0_owned, .int (iI a0_deep), .ref a0_wides, .ref a0_highs, .ref a0_lows, .ref a0_itemWides, .ref a0_pile])), (a0_line, .inl (cs.1, 1024, .inl (aI a0_lineF))), (a0_pile, .inl (cs.1, 64, .inl (aI a0_pileF))), (a1, .inl (cs.1, a1N, .inl (aI a1F)))] none [(a0, .inr (8, [.int (iI a0_refusal), .ref a0_text, .int (iI a0_textSize), .ref a0_now, .ref a0_trial, .ref a0_diary, .int (iI a0_acts), .ref a0_kept, .ref a0_isKept, .ref a0_clip, .ref a0_line, .int (iI r.1), .ref a0_read, .int (iI a0_readSize), .ref a0_opens, .ref a0_chains, .ref a0_factors, .ref a0_plains, .ref a0_belows, .ref a0_owned, .int (iI a0_deep), .ref a0_wides, .ref a0_highs, .ref a0_lows, .ref a0_itemWides, .ref a0_pile])), (a0_line, .inl (cs.1, 1024, .inl (aI r.2.1))), (a0_pile, .inl (cs.1, 64, .inl (aI r.2.2))), (a1, .inl (cs.1, a1N, .inl (aI a1F)))] := by
  refine q_start_v [(0, .ref a0), (1, .ref a1)] RX8 rfl (by decide +kernel) rfl (Nat.le_of_ble_eq_true rfl) (fun κ ok fin => ?_)
  unfold f_X8_layLine at h
  refine j_aload_n (pc := 0) 0 ok dX8_layLine_0 rfl rfl ?_
  refine j_iconst (pc := 1) ok dX8_layLine_1 ?_
  refine pf_X8_193_8 (pc := 2) 0 ok rfl dX8_layLine_2 [(a0, .inr (8, [.int (iI a0_refusal), .ref a0_text, .int (iI a0_textSize), .ref a0_now, .ref a0_trial, .ref a0_diary, .int (iI a0_acts), .ref a0_kept, .ref a0_isKept, .ref a0_clip, .ref a0_line, .int (iI 0), .ref a0_read, .int (iI a0_readSize), .ref a0_opens, .ref a0_chains, .ref a0_factors, .ref a0_plains, .ref a0_belows, .ref a0_owned, .int (iI a0_deep), .ref a0_wides, .ref a0_highs, .ref a0_lows, .ref a0_itemWides, .ref a0_pile])), (a0_line, .inl (cs.1, 1024, .inl (aI a0_lineF))), (a0_pile, .inl (cs.1, 64, .inl (aI a0_pileF))), (a1, .inl (cs.1, a1N, .inl (aI a1F)))] rfl ?_
  refine j_iconst (pc := 5) ok dX8_layLine_5 ?_
  refine j_istore_n (pc := 6) (lv' := [(2, .int (iI 0)), (0, .ref a0), (1, .ref a1)]) ok dX8_layLine_6 rfl (by decide) rfl ?_
  refine j_iconst (pc := 7) ok dX8_layLine_7 ?_
  refine j_istore_n (pc := 8) (lv' := [(3, .int (iI 0)), (2, .int (iI 0)), (0, .ref a0), (1, .ref a1)]) ok dX8_layLine_8 rfl (by decide) rfl ?_
  refine j_lv [2, 3, 1, 0] rfl ?_
  refine l_X8_layLine_9 ok fin (fun z40 h => ?_) fuel _ _ _ _ _ h
  · obtain rfl := Option.some.inj h
    exact fin _ 324 dX8_layLine_324
def f_X8_linearLength (a0_refusal : Int) (a0_lineSize : Int) (a0_lineF : (Nat → Int)) (a0_nowF : (Nat → Int)) (a0_pileF : (Nat → Int)) : Option (Int × Int × Int × (Nat → Int) × (Nat → Int)) := bd (f_X8_layLine 184 a0_lineSize a0_lineF a0_pileF a0_nowF) (fun r1 => some (r1.1, 0, r1.1, r1.2.1, r1.2.2))
set_option maxRecDepth 100000 in
set_option maxHeartbeats 4000000 in
theorem k_X8_linearLength {D : va_G} {cs : q_CS} {a0 a0_text a0_now a0_trial a0_diary a0_kept a0_isKept a0_clip a0_line a0_read a0_opens a0_chains a0_factors a0_plains a0_belows a0_owned a0_wides a0_highs a0_lows a0_itemWides a0_pile : Nat} {a0_refusal a0_textSize a0_acts a0_lineSize a0_readSize a0_deep : Int} {a0_lineF a0_nowF a0_pileF : (Nat → Int)} {r : (Int × Int × Int × (Nat → Int) × (Nat → Int))} (h : f_X8_linearLength a0_refusal a0_lineSize a0_lineF a0_nowF a0_pileF = some r) : q_M D cs yX8_linearLength cX8_linearLength 1 (some .int) 5 117 [.ref a0] [(a0, .inr (8, [.int (iI a0_refusal), .ref a0_text, .int (iI a0_textSize), .ref a0_now, .ref a0_trial, .ref a0_diary, .int (iI a0_acts), .ref a0_kept, .ref a0_isKept, .ref a0_clip, .ref a0_line, .int (iI a0_lineSize), .ref a0_read, .int (iI a0_readSize), .ref a0_opens, .ref a0_chains, .ref a0_factors, .ref a0_plains, .ref a0_belows, .ref a0_owned, .int (iI a0_deep), .ref a0_wides, .ref a0_highs, .ref a0_lows, .ref a0_itemWides, .ref a0_pile])), (a0_line, .inl (cs.1, 1024, .inl (aI a0_lineF))), (a0_now, .inl (cs.1, 184, .inl (aI a0_nowF))), (a0_pile, .inl (cs.1, 64, .inl (aI a0_pileF)))] (some (.int (iI r.1))) [(a0, .inr (8, [.int (iI r.2.1), .ref a0_text, .int (iI a0_textSize), .ref a0_now, .ref a0_trial, .ref a0_diary, .int (iI a0_acts), .ref a0_kept, .ref a0_isKept, .ref a0_clip, .ref a0_line, .int (iI r.2.2.1), .ref a0_read, .int (iI a0_readSize), .ref a0_opens, .ref a0_chains, .ref a0_factors, .ref a0_plains, .ref a0_belows, .ref a0_owned, .int (iI a0_deep), .ref a0_wides, .ref a0_highs, .ref a0_lows, .ref a0_itemWides, .ref a0_pile])), (a0_line, .inl (cs.1, 1024, .inl (aI r.2.2.2.1))), (a0_now, .inl (cs.1, 184, .inl (aI a0_nowF))), (a0_pile, .inl (cs.1, 64, .inl (aI r.2.2.2.2)))] := by
  refine q_start_i [(0, .ref a0)] RX8 rfl (by decide +kernel) rfl (Nat.le_of_ble_eq_true rfl) rfl (fun κ ok fin => ?_)
  unfold f_X8_linearLength at h
  refine j_aload_n (pc := 0) 0 ok dX8_linearLength_0 rfl rfl ?_
  refine j_iconst (pc := 1) ok dX8_linearLength_1 ?_
  refine pf_X8_71_8 (pc := 2) 0 ok rfl dX8_linearLength_2 [(a0, .inr (8, [.int (iI 0), .ref a0_text, .int (iI a0_textSize), .ref a0_now, .ref a0_trial, .ref a0_diary, .int (iI a0_acts), .ref a0_kept, .ref a0_isKept, .ref a0_clip, .ref a0_line, .int (iI a0_lineSize), .ref a0_read, .int (iI a0_readSize), .ref a0_opens, .ref a0_chains, .ref a0_factors, .ref a0_plains, .ref a0_belows, .ref a0_owned, .int (iI a0_deep), .ref a0_wides, .ref a0_highs, .ref a0_lows, .ref a0_itemWides, .ref a0_pile])), (a0_line, .inl (cs.1, 1024, .inl (aI a0_lineF))), (a0_now, .inl (cs.1, 184, .inl (aI a0_nowF))), (a0_pile, .inl (cs.1, 64, .inl (aI a0_pileF)))] rfl ?_
  refine j_aload_n (pc := 5) 0 ok dX8_linearLength_5 rfl rfl ?_
  refine j_aload_n (pc := 6) 0 ok dX8_linearLength_6 rfl rfl ?_
  refine gf_X8_13_8 (pc := 7) 0 ok rfl dX8_linearLength_7 ?_
  obtain ⟨r1, hr1, h⟩ := bd_inv h
  refine j_callV (pc := 10) ok (k_X8_layLine (a0 := a0) (a0_text := a0_text) (a0_now := a0_now) (a0_trial := a0_trial) (a0_diary := a0_diary) (a0_kept := a0_kept) (a0_isKept := a0_isKept) (a0_clip := a0_clip) (a0_line := a0_line) (a0_read := a0_read) (a0_opens := a0_opens) (a0_chains := a0_chains) (a0_factors := a0_factors) (a0_plains := a0_plains) (a0_belows := a0_belows) (a0_owned := a0_owned) (a0_wides := a0_wides) (a0_highs := a0_highs) (a0_lows := a0_lows) (a0_itemWides := a0_itemWides) (a0_pile := a0_pile) (a1 := a0_now) (a1N := 184) (a0_refusal := 0) (a0_textSize := a0_textSize) (a0_acts := a0_acts) (a0_lineSize := a0_lineSize) (a0_readSize := a0_readSize) (a0_deep := a0_deep) (a0_lineF := a0_lineF) (a0_pileF := a0_pileF) (a1F := a0_nowF) hr1) gV_X8_207 ⟨rfl, hd_X8_layLine⟩ [0, 1, 3, 2] (by decide) rfl rfl 0 rfl rfl rfl rfl ⟨Nat.zero_le _, Nat.zero_le _⟩ (Nat.le_of_ble_eq_true rfl) dX8_linearLength_10 rfl [(a0, .inr (8, [.int (iI 0), .ref a0_text, .int (iI a0_textSize), .ref a0_now, .ref a0_trial, .ref a0_diary, .int (iI a0_acts), .ref a0_kept, .ref a0_isKept, .ref a0_clip, .ref a0_line, .int (iI r1.1), .ref a0_read, .int (iI a0_readSize), .ref a0_opens, .ref a0_chains, .ref a0_factors, .ref a0_plains, .ref a0_belows, .ref a0_owned, .int (iI a0_deep), .ref a0_wides, .ref a0_highs, .ref a0_lows, .ref a0_itemWides, .ref a0_pile])), (a0_line, .inl (cs.1, 1024, .inl (aI r1.2.1))), (a0_now, .inl (cs.1, 184, .inl (aI a0_nowF))), (a0_pile, .inl (cs.1, 64, .inl (aI r1.2.2)))] rfl ?_
  refine j_aload_n (pc := 13) 0 ok dX8_linearLength_13 rfl rfl ?_
  refine gf_X8_193_8 (pc := 14) 0 ok rfl dX8_linearLength_14 ?_
  obtain rfl := Option.some.inj h
  exact fin _ 17 dX8_linearLength_17
def f_X8_linearAt (a0_refusal : Int) (a0_lineSize : Int) (a0_lineF : (Nat → Int)) (a0_nowF : (Nat → Int)) (a0_pileF : (Nat → Int)) (x1 : Int) : Option (Int × Int × Int × (Nat → Int) × (Nat → Int)) := bd (f_X8_layLine 184 a0_lineSize a0_lineF a0_pileF a0_nowF) (fun r1 => gR x1 (gR (r1.1 - 1) (bd (f_X8_in x1 0 (r1.1 - 1)) (fun r2 => jn (fun (z4 : Int) => bd (f_X8_refused a0_refusal z4) (fun r5 => jn (fun (z7 : Int) => some (z7, r5.2, r1.1, r1.2.1, r1.2.2)) (fun k6 => cEq r5.1 0 (gIn x1 1024 (k6 (r1.2.1 x1.toNat))) (k6 0)))) (fun k3 => cEq r2 0 (k3 1) (k3 0))))))
set_option maxRecDepth 100000 in
set_option maxHeartbeats 4000000 in
theorem k_X8_linearAt {D : va_G} {cs : q_CS} {a0 a0_text a0_now a0_trial a0_diary a0_kept a0_isKept a0_clip a0_line a0_read a0_opens a0_chains a0_factors a0_plains a0_belows a0_owned a0_wides a0_highs a0_lows a0_itemWides a0_pile : Nat} {a0_refusal a0_textSize a0_acts a0_lineSize a0_readSize a0_deep : Int} {a0_lineF a0_nowF a0_pileF : (Nat → Int)} {x1 : Int} {r : (Int × Int × Int × (Nat → Int) × (Nat → Int))} (h : f_X8_linearAt a0_refusal a0_lineSize a0_lineF a0_nowF a0_pileF x1 = some r) : q_M D cs yX8_linearAt cX8_linearAt 2 (some .int) 5 117 [.ref a0, .int (iI x1)] [(a0, .inr (8, [.int (iI a0_refusal), .ref a0_text, .int (iI a0_textSize), .ref a0_now, .ref a0_trial, .ref a0_diary, .int (iI a0_acts), .ref a0_kept, .ref a0_isKept, .ref a0_clip, .ref a0_line, .int (iI a0_lineSize), .ref a0_read, .int (iI a0_readSize), .ref a0_opens, .ref a0_chains, .ref a0_factors, .ref a0_plains, .ref a0_belows, .ref a0_owned, .int (iI a0_deep), .ref a0_wides, .ref a0_highs, .ref a0_lows, .ref a0_itemWides, .ref a0_pile])), (a0_line, .inl (cs.1, 1024, .inl (aI a0_lineF))), (a0_now, .inl (cs.1, 184, .inl (aI a0_nowF))), (a0_pile, .inl (cs.1, 64, .inl (aI a0_pileF)))] (some (.int (iI r.1))) [(a0, .inr (8, [.int (iI r.2.1), .ref a0_text, .int (iI a0_textSize), .ref a0_now, .ref a0_trial, .ref a0_diary, .int (iI a0_acts), .ref a0_kept, .ref a0_isKept, .ref a0_clip, .ref a0_line, .int (iI r.2.2.1), .ref a0_read, .int (iI a0_readSize), .ref a0_opens, .ref a0_chains, .ref a0_factors, .ref a0_plains, .ref a0_belows, .ref a0_owned, .int (iI a0_deep), .ref a0_wides, .ref a0_highs, .ref a0_lows, .ref a0_itemWides, .ref a0_pile])), (a0_line, .inl (cs.1, 1024, .inl (aI r.2.2.2.1))), (a0_now, .inl (cs.1, 184, .inl (aI a0_nowF))), (a0_pile, .inl (cs.1, 64, .inl (aI r.2.2.2.2)))] := by
  refine q_start_i [(0, .ref a0), (1, .int (iI x1))] RX8 rfl (by decide +kernel) rfl (Nat.le_of_ble_eq_true rfl) rfl (fun κ ok fin => ?_)
  unfold f_X8_linearAt at h
  refine j_aload_n (pc := 0) 0 ok dX8_linearAt_0 rfl rfl ?_
  refine j_aload_n (pc := 1) 0 ok dX8_linearAt_1 rfl rfl ?_
  refine gf_X8_13_8 (pc := 2) 0 ok rfl dX8_linearAt_2 ?_
  obtain ⟨r1, hr1, h⟩ := bd_inv h
  refine j_callV (pc := 5) ok (k_X8_layLine (a0 := a0) (a0_text := a0_text) (a0_now := a0_now) (a0_trial := a0_trial) (a0_diary := a0_diary) (a0_kept := a0_kept) (a0_isKept := a0_isKept) (a0_clip := a0_clip) (a0_line := a0_line) (a0_read := a0_read) (a0_opens := a0_opens) (a0_chains := a0_chains) (a0_factors := a0_factors) (a0_plains := a0_plains) (a0_belows := a0_belows) (a0_owned := a0_owned) (a0_wides := a0_wides) (a0_highs := a0_highs) (a0_lows := a0_lows) (a0_itemWides := a0_itemWides) (a0_pile := a0_pile) (a1 := a0_now) (a1N := 184) (a0_refusal := a0_refusal) (a0_textSize := a0_textSize) (a0_acts := a0_acts) (a0_lineSize := a0_lineSize) (a0_readSize := a0_readSize) (a0_deep := a0_deep) (a0_lineF := a0_lineF) (a0_pileF := a0_pileF) (a1F := a0_nowF) hr1) gV_X8_207 ⟨rfl, hd_X8_layLine⟩ [0, 1, 3, 2] (by decide) rfl rfl 0 rfl rfl rfl rfl ⟨Nat.zero_le _, Nat.zero_le _⟩ (Nat.le_of_ble_eq_true rfl) dX8_linearAt_5 rfl [(a0, .inr (8, [.int (iI a0_refusal), .ref a0_text, .int (iI a0_textSize), .ref a0_now, .ref a0_trial, .ref a0_diary, .int (iI a0_acts), .ref a0_kept, .ref a0_isKept, .ref a0_clip, .ref a0_line, .int (iI r1.1), .ref a0_read, .int (iI a0_readSize), .ref a0_opens, .ref a0_chains, .ref a0_factors, .ref a0_plains, .ref a0_belows, .ref a0_owned, .int (iI a0_deep), .ref a0_wides, .ref a0_highs, .ref a0_lows, .ref a0_itemWides, .ref a0_pile])), (a0_line, .inl (cs.1, 1024, .inl (aI r1.2.1))), (a0_now, .inl (cs.1, 184, .inl (aI a0_nowF))), (a0_pile, .inl (cs.1, 64, .inl (aI r1.2.2)))] rfl ?_
  refine j_aload_n (pc := 8) 0 ok dX8_linearAt_8 rfl rfl ?_
  refine j_iload_n (pc := 9) 1 ok dX8_linearAt_9 rfl rfl ?_
  refine j_i2l (pc := 10) ok dX8_linearAt_10 h (fun h => ?_)
  refine j_lconst (pc := 11) 0 ok dX8_linearAt_11 (by decide) ?_
  refine j_aload_n (pc := 12) 0 ok dX8_linearAt_12 rfl rfl ?_
  refine gf_X8_193_8 (pc := 13) 0 ok rfl dX8_linearAt_13 ?_
  refine j_iconst (pc := 16) ok dX8_linearAt_16 ?_
  refine j_isub (pc := 17) ok dX8_linearAt_17 ?_
  refine j_i2l (pc := 18) ok dX8_linearAt_18 h (fun h => ?_)
  obtain ⟨r2, hr2, h⟩ := bd_inv h
  refine j_callS (pc := 19) ok (k_X8_in (x0 := x1) (x1 := 0) (x2 := r1.1 - 1) hr2) gS_X8_79 hd_X8_in [] (by decide) rfl rfl rfl rfl ⟨Nat.zero_le _, Nat.zero_le _⟩ (Nat.le_of_ble_eq_true rfl) dX8_linearAt_19 rfl [(a0, .inr (8, [.int (iI a0_refusal), .ref a0_text, .int (iI a0_textSize), .ref a0_now, .ref a0_trial, .ref a0_diary, .int (iI a0_acts), .ref a0_kept, .ref a0_isKept, .ref a0_clip, .ref a0_line, .int (iI r1.1), .ref a0_read, .int (iI a0_readSize), .ref a0_opens, .ref a0_chains, .ref a0_factors, .ref a0_plains, .ref a0_belows, .ref a0_owned, .int (iI a0_deep), .ref a0_wides, .ref a0_highs, .ref a0_lows, .ref a0_itemWides, .ref a0_pile])), (a0_line, .inl (cs.1, 1024, .inl (aI r1.2.1))), (a0_now, .inl (cs.1, 184, .inl (aI a0_nowF))), (a0_pile, .inl (cs.1, 64, .inl (aI r1.2.2)))] rfl ?_
  refine jn_use (P := fun z4 => q_J D κ 2 0 0 [(a0, .inr (8, [.int (iI a0_refusal), .ref a0_text, .int (iI a0_textSize), .ref a0_now, .ref a0_trial, .ref a0_diary, .int (iI a0_acts), .ref a0_kept, .ref a0_isKept, .ref a0_clip, .ref a0_line, .int (iI r1.1), .ref a0_read, .int (iI a0_readSize), .ref a0_opens, .ref a0_chains, .ref a0_factors, .ref a0_plains, .ref a0_belows, .ref a0_owned, .int (iI a0_deep), .ref a0_wides, .ref a0_highs, .ref a0_lows, .ref a0_itemWides, .ref a0_pile])), (a0_line, .inl (cs.1, 1024, .inl (aI r1.2.1))), (a0_now, .inl (cs.1, 184, .inl (aI a0_nowF))), (a0_pile, .inl (cs.1, 64, .inl (aI r1.2.2)))] [(0, .ref a0), (1, .int (iI x1))] 30 [.int (iI z4), .ref a0]) h (fun z4 h => ?_) (fun k3 hk3 h => ?_)
  · obtain ⟨r5, hr5, h⟩ := bd_inv h
    refine j_callV (pc := 30) ok (k_X8_refused (a0 := a0) (a0_text := a0_text) (a0_now := a0_now) (a0_trial := a0_trial) (a0_diary := a0_diary) (a0_kept := a0_kept) (a0_isKept := a0_isKept) (a0_clip := a0_clip) (a0_line := a0_line) (a0_read := a0_read) (a0_opens := a0_opens) (a0_chains := a0_chains) (a0_factors := a0_factors) (a0_plains := a0_plains) (a0_belows := a0_belows) (a0_owned := a0_owned) (a0_wides := a0_wides) (a0_highs := a0_highs) (a0_lows := a0_lows) (a0_itemWides := a0_itemWides) (a0_pile := a0_pile) (a0_refusal := a0_refusal) (a0_textSize := a0_textSize) (a0_acts := a0_acts) (a0_lineSize := r1.1) (a0_readSize := a0_readSize) (a0_deep := a0_deep) (x1 := z4) hr5) gV_X8_150 ⟨rfl, hd_X8_refused⟩ [0] (by decide) rfl rfl 0 rfl rfl rfl rfl ⟨Nat.zero_le _, Nat.zero_le _⟩ (Nat.le_of_ble_eq_true rfl) dX8_linearAt_30 rfl [(a0, .inr (8, [.int (iI r5.2), .ref a0_text, .int (iI a0_textSize), .ref a0_now, .ref a0_trial, .ref a0_diary, .int (iI a0_acts), .ref a0_kept, .ref a0_isKept, .ref a0_clip, .ref a0_line, .int (iI r1.1), .ref a0_read, .int (iI a0_readSize), .ref a0_opens, .ref a0_chains, .ref a0_factors, .ref a0_plains, .ref a0_belows, .ref a0_owned, .int (iI a0_deep), .ref a0_wides, .ref a0_highs, .ref a0_lows, .ref a0_itemWides, .ref a0_pile])), (a0_line, .inl (cs.1, 1024, .inl (aI r1.2.1))), (a0_now, .inl (cs.1, 184, .inl (aI a0_nowF))), (a0_pile, .inl (cs.1, 64, .inl (aI r1.2.2)))] rfl ?_
    refine jn_use (P := fun z7 => q_J D κ 2 0 0 [(a0, .inr (8, [.int (iI r5.2), .ref a0_text, .int (iI a0_textSize), .ref a0_now, .ref a0_trial, .ref a0_diary, .int (iI a0_acts), .ref a0_kept, .ref a0_isKept, .ref a0_clip, .ref a0_line, .int (iI r1.1), .ref a0_read, .int (iI a0_readSize), .ref a0_opens, .ref a0_chains, .ref a0_factors, .ref a0_plains, .ref a0_belows, .ref a0_owned, .int (iI a0_deep), .ref a0_wides, .ref a0_highs, .ref a0_lows, .ref a0_itemWides, .ref a0_pile])), (a0_line, .inl (cs.1, 1024, .inl (aI r1.2.1))), (a0_now, .inl (cs.1, 184, .inl (aI a0_nowF))), (a0_pile, .inl (cs.1, 64, .inl (aI r1.2.2)))] [] 46 [.int (iI z7)]) h (fun z7 h => ?_) (fun k6 hk6 h => ?_)
    · obtain rfl := Option.some.inj h
      exact fin _ 46 dX8_linearAt_46
    · refine j_if_eq (pc := 33) 40 ok dX8_linearAt_33 (by decide) h (fun h => ?_) (fun h => ?_)
      · refine j_aload_n (pc := 40) 0 ok dX8_linearAt_40 rfl rfl ?_
        refine gf_X8_32_8 (pc := 41) 0 ok rfl dX8_linearAt_41 ?_
        refine j_iload_n (pc := 44) 1 ok dX8_linearAt_44 rfl rfl ?_
        refine j_iald (pc := 45) 1 ok rfl dX8_linearAt_45 h (fun h => ?_)
        refine j_lv [] rfl ?_
        exact hk6 (r1.2.1 x1.toNat) h
      · refine j_iconst (pc := 36) ok dX8_linearAt_36 ?_
        refine j_goto (pc := 37) 46 ok dX8_linearAt_37 (by decide) ?_
        refine j_lv [] rfl ?_
        exact hk6 0 h
  · refine j_if_eq (pc := 22) 29 ok dX8_linearAt_22 (by decide) h (fun h => ?_) (fun h => ?_)
    · refine j_iconst (pc := 29) ok dX8_linearAt_29 ?_
      exact hk3 1 h
    · refine j_iconst (pc := 25) ok dX8_linearAt_25 ?_
      refine j_goto (pc := 26) 30 ok dX8_linearAt_26 (by decide) ?_
      exact hk3 0 h
def f_X8_moveTo (a0_refusal : Int) (a0_nowF : (Nat → Int)) (x1 : Int) : Option (Int × Int × (Nat → Int)) := bd (f_X8_isPlace a0_nowF x1) (fun r1 => jn (fun (z3 : Int) => bd (f_X8_refused a0_refusal z3) (fun r4 => cEq r4.1 0 (gIn 181 184 (gIn 181 184 (gIn 182 184 (some (a0_nowF (181 : Int).toNat, r4.2, va_up (va_up a0_nowF (181 : Int).toNat x1) (182 : Int).toNat ((-9))))))) (some (0, r4.2, a0_nowF)))) (fun k2 => cEq r1 0 (k2 1) (k2 0)))
set_option maxRecDepth 100000 in
set_option maxHeartbeats 4000000 in
theorem k_X8_moveTo {D : va_G} {cs : q_CS} {a0 a0_text a0_now a0_trial a0_diary a0_kept a0_isKept a0_clip a0_line a0_read a0_opens a0_chains a0_factors a0_plains a0_belows a0_owned a0_wides a0_highs a0_lows a0_itemWides a0_pile : Nat} {a0_refusal a0_textSize a0_acts a0_lineSize a0_readSize a0_deep : Int} {a0_nowF : (Nat → Int)} {x1 : Int} {r : (Int × Int × (Nat → Int))} (h : f_X8_moveTo a0_refusal a0_nowF x1 = some r) : q_M D cs yX8_moveTo cX8_moveTo 3 (some .int) 2 46 [.ref a0, .int (iI x1)] [(a0, .inr (8, [.int (iI a0_refusal), .ref a0_text, .int (iI a0_textSize), .ref a0_now, .ref a0_trial, .ref a0_diary, .int (iI a0_acts), .ref a0_kept, .ref a0_isKept, .ref a0_clip, .ref a0_line, .int (iI a0_lineSize), .ref a0_read, .int (iI a0_readSize), .ref a0_opens, .ref a0_chains, .ref a0_factors, .ref a0_plains, .ref a0_belows, .ref a0_owned, .int (iI a0_deep), .ref a0_wides, .ref a0_highs, .ref a0_lows, .ref a0_itemWides, .ref a0_pile])), (a0_now, .inl (cs.1, 184, .inl (aI a0_nowF)))] (some (.int (iI r.1))) [(a0, .inr (8, [.int (iI r.2.1), .ref a0_text, .int (iI a0_textSize), .ref a0_now, .ref a0_trial, .ref a0_diary, .int (iI a0_acts), .ref a0_kept, .ref a0_isKept, .ref a0_clip, .ref a0_line, .int (iI a0_lineSize), .ref a0_read, .int (iI a0_readSize), .ref a0_opens, .ref a0_chains, .ref a0_factors, .ref a0_plains, .ref a0_belows, .ref a0_owned, .int (iI a0_deep), .ref a0_wides, .ref a0_highs, .ref a0_lows, .ref a0_itemWides, .ref a0_pile])), (a0_now, .inl (cs.1, 184, .inl (aI r.2.2)))] := by
  refine q_start_i [(0, .ref a0), (1, .int (iI x1))] RX8 rfl (by decide +kernel) rfl (Nat.le_of_ble_eq_true rfl) rfl (fun κ ok fin => ?_)
  unfold f_X8_moveTo at h
  refine j_aload_n (pc := 0) 0 ok dX8_moveTo_0 rfl rfl ?_
  refine j_aload_n (pc := 1) 0 ok dX8_moveTo_1 rfl rfl ?_
  refine j_iload_n (pc := 2) 1 ok dX8_moveTo_2 rfl rfl ?_
  obtain ⟨r1, hr1, h⟩ := bd_inv h
  refine j_callV (pc := 3) ok (k_X8_isPlace (a0 := a0) (a0_text := a0_text) (a0_now := a0_now) (a0_trial := a0_trial) (a0_diary := a0_diary) (a0_kept := a0_kept) (a0_isKept := a0_isKept) (a0_clip := a0_clip) (a0_line := a0_line) (a0_read := a0_read) (a0_opens := a0_opens) (a0_chains := a0_chains) (a0_factors := a0_factors) (a0_plains := a0_plains) (a0_belows := a0_belows) (a0_owned := a0_owned) (a0_wides := a0_wides) (a0_highs := a0_highs) (a0_lows := a0_lows) (a0_itemWides := a0_itemWides) (a0_pile := a0_pile) (a0_refusal := a0_refusal) (a0_textSize := a0_textSize) (a0_acts := a0_acts) (a0_lineSize := a0_lineSize) (a0_readSize := a0_readSize) (a0_deep := a0_deep) (a0_nowF := a0_nowF) (x1 := x1) hr1) gV_X8_185 ⟨rfl, hd_X8_isPlace⟩ [0, 1] (by decide) rfl rfl 0 rfl rfl rfl rfl ⟨Nat.zero_le _, Nat.zero_le _⟩ (Nat.le_of_ble_eq_true rfl) dX8_moveTo_3 rfl [(a0, .inr (8, [.int (iI a0_refusal), .ref a0_text, .int (iI a0_textSize), .ref a0_now, .ref a0_trial, .ref a0_diary, .int (iI a0_acts), .ref a0_kept, .ref a0_isKept, .ref a0_clip, .ref a0_line, .int (iI a0_lineSize), .ref a0_read, .int (iI a0_readSize), .ref a0_opens, .ref a0_chains, .ref a0_factors, .ref a0_plains, .ref a0_belows, .ref a0_owned, .int (iI a0_deep), .ref a0_wides, .ref a0_highs, .ref a0_lows, .ref a0_itemWides, .ref a0_pile])), (a0_now, .inl (cs.1, 184, .inl (aI a0_nowF)))] rfl ?_
  refine jn_use (P := fun z3 => q_J D κ 3 0 0 [(a0, .inr (8, [.int (iI a0_refusal), .ref a0_text, .int (iI a0_textSize), .ref a0_now, .ref a0_trial, .ref a0_diary, .int (iI a0_acts), .ref a0_kept, .ref a0_isKept, .ref a0_clip, .ref a0_line, .int (iI a0_lineSize), .ref a0_read, .int (iI a0_readSize), .ref a0_opens, .ref a0_chains, .ref a0_factors, .ref a0_plains, .ref a0_belows, .ref a0_owned, .int (iI a0_deep), .ref a0_wides, .ref a0_highs, .ref a0_lows, .ref a0_itemWides, .ref a0_pile])), (a0_now, .inl (cs.1, 184, .inl (aI a0_nowF)))] [(0, .ref a0), (1, .int (iI x1))] 14 [.int (iI z3), .ref a0]) h (fun z3 h => ?_) (fun k2 hk2 h => ?_)
  · obtain ⟨r4, hr4, h⟩ := bd_inv h
    refine j_callV (pc := 14) ok (k_X8_refused (a0 := a0) (a0_text := a0_text) (a0_now := a0_now) (a0_trial := a0_trial) (a0_diary := a0_diary) (a0_kept := a0_kept) (a0_isKept := a0_isKept) (a0_clip := a0_clip) (a0_line := a0_line) (a0_read := a0_read) (a0_opens := a0_opens) (a0_chains := a0_chains) (a0_factors := a0_factors) (a0_plains := a0_plains) (a0_belows := a0_belows) (a0_owned := a0_owned) (a0_wides := a0_wides) (a0_highs := a0_highs) (a0_lows := a0_lows) (a0_itemWides := a0_itemWides) (a0_pile := a0_pile) (a0_refusal := a0_refusal) (a0_textSize := a0_textSize) (a0_acts := a0_acts) (a0_lineSize := a0_lineSize) (a0_readSize := a0_readSize) (a0_deep := a0_deep) (x1 := z3) hr4) gV_X8_150 ⟨rfl, hd_X8_refused⟩ [0] (by decide) rfl rfl 0 rfl rfl rfl rfl ⟨Nat.zero_le _, Nat.zero_le _⟩ (Nat.le_of_ble_eq_true rfl) dX8_moveTo_14 rfl [(a0, .inr (8, [.int (iI r4.2), .ref a0_text, .int (iI a0_textSize), .ref a0_now, .ref a0_trial, .ref a0_diary, .int (iI a0_acts), .ref a0_kept, .ref a0_isKept, .ref a0_clip, .ref a0_line, .int (iI a0_lineSize), .ref a0_read, .int (iI a0_readSize), .ref a0_opens, .ref a0_chains, .ref a0_factors, .ref a0_plains, .ref a0_belows, .ref a0_owned, .int (iI a0_deep), .ref a0_wides, .ref a0_highs, .ref a0_lows, .ref a0_itemWides, .ref a0_pile])), (a0_now, .inl (cs.1, 184, .inl (aI a0_nowF)))] rfl ?_
    refine j_if_eq (pc := 17) 22 ok dX8_moveTo_17 (by decide) h (fun h => ?_) (fun h => ?_)
    · refine j_aload_n (pc := 22) 0 ok dX8_moveTo_22 rfl rfl ?_
      refine gf_X8_13_8 (pc := 23) 0 ok rfl dX8_moveTo_23 ?_
      refine j_sipush (pc := 26) ok dX8_moveTo_26 (by decide) ?_
      refine j_iald (pc := 29) 1 ok rfl dX8_moveTo_29 h (fun h => ?_)
      refine j_istore_n (pc := 30) (lv' := [(2, .int (iI (a0_nowF (181 : Int).toNat))), (0, .ref a0), (1, .int (iI x1))]) ok dX8_moveTo_30 rfl (by decide) rfl ?_
      refine j_aload_n (pc := 31) 1 ok dX8_moveTo_31 rfl rfl ?_
      refine gf_X8_13_8 (pc := 32) 0 ok rfl dX8_moveTo_32 ?_
      refine j_sipush (pc := 35) ok dX8_moveTo_35 (by decide) ?_
      refine j_iload_n (pc := 38) 2 ok dX8_moveTo_38 rfl rfl ?_
      refine j_iastw (pc := 39) 1 ok rfl dX8_moveTo_39 h [(a0, .inr (8, [.int (iI r4.2), .ref a0_text, .int (iI a0_textSize), .ref a0_now, .ref a0_trial, .ref a0_diary, .int (iI a0_acts), .ref a0_kept, .ref a0_isKept, .ref a0_clip, .ref a0_line, .int (iI a0_lineSize), .ref a0_read, .int (iI a0_readSize), .ref a0_opens, .ref a0_chains, .ref a0_factors, .ref a0_plains, .ref a0_belows, .ref a0_owned, .int (iI a0_deep), .ref a0_wides, .ref a0_highs, .ref a0_lows, .ref a0_itemWides, .ref a0_pile])), (a0_now, .inl (cs.1, 184, .inl (aI (va_up a0_nowF (181 : Int).toNat x1))))] rfl (fun h => ?_)
      refine j_aload_n (pc := 40) 1 ok dX8_moveTo_40 rfl rfl ?_
      refine gf_X8_13_8 (pc := 41) 0 ok rfl dX8_moveTo_41 ?_
      refine j_sipush (pc := 44) ok dX8_moveTo_44 (by decide) ?_
      refine j_bipush (pc := 47) ok dX8_moveTo_47 (by decide) ?_
      refine j_iastw (pc := 49) 1 ok rfl dX8_moveTo_49 h [(a0, .inr (8, [.int (iI r4.2), .ref a0_text, .int (iI a0_textSize), .ref a0_now, .ref a0_trial, .ref a0_diary, .int (iI a0_acts), .ref a0_kept, .ref a0_isKept, .ref a0_clip, .ref a0_line, .int (iI a0_lineSize), .ref a0_read, .int (iI a0_readSize), .ref a0_opens, .ref a0_chains, .ref a0_factors, .ref a0_plains, .ref a0_belows, .ref a0_owned, .int (iI a0_deep), .ref a0_wides, .ref a0_highs, .ref a0_lows, .ref a0_itemWides, .ref a0_pile])), (a0_now, .inl (cs.1, 184, .inl (aI (va_up (va_up a0_nowF (181 : Int).toNat x1) (182 : Int).toNat ((-9))))))] rfl (fun h => ?_)
      refine j_iload_n (pc := 50) 0 ok dX8_moveTo_50 rfl rfl ?_
      obtain rfl := Option.some.inj h
      exact fin _ 51 dX8_moveTo_51
    · refine j_iconst (pc := 20) ok dX8_moveTo_20 ?_
      obtain rfl := Option.some.inj h
      exact fin _ 21 dX8_moveTo_21
  · refine j_if_eq (pc := 6) 13 ok dX8_moveTo_6 (by decide) h (fun h => ?_) (fun h => ?_)
    · refine j_iconst (pc := 13) ok dX8_moveTo_13 ?_
      exact hk2 1 h
    · refine j_iconst (pc := 9) ok dX8_moveTo_9 ?_
      refine j_goto (pc := 10) 14 ok dX8_moveTo_10 (by decide) ?_
      exact hk2 0 h
def f_X8_moveBy (a0_refusal : Int) (a0_nowF : (Nat → Int)) (x1 : Int) : Option (Int × Int × (Nat → Int)) := gR x1 (bd (f_X8_in x1 ((-200)) 200) (fun r1 => jn (fun (z3 : Int) => bd (f_X8_refused a0_refusal z3) (fun r4 => cEq r4.1 0 (bd (f_X8_moves 184 a0_nowF x1) (fun r5 => gIn 181 184 (some (r5 (181 : Int).toNat, r4.2, r5)))) (some (0, r4.2, a0_nowF)))) (fun k2 => cEq r1 0 (k2 1) (k2 0))))
set_option maxRecDepth 100000 in
set_option maxHeartbeats 4000000 in
theorem k_X8_moveBy {D : va_G} {cs : q_CS} {a0 a0_text a0_now a0_trial a0_diary a0_kept a0_isKept a0_clip a0_line a0_read a0_opens a0_chains a0_factors a0_plains a0_belows a0_owned a0_wides a0_highs a0_lows a0_itemWides a0_pile : Nat} {a0_refusal a0_textSize a0_acts a0_lineSize a0_readSize a0_deep : Int} {a0_nowF : (Nat → Int)} {x1 : Int} {r : (Int × Int × (Nat → Int))} (h : f_X8_moveBy a0_refusal a0_nowF x1 = some r) : q_M D cs yX8_moveBy cX8_moveBy 2 (some .int) 1 25 [.ref a0, .int (iI x1)] [(a0, .inr (8, [.int (iI a0_refusal), .ref a0_text, .int (iI a0_textSize), .ref a0_now, .ref a0_trial, .ref a0_diary, .int (iI a0_acts), .ref a0_kept, .ref a0_isKept, .ref a0_clip, .ref a0_line, .int (iI a0_lineSize), .ref a0_read, .int (iI a0_readSize), .ref a0_opens, .ref a0_chains, .ref a0_factors, .ref a0_plains, .ref a0_belows, .ref a0_owned, .int (iI a0_deep), .ref a0_wides, .ref a0_highs, .ref a0_lows, .ref a0_itemWides, .ref a0_pile])), (a0_now, .inl (cs.1, 184, .inl (aI a0_nowF)))] (some (.int (iI r.1))) [(a0, .inr (8, [.int (iI r.2.1), .ref a0_text, .int (iI a0_textSize), .ref a0_now, .ref a0_trial, .ref a0_diary, .int (iI a0_acts), .ref a0_kept, .ref a0_isKept, .ref a0_clip, .ref a0_line, .int (iI a0_lineSize), .ref a0_read, .int (iI a0_readSize), .ref a0_opens, .ref a0_chains, .ref a0_factors, .ref a0_plains, .ref a0_belows, .ref a0_owned, .int (iI a0_deep), .ref a0_wides, .ref a0_highs, .ref a0_lows, .ref a0_itemWides, .ref a0_pile])), (a0_now, .inl (cs.1, 184, .inl (aI r.2.2)))] := by
  refine q_start_i [(0, .ref a0), (1, .int (iI x1))] RX8 rfl (by decide +kernel) rfl (Nat.le_of_ble_eq_true rfl) rfl (fun κ ok fin => ?_)
  unfold f_X8_moveBy at h
  refine j_aload_n (pc := 0) 0 ok dX8_moveBy_0 rfl rfl ?_
  refine j_iload_n (pc := 1) 1 ok dX8_moveBy_1 rfl rfl ?_
  refine j_i2l (pc := 2) ok dX8_moveBy_2 h (fun h => ?_)
  refine j_ldc2 (pc := 3) (-200) ok dX8_moveBy_3 (q_in 1377 (by decide +kernel) (by decide +kernel)) ?_
  refine j_ldc2 (pc := 6) 200 ok dX8_moveBy_6 (q_in 1378 (by decide +kernel) (by decide +kernel)) ?_
  obtain ⟨r1, hr1, h⟩ := bd_inv h
  refine j_callS (pc := 9) ok (k_X8_in (x0 := x1) (x1 := (-200)) (x2 := 200) hr1) gS_X8_79 hd_X8_in [] (by decide) rfl rfl rfl rfl ⟨Nat.zero_le _, Nat.zero_le _⟩ (Nat.le_of_ble_eq_true rfl) dX8_moveBy_9 rfl [(a0, .inr (8, [.int (iI a0_refusal), .ref a0_text, .int (iI a0_textSize), .ref a0_now, .ref a0_trial, .ref a0_diary, .int (iI a0_acts), .ref a0_kept, .ref a0_isKept, .ref a0_clip, .ref a0_line, .int (iI a0_lineSize), .ref a0_read, .int (iI a0_readSize), .ref a0_opens, .ref a0_chains, .ref a0_factors, .ref a0_plains, .ref a0_belows, .ref a0_owned, .int (iI a0_deep), .ref a0_wides, .ref a0_highs, .ref a0_lows, .ref a0_itemWides, .ref a0_pile])), (a0_now, .inl (cs.1, 184, .inl (aI a0_nowF)))] rfl ?_
  refine jn_use (P := fun z3 => q_J D κ 2 0 0 [(a0, .inr (8, [.int (iI a0_refusal), .ref a0_text, .int (iI a0_textSize), .ref a0_now, .ref a0_trial, .ref a0_diary, .int (iI a0_acts), .ref a0_kept, .ref a0_isKept, .ref a0_clip, .ref a0_line, .int (iI a0_lineSize), .ref a0_read, .int (iI a0_readSize), .ref a0_opens, .ref a0_chains, .ref a0_factors, .ref a0_plains, .ref a0_belows, .ref a0_owned, .int (iI a0_deep), .ref a0_wides, .ref a0_highs, .ref a0_lows, .ref a0_itemWides, .ref a0_pile])), (a0_now, .inl (cs.1, 184, .inl (aI a0_nowF)))] [(0, .ref a0), (1, .int (iI x1))] 20 [.int (iI z3), .ref a0]) h (fun z3 h => ?_) (fun k2 hk2 h => ?_)
  · obtain ⟨r4, hr4, h⟩ := bd_inv h
    refine j_callV (pc := 20) ok (k_X8_refused (a0 := a0) (a0_text := a0_text) (a0_now := a0_now) (a0_trial := a0_trial) (a0_diary := a0_diary) (a0_kept := a0_kept) (a0_isKept := a0_isKept) (a0_clip := a0_clip) (a0_line := a0_line) (a0_read := a0_read) (a0_opens := a0_opens) (a0_chains := a0_chains) (a0_factors := a0_factors) (a0_plains := a0_plains) (a0_belows := a0_belows) (a0_owned := a0_owned) (a0_wides := a0_wides) (a0_highs := a0_highs) (a0_lows := a0_lows) (a0_itemWides := a0_itemWides) (a0_pile := a0_pile) (a0_refusal := a0_refusal) (a0_textSize := a0_textSize) (a0_acts := a0_acts) (a0_lineSize := a0_lineSize) (a0_readSize := a0_readSize) (a0_deep := a0_deep) (x1 := z3) hr4) gV_X8_150 ⟨rfl, hd_X8_refused⟩ [0] (by decide) rfl rfl 0 rfl rfl rfl rfl ⟨Nat.zero_le _, Nat.zero_le _⟩ (Nat.le_of_ble_eq_true rfl) dX8_moveBy_20 rfl [(a0, .inr (8, [.int (iI r4.2), .ref a0_text, .int (iI a0_textSize), .ref a0_now, .ref a0_trial, .ref a0_diary, .int (iI a0_acts), .ref a0_kept, .ref a0_isKept, .ref a0_clip, .ref a0_line, .int (iI a0_lineSize), .ref a0_read, .int (iI a0_readSize), .ref a0_opens, .ref a0_chains, .ref a0_factors, .ref a0_plains, .ref a0_belows, .ref a0_owned, .int (iI a0_deep), .ref a0_wides, .ref a0_highs, .ref a0_lows, .ref a0_itemWides, .ref a0_pile])), (a0_now, .inl (cs.1, 184, .inl (aI a0_nowF)))] rfl ?_
    refine j_if_eq (pc := 23) 28 ok dX8_moveBy_23 (by decide) h (fun h => ?_) (fun h => ?_)
    · refine j_aload_n (pc := 28) 0 ok dX8_moveBy_28 rfl rfl ?_
      refine gf_X8_13_8 (pc := 29) 0 ok rfl dX8_moveBy_29 ?_
      refine j_iload_n (pc := 32) 1 ok dX8_moveBy_32 rfl rfl ?_
      obtain ⟨r5, hr5, h⟩ := bd_inv h
      refine j_callS (pc := 33) ok (k_X8_moves (a0 := a0_now) (a0N := 184) (a0F := a0_nowF) (x1 := x1) hr5) gS_X8_214 hd_X8_moves [1] (by decide) rfl rfl rfl rfl ⟨Nat.zero_le _, Nat.zero_le _⟩ (Nat.le_of_ble_eq_true rfl) dX8_moveBy_33 rfl [(a0, .inr (8, [.int (iI r4.2), .ref a0_text, .int (iI a0_textSize), .ref a0_now, .ref a0_trial, .ref a0_diary, .int (iI a0_acts), .ref a0_kept, .ref a0_isKept, .ref a0_clip, .ref a0_line, .int (iI a0_lineSize), .ref a0_read, .int (iI a0_readSize), .ref a0_opens, .ref a0_chains, .ref a0_factors, .ref a0_plains, .ref a0_belows, .ref a0_owned, .int (iI a0_deep), .ref a0_wides, .ref a0_highs, .ref a0_lows, .ref a0_itemWides, .ref a0_pile])), (a0_now, .inl (cs.1, 184, .inl (aI r5)))] rfl ?_
      refine j_aload_n (pc := 36) 0 ok dX8_moveBy_36 rfl rfl ?_
      refine gf_X8_13_8 (pc := 37) 0 ok rfl dX8_moveBy_37 ?_
      refine j_sipush (pc := 40) ok dX8_moveBy_40 (by decide) ?_
      refine j_iald (pc := 43) 1 ok rfl dX8_moveBy_43 h (fun h => ?_)
      obtain rfl := Option.some.inj h
      exact fin _ 44 dX8_moveBy_44
    · refine j_iconst (pc := 26) ok dX8_moveBy_26 ?_
      obtain rfl := Option.some.inj h
      exact fin _ 27 dX8_moveBy_27
  · refine j_if_eq (pc := 12) 19 ok dX8_moveBy_12 (by decide) h (fun h => ?_) (fun h => ?_)
    · refine j_iconst (pc := 19) ok dX8_moveBy_19 ?_
      exact hk2 1 h
    · refine j_iconst (pc := 15) ok dX8_moveBy_15 ?_
      refine j_goto (pc := 16) 20 ok dX8_moveBy_16 (by decide) ?_
      exact hk2 0 h
def f_X8_goTo (a0_nowF : (Nat → Int)) (x1 : Int) : Option (Int × (Nat → Int)) := gIn 181 184 (gIn 182 184 (some (x1, va_up (va_up a0_nowF (181 : Int).toNat x1) (182 : Int).toNat ((-9)))))
set_option maxRecDepth 100000 in
set_option maxHeartbeats 4000000 in
theorem k_X8_goTo {D : va_G} {cs : q_CS} {a0 a0_text a0_now a0_trial a0_diary a0_kept a0_isKept a0_clip a0_line a0_read a0_opens a0_chains a0_factors a0_plains a0_belows a0_owned a0_wides a0_highs a0_lows a0_itemWides a0_pile : Nat} {a0_refusal a0_textSize a0_acts a0_lineSize a0_readSize a0_deep : Int} {a0_nowF : (Nat → Int)} {x1 : Int} {r : (Int × (Nat → Int))} (h : f_X8_goTo a0_nowF x1 = some r) : q_M D cs yX8_goTo cX8_goTo 2 (some .int) 0 0 [.ref a0, .int (iI x1)] [(a0, .inr (8, [.int (iI a0_refusal), .ref a0_text, .int (iI a0_textSize), .ref a0_now, .ref a0_trial, .ref a0_diary, .int (iI a0_acts), .ref a0_kept, .ref a0_isKept, .ref a0_clip, .ref a0_line, .int (iI a0_lineSize), .ref a0_read, .int (iI a0_readSize), .ref a0_opens, .ref a0_chains, .ref a0_factors, .ref a0_plains, .ref a0_belows, .ref a0_owned, .int (iI a0_deep), .ref a0_wides, .ref a0_highs, .ref a0_lows, .ref a0_itemWides, .ref a0_pile])), (a0_now, .inl (cs.1, 184, .inl (aI a0_nowF)))] (some (.int (iI r.1))) [(a0, .inr (8, [.int (iI a0_refusal), .ref a0_text, .int (iI a0_textSize), .ref a0_now, .ref a0_trial, .ref a0_diary, .int (iI a0_acts), .ref a0_kept, .ref a0_isKept, .ref a0_clip, .ref a0_line, .int (iI a0_lineSize), .ref a0_read, .int (iI a0_readSize), .ref a0_opens, .ref a0_chains, .ref a0_factors, .ref a0_plains, .ref a0_belows, .ref a0_owned, .int (iI a0_deep), .ref a0_wides, .ref a0_highs, .ref a0_lows, .ref a0_itemWides, .ref a0_pile])), (a0_now, .inl (cs.1, 184, .inl (aI r.2)))] := by
  refine q_start_i [(0, .ref a0), (1, .int (iI x1))] RX8 rfl (by decide +kernel) rfl (Nat.le_of_ble_eq_true rfl) rfl (fun κ ok fin => ?_)
  unfold f_X8_goTo at h
  refine j_aload_n (pc := 0) 0 ok dX8_goTo_0 rfl rfl ?_
  refine gf_X8_13_8 (pc := 1) 0 ok rfl dX8_goTo_1 ?_
  refine j_sipush (pc := 4) ok dX8_goTo_4 (by decide) ?_
  refine j_iload_n (pc := 7) 1 ok dX8_goTo_7 rfl rfl ?_
  refine j_iastw (pc := 8) 1 ok rfl dX8_goTo_8 h [(a0, .inr (8, [.int (iI a0_refusal), .ref a0_text, .int (iI a0_textSize), .ref a0_now, .ref a0_trial, .ref a0_diary, .int (iI a0_acts), .ref a0_kept, .ref a0_isKept, .ref a0_clip, .ref a0_line, .int (iI a0_lineSize), .ref a0_read, .int (iI a0_readSize), .ref a0_opens, .ref a0_chains, .ref a0_factors, .ref a0_plains, .ref a0_belows, .ref a0_owned, .int (iI a0_deep), .ref a0_wides, .ref a0_highs, .ref a0_lows, .ref a0_itemWides, .ref a0_pile])), (a0_now, .inl (cs.1, 184, .inl (aI (va_up a0_nowF (181 : Int).toNat x1))))] rfl (fun h => ?_)
  refine j_aload_n (pc := 9) 0 ok dX8_goTo_9 rfl rfl ?_
  refine gf_X8_13_8 (pc := 10) 0 ok rfl dX8_goTo_10 ?_
  refine j_sipush (pc := 13) ok dX8_goTo_13 (by decide) ?_
  refine j_bipush (pc := 16) ok dX8_goTo_16 (by decide) ?_
  refine j_iastw (pc := 18) 1 ok rfl dX8_goTo_18 h [(a0, .inr (8, [.int (iI a0_refusal), .ref a0_text, .int (iI a0_textSize), .ref a0_now, .ref a0_trial, .ref a0_diary, .int (iI a0_acts), .ref a0_kept, .ref a0_isKept, .ref a0_clip, .ref a0_line, .int (iI a0_lineSize), .ref a0_read, .int (iI a0_readSize), .ref a0_opens, .ref a0_chains, .ref a0_factors, .ref a0_plains, .ref a0_belows, .ref a0_owned, .int (iI a0_deep), .ref a0_wides, .ref a0_highs, .ref a0_lows, .ref a0_itemWides, .ref a0_pile])), (a0_now, .inl (cs.1, 184, .inl (aI (va_up (va_up a0_nowF (181 : Int).toNat x1) (182 : Int).toNat ((-9))))))] rfl (fun h => ?_)
  refine j_iload_n (pc := 19) 1 ok dX8_goTo_19 rfl rfl ?_
  obtain rfl := Option.some.inj h
  exact fin _ 20 dX8_goTo_20
def f_X8_moveVertically_152 (a0_nowF : (Nat → Int)) (y7 : Int) (y9 : Int) (e152_183 : Int × Int → Option (Int × Int × (Nat → Int))) : Nat → Int → Int → Option (Int × Int × (Nat → Int))
  | 0, _, _ => none
  | n + 1, y8, y10 => cLt y10 y7 (cLt y8 y9 (bd (f_X8_itemEnd 184 a0_nowF y8) (fun r15 => f_X8_moveVertically_152 a0_nowF y7 y9 e152_183 n r15 (y10 + 1))) (e152_183 (y8, y10))) (e152_183 (y8, y10))
set_option maxRecDepth 100000 in
theorem l_X8_moveVertically_152 {D : va_G} {cs : q_CS} {κ : q_X} {a0 a0_text a0_now a0_trial a0_diary a0_kept a0_isKept a0_clip a0_line a0_read a0_opens a0_chains a0_factors a0_plains a0_belows a0_owned a0_wides a0_highs a0_lows a0_itemWides a0_pile : Nat} {a0_refusal a0_textSize a0_acts a0_lineSize a0_readSize a0_deep : Int} {a0_nowF : (Nat → Int)} {y7 y9 : Int} {r : (Int × Int × (Nat → Int))} {e152_183 : Int × Int → Option (Int × Int × (Nat → Int))} (ok : q_ok D cs κ cX8_moveVertically 11 RX8 (q_rm 4 88)) (fin : ∀ (lv : List (Nat × Value)) (pc : Nat), decode cX8_moveVertically pc = .ok (.ireturn, 1) → q_J D κ 11 0 0 [(a0, .inr (8, [.int (iI r.2.1), .ref a0_text, .int (iI a0_textSize), .ref a0_now, .ref a0_trial, .ref a0_diary, .int (iI a0_acts), .ref a0_kept, .ref a0_isKept, .ref a0_clip, .ref a0_line, .int (iI a0_lineSize), .ref a0_read, .int (iI a0_readSize), .ref a0_opens, .ref a0_chains, .ref a0_factors, .ref a0_plains, .ref a0_belows, .ref a0_owned, .int (iI a0_deep), .ref a0_wides, .ref a0_highs, .ref a0_lows, .ref a0_itemWides, .ref a0_pile])), (a0_now, .inl (cs.1, 184, .inl (aI r.2.2)))] lv pc [.int (iI r.1)]) (he152_183 : ∀ x : Int × Int, e152_183 x = some r → q_J D κ 11 0 0 [(a0, .inr (8, [.int (iI a0_refusal), .ref a0_text, .int (iI a0_textSize), .ref a0_now, .ref a0_trial, .ref a0_diary, .int (iI a0_acts), .ref a0_kept, .ref a0_isKept, .ref a0_clip, .ref a0_line, .int (iI a0_lineSize), .ref a0_read, .int (iI a0_readSize), .ref a0_opens, .ref a0_chains, .ref a0_factors, .ref a0_plains, .ref a0_belows, .ref a0_owned, .int (iI a0_deep), .ref a0_wides, .ref a0_highs, .ref a0_lows, .ref a0_itemWides, .ref a0_pile])), (a0_now, .inl (cs.1, 184, .inl (aI a0_nowF)))] [(0, .ref a0), (8, .int (iI x.1))] 183 []) : ∀ (n : Nat) (y8 : Int) (y10 : Int), f_X8_moveVertically_152 a0_nowF y7 y9 e152_183 n y8 y10 = some r → q_J D κ 11 0 0 [(a0, .inr (8, [.int (iI a0_refusal), .ref a0_text, .int (iI a0_textSize), .ref a0_now, .ref a0_trial, .ref a0_diary, .int (iI a0_acts), .ref a0_kept, .ref a0_isKept, .ref a0_clip, .ref a0_line, .int (iI a0_lineSize), .ref a0_read, .int (iI a0_readSize), .ref a0_opens, .ref a0_chains, .ref a0_factors, .ref a0_plains, .ref a0_belows, .ref a0_owned, .int (iI a0_deep), .ref a0_wides, .ref a0_highs, .ref a0_lows, .ref a0_itemWides, .ref a0_pile])), (a0_now, .inl (cs.1, 184, .inl (aI a0_nowF)))] [(0, .ref a0), (7, .int (iI y7)), (8, .int (iI y8)), (9, .int (iI y9)), (10, .int (iI y10))] 152 [] := by
  intro n
  induction n with
  | zero =>
    intro y8 y10 h
    exact absurd h (by unfold f_X8_moveVertically_152; exact fun z => by cases z)
  | succ n ih =>
    intro y8 y10 h
    unfold f_X8_moveVertically_152 at h
    refine j_iload (pc := 152) 4 ok dX8_moveVertically_152 rfl ?_
    refine j_iload (pc := 154) 1 ok dX8_moveVertically_154 rfl ?_
    refine j_icmp_ge (pc := 156) 183 ok dX8_moveVertically_156 (by decide) h (fun h => ?_) (fun h => ?_)
    · refine j_lv [0, 2] rfl ?_
      exact he152_183 (y8, y10) h
    · refine j_iload (pc := 159) 2 ok dX8_moveVertically_159 rfl ?_
      refine j_iload (pc := 161) 3 ok dX8_moveVertically_161 rfl ?_
      refine j_icmp_ge (pc := 163) 183 ok dX8_moveVertically_163 (by decide) h (fun h => ?_) (fun h => ?_)
      · refine j_lv [0, 2] rfl ?_
        exact he152_183 (y8, y10) h
      · refine j_aload_n (pc := 166) 0 ok dX8_moveVertically_166 rfl rfl ?_
        refine gf_X8_13_8 (pc := 167) 0 ok rfl dX8_moveVertically_167 ?_
        refine j_iload (pc := 170) 2 ok dX8_moveVertically_170 rfl ?_
        obtain ⟨r15, hr15, h⟩ := bd_inv h
        refine j_callS (pc := 172) ok (k_X8_itemEnd (a0 := a0_now) (a0N := 184) (a0F := a0_nowF) (x1 := y8) hr15) gS_X8_107 hd_X8_itemEnd [1] (by decide) rfl rfl rfl rfl ⟨Nat.zero_le _, Nat.zero_le _⟩ (Nat.le_of_ble_eq_true rfl) dX8_moveVertically_172 rfl [(a0, .inr (8, [.int (iI a0_refusal), .ref a0_text, .int (iI a0_textSize), .ref a0_now, .ref a0_trial, .ref a0_diary, .int (iI a0_acts), .ref a0_kept, .ref a0_isKept, .ref a0_clip, .ref a0_line, .int (iI a0_lineSize), .ref a0_read, .int (iI a0_readSize), .ref a0_opens, .ref a0_chains, .ref a0_factors, .ref a0_plains, .ref a0_belows, .ref a0_owned, .int (iI a0_deep), .ref a0_wides, .ref a0_highs, .ref a0_lows, .ref a0_itemWides, .ref a0_pile])), (a0_now, .inl (cs.1, 184, .inl (aI a0_nowF)))] rfl ?_
        refine j_istore (pc := 175) (lv' := [(8, .int (iI r15)), (0, .ref a0), (7, .int (iI y7)), (9, .int (iI y9)), (10, .int (iI y10))]) ok dX8_moveVertically_175 (by decide) rfl ?_
        refine j_iinc (pc := 177) (lv' := [(10, .int (iI (y10 + 1))), (8, .int (iI r15)), (0, .ref a0), (7, .int (iI y7)), (9, .int (iI y9))]) 4 ok dX8_moveVertically_177 rfl (by decide) rfl ?_
        refine j_goto (pc := 180) 152 ok dX8_moveVertically_180 (by decide) ?_
        refine j_lv [2, 3, 1, 4, 0] rfl ?_
        exact ih _ _ h
def f_X8_moveVertically_26 (a0_refusal : Int) (y1 : Int) (e26_206 : (Nat → Int) × Int × Int → Option (Int × Int × (Nat → Int))) : Nat → (Nat → Int) → Int → Int → Option (Int × Int × (Nat → Int))
  | 0, _, _, _ => none
  | n + 1, a0_nowF, y3, y4 => cLt 0 y4 (gIn (y4 - 1) 184 (jn (fun (z3 : Int) => jn (fun (z6 : Int) => jn (fun (z18 : Unit) => bd (f_X8_rowStart 184 a0_nowF z6) (fun r19 => f_X8_moveVertically_26 a0_refusal y1 e26_206 n a0_nowF z6 r19)) (fun k8 => jn (fun (z9 : Unit) => bd (f_X8_itemsIn 184 a0_nowF y4 y3) (fun r10 => jn (fun (z13 : Int) => bd (f_X8_rowEnd 184 a0_nowF z13) (fun r14 => f_X8_moveVertically_152 a0_nowF r10 r14 (fun (z16 : Int × Int) => bd (f_X8_goTo a0_nowF z16.1) (fun r17 => some (r17.1, a0_refusal, r17.2))) fuel z13 0)) (fun k11 => cEq y1 0 (bd (f_X8_rowEnd 184 a0_nowF y4) (fun r12 => k11 (r12 + 1))) (k11 (z6 + 1))))) (fun k7 => cEq y1 0 (gIn (y4 - 1) 184 (cEq (a0_nowF (y4 - 1).toNat) ((-1)) (k7 ()) (k8 ()))) (cEq z3 0 (k8 ()) (k7 ()))))) (fun k4 => cEq z3 0 (k4 (y4 - 1)) (bd (f_X8_beginOf 184 a0_nowF (y4 - 1)) (fun r5 => k4 r5)))) (fun k2 => cEq (a0_nowF (y4 - 1).toNat) ((-10)) (k2 1) (k2 0)))) (e26_206 (a0_nowF, y3, y4))
set_option maxRecDepth 100000 in
theorem l_X8_moveVertically_26 {D : va_G} {cs : q_CS} {κ : q_X} {a0 a0_text a0_now a0_trial a0_diary a0_kept a0_isKept a0_clip a0_line a0_read a0_opens a0_chains a0_factors a0_plains a0_belows a0_owned a0_wides a0_highs a0_lows a0_itemWides a0_pile : Nat} {a0_refusal a0_textSize a0_acts a0_lineSize a0_readSize a0_deep : Int} {y1 y2 : Int} {r : (Int × Int × (Nat → Int))} {e26_206 : (Nat → Int) × Int × Int → Option (Int × Int × (Nat → Int))} (ok : q_ok D cs κ cX8_moveVertically 11 RX8 (q_rm 4 88)) (fin : ∀ (lv : List (Nat × Value)) (pc : Nat), decode cX8_moveVertically pc = .ok (.ireturn, 1) → q_J D κ 11 0 0 [(a0, .inr (8, [.int (iI r.2.1), .ref a0_text, .int (iI a0_textSize), .ref a0_now, .ref a0_trial, .ref a0_diary, .int (iI a0_acts), .ref a0_kept, .ref a0_isKept, .ref a0_clip, .ref a0_line, .int (iI a0_lineSize), .ref a0_read, .int (iI a0_readSize), .ref a0_opens, .ref a0_chains, .ref a0_factors, .ref a0_plains, .ref a0_belows, .ref a0_owned, .int (iI a0_deep), .ref a0_wides, .ref a0_highs, .ref a0_lows, .ref a0_itemWides, .ref a0_pile])), (a0_now, .inl (cs.1, 184, .inl (aI r.2.2)))] lv pc [.int (iI r.1)]) (he26_206 : ∀ x : (Nat → Int) × Int × Int, e26_206 x = some r → q_J D κ 11 0 0 [(a0, .inr (8, [.int (iI a0_refusal), .ref a0_text, .int (iI a0_textSize), .ref a0_now, .ref a0_trial, .ref a0_diary, .int (iI a0_acts), .ref a0_kept, .ref a0_isKept, .ref a0_clip, .ref a0_line, .int (iI a0_lineSize), .ref a0_read, .int (iI a0_readSize), .ref a0_opens, .ref a0_chains, .ref a0_factors, .ref a0_plains, .ref a0_belows, .ref a0_owned, .int (iI a0_deep), .ref a0_wides, .ref a0_highs, .ref a0_lows, .ref a0_itemWides, .ref a0_pile])), (a0_now, .inl (cs.1, 184, .inl (aI x.1)))] [(0, .ref a0), (1, .int (iI y1)), (2, .int (iI y2))] 206 []) : ∀ (n : Nat) (a0_nowF : (Nat → Int)) (y3 : Int) (y4 : Int), f_X8_moveVertically_26 a0_refusal y1 e26_206 n a0_nowF y3 y4 = some r → q_J D κ 11 0 0 [(a0, .inr (8, [.int (iI a0_refusal), .ref a0_text, .int (iI a0_textSize), .ref a0_now, .ref a0_trial, .ref a0_diary, .int (iI a0_acts), .ref a0_kept, .ref a0_isKept, .ref a0_clip, .ref a0_line, .int (iI a0_lineSize), .ref a0_read, .int (iI a0_readSize), .ref a0_opens, .ref a0_chains, .ref a0_factors, .ref a0_plains, .ref a0_belows, .ref a0_owned, .int (iI a0_deep), .ref a0_wides, .ref a0_highs, .ref a0_lows, .ref a0_itemWides, .ref a0_pile])), (a0_now, .inl (cs.1, 184, .inl (aI a0_nowF)))] [(0, .ref a0), (1, .int (iI y1)), (2, .int (iI y2)), (3, .int (iI y3)), (4, .int (iI y4))] 26 [] := by
  intro n
  induction n with
  | zero =>
    intro a0_nowF y3 y4 h
    exact absurd h (by unfold f_X8_moveVertically_26; exact fun z => by cases z)
  | succ n ih =>
    intro a0_nowF y3 y4 h
    unfold f_X8_moveVertically_26 at h
    refine j_iload (pc := 26) 4 ok dX8_moveVertically_26 rfl ?_
    refine j_if_le (pc := 28) 206 ok dX8_moveVertically_28 (by decide) h (fun h => ?_) (fun h => ?_)
    · refine j_lv [0, 1, 2] rfl ?_
      exact he26_206 (a0_nowF, y3, y4) h
    · refine j_aload_n (pc := 31) 0 ok dX8_moveVertically_31 rfl rfl ?_
      refine gf_X8_13_8 (pc := 32) 0 ok rfl dX8_moveVertically_32 ?_
      refine j_iload (pc := 35) 4 ok dX8_moveVertically_35 rfl ?_
      refine j_iconst (pc := 37) ok dX8_moveVertically_37 ?_
      refine j_isub (pc := 38) ok dX8_moveVertically_38 ?_
      refine j_iald (pc := 39) 1 ok rfl dX8_moveVertically_39 h (fun h => ?_)
      refine j_bipush (pc := 40) ok dX8_moveVertically_40 (by decide) ?_
      refine jn_use (P := fun z3 => q_J D κ 11 0 0 [(a0, .inr (8, [.int (iI a0_refusal), .ref a0_text, .int (iI a0_textSize), .ref a0_now, .ref a0_trial, .ref a0_diary, .int (iI a0_acts), .ref a0_kept, .ref a0_isKept, .ref a0_clip, .ref a0_line, .int (iI a0_lineSize), .ref a0_read, .int (iI a0_readSize), .ref a0_opens, .ref a0_chains, .ref a0_factors, .ref a0_plains, .ref a0_belows, .ref a0_owned, .int (iI a0_deep), .ref a0_wides, .ref a0_highs, .ref a0_lows, .ref a0_itemWides, .ref a0_pile])), (a0_now, .inl (cs.1, 184, .inl (aI a0_nowF)))] [(0, .ref a0), (1, .int (iI y1)), (2, .int (iI y2)), (3, .int (iI y3)), (4, .int (iI y4))] 50 [.int (iI z3)]) h (fun z3 h => ?_) (fun k2 hk2 h => ?_)
      · refine j_istore (pc := 50) (lv' := [(5, .int (iI z3)), (0, .ref a0), (1, .int (iI y1)), (2, .int (iI y2)), (3, .int (iI y3)), (4, .int (iI y4))]) ok dX8_moveVertically_50 (by decide) rfl ?_
        refine j_iload (pc := 52) 0 ok dX8_moveVertically_52 rfl ?_
        refine jn_use (P := fun z6 => q_J D κ 11 0 0 [(a0, .inr (8, [.int (iI a0_refusal), .ref a0_text, .int (iI a0_textSize), .ref a0_now, .ref a0_trial, .ref a0_diary, .int (iI a0_acts), .ref a0_kept, .ref a0_isKept, .ref a0_clip, .ref a0_line, .int (iI a0_lineSize), .ref a0_read, .int (iI a0_readSize), .ref a0_opens, .ref a0_chains, .ref a0_factors, .ref a0_plains, .ref a0_belows, .ref a0_owned, .int (iI a0_deep), .ref a0_wides, .ref a0_highs, .ref a0_lows, .ref a0_itemWides, .ref a0_pile])), (a0_now, .inl (cs.1, 184, .inl (aI a0_nowF)))] [(0, .ref a0), (1, .int (iI y1)), (2, .int (iI y2)), (3, .int (iI y3)), (4, .int (iI y4)), (5, .int (iI z3))] 75 [.int (iI z6)]) h (fun z6 h => ?_) (fun k4 hk4 h => ?_)
        · refine j_istore (pc := 75) (lv' := [(6, .int (iI z6)), (0, .ref a0), (1, .int (iI y1)), (2, .int (iI y2)), (3, .int (iI y3)), (4, .int (iI y4)), (5, .int (iI z3))]) ok dX8_moveVertically_75 (by decide) rfl ?_
          refine j_iload_n (pc := 77) 2 ok dX8_moveVertically_77 rfl rfl ?_
          refine jn_use (P := fun z18 => q_J D κ 11 0 0 [(a0, .inr (8, [.int (iI a0_refusal), .ref a0_text, .int (iI a0_textSize), .ref a0_now, .ref a0_trial, .ref a0_diary, .int (iI a0_acts), .ref a0_kept, .ref a0_isKept, .ref a0_clip, .ref a0_line, .int (iI a0_lineSize), .ref a0_read, .int (iI a0_readSize), .ref a0_opens, .ref a0_chains, .ref a0_factors, .ref a0_plains, .ref a0_belows, .ref a0_owned, .int (iI a0_deep), .ref a0_wides, .ref a0_highs, .ref a0_lows, .ref a0_itemWides, .ref a0_pile])), (a0_now, .inl (cs.1, 184, .inl (aI a0_nowF)))] [(0, .ref a0), (1, .int (iI y1)), (2, .int (iI y2)), (6, .int (iI z6))] 190 []) h (fun z18 h => ?_) (fun k8 hk8 h => ?_)
          · refine j_iload (pc := 190) 3 ok dX8_moveVertically_190 rfl ?_
            refine j_istore_n (pc := 192) (lv' := [(3, .int (iI z6)), (0, .ref a0), (1, .int (iI y1)), (2, .int (iI y2)), (6, .int (iI z6))]) ok dX8_moveVertically_192 rfl (by decide) rfl ?_
            refine j_aload_n (pc := 193) 1 ok dX8_moveVertically_193 rfl rfl ?_
            refine gf_X8_13_8 (pc := 194) 0 ok rfl dX8_moveVertically_194 ?_
            refine j_iload_n (pc := 197) 0 ok dX8_moveVertically_197 rfl rfl ?_
            obtain ⟨r19, hr19, h⟩ := bd_inv h
            refine j_callS (pc := 198) ok (k_X8_rowStart (a0 := a0_now) (a0N := 184) (a0F := a0_nowF) (x1 := z6) hr19) gS_X8_136 hd_X8_rowStart [1] (by decide) rfl rfl rfl rfl ⟨Nat.zero_le _, Nat.zero_le _⟩ (Nat.le_of_ble_eq_true rfl) dX8_moveVertically_198 rfl [(a0, .inr (8, [.int (iI a0_refusal), .ref a0_text, .int (iI a0_textSize), .ref a0_now, .ref a0_trial, .ref a0_diary, .int (iI a0_acts), .ref a0_kept, .ref a0_isKept, .ref a0_clip, .ref a0_line, .int (iI a0_lineSize), .ref a0_read, .int (iI a0_readSize), .ref a0_opens, .ref a0_chains, .ref a0_factors, .ref a0_plains, .ref a0_belows, .ref a0_owned, .int (iI a0_deep), .ref a0_wides, .ref a0_highs, .ref a0_lows, .ref a0_itemWides, .ref a0_pile])), (a0_now, .inl (cs.1, 184, .inl (aI a0_nowF)))] rfl ?_
            refine j_istore (pc := 201) (lv' := [(4, .int (iI r19)), (3, .int (iI z6)), (0, .ref a0), (1, .int (iI y1)), (2, .int (iI y2)), (6, .int (iI z6))]) ok dX8_moveVertically_201 (by decide) rfl ?_
            refine j_goto (pc := 203) 26 ok dX8_moveVertically_203 (by decide) ?_
            refine j_lv [2, 3, 4, 1, 0] rfl ?_
            exact ih _ _ _ h
          · refine jn_use (P := fun z9 => q_J D κ 11 0 0 [(a0, .inr (8, [.int (iI a0_refusal), .ref a0_text, .int (iI a0_textSize), .ref a0_now, .ref a0_trial, .ref a0_diary, .int (iI a0_acts), .ref a0_kept, .ref a0_isKept, .ref a0_clip, .ref a0_line, .int (iI a0_lineSize), .ref a0_read, .int (iI a0_readSize), .ref a0_opens, .ref a0_chains, .ref a0_factors, .ref a0_plains, .ref a0_belows, .ref a0_owned, .int (iI a0_deep), .ref a0_wides, .ref a0_highs, .ref a0_lows, .ref a0_itemWides, .ref a0_pile])), (a0_now, .inl (cs.1, 184, .inl (aI a0_nowF)))] [(0, .ref a0), (1, .int (iI y1)), (3, .int (iI y3)), (4, .int (iI y4)), (6, .int (iI z6))] 102 []) h (fun z9 h => ?_) (fun k7 hk7 h => ?_)
            · refine j_aload_n (pc := 102) 0 ok dX8_moveVertically_102 rfl rfl ?_
              refine gf_X8_13_8 (pc := 103) 0 ok rfl dX8_moveVertically_103 ?_
              refine j_iload (pc := 106) 3 ok dX8_moveVertically_106 rfl ?_
              refine j_iload_n (pc := 108) 2 ok dX8_moveVertically_108 rfl rfl ?_
              obtain ⟨r10, hr10, h⟩ := bd_inv h
              refine j_callS (pc := 109) ok (k_X8_itemsIn (a0 := a0_now) (a0N := 184) (a0F := a0_nowF) (x1 := y4) (x2 := y3) hr10) gS_X8_188 hd_X8_itemsIn [1] (by decide) rfl rfl rfl rfl ⟨Nat.zero_le _, Nat.zero_le _⟩ (Nat.le_of_ble_eq_true rfl) dX8_moveVertically_109 rfl [(a0, .inr (8, [.int (iI a0_refusal), .ref a0_text, .int (iI a0_textSize), .ref a0_now, .ref a0_trial, .ref a0_diary, .int (iI a0_acts), .ref a0_kept, .ref a0_isKept, .ref a0_clip, .ref a0_line, .int (iI a0_lineSize), .ref a0_read, .int (iI a0_readSize), .ref a0_opens, .ref a0_chains, .ref a0_factors, .ref a0_plains, .ref a0_belows, .ref a0_owned, .int (iI a0_deep), .ref a0_wides, .ref a0_highs, .ref a0_lows, .ref a0_itemWides, .ref a0_pile])), (a0_now, .inl (cs.1, 184, .inl (aI a0_nowF)))] rfl ?_
              refine j_istore (pc := 112) (lv' := [(7, .int (iI r10)), (0, .ref a0), (1, .int (iI y1)), (3, .int (iI y3)), (4, .int (iI y4)), (6, .int (iI z6))]) ok dX8_moveVertically_112 (by decide) rfl ?_
              refine j_iload_n (pc := 114) 2 ok dX8_moveVertically_114 rfl rfl ?_
              refine jn_use (P := fun z13 => q_J D κ 11 0 0 [(a0, .inr (8, [.int (iI a0_refusal), .ref a0_text, .int (iI a0_textSize), .ref a0_now, .ref a0_trial, .ref a0_diary, .int (iI a0_acts), .ref a0_kept, .ref a0_isKept, .ref a0_clip, .ref a0_line, .int (iI a0_lineSize), .ref a0_read, .int (iI a0_readSize), .ref a0_opens, .ref a0_chains, .ref a0_factors, .ref a0_plains, .ref a0_belows, .ref a0_owned, .int (iI a0_deep), .ref a0_wides, .ref a0_highs, .ref a0_lows, .ref a0_itemWides, .ref a0_pile])), (a0_now, .inl (cs.1, 184, .inl (aI a0_nowF)))] [(0, .ref a0), (7, .int (iI r10))] 136 [.int (iI z13)]) h (fun z13 h => ?_) (fun k11 hk11 h => ?_)
              · refine j_istore (pc := 136) (lv' := [(8, .int (iI z13)), (0, .ref a0), (7, .int (iI r10))]) ok dX8_moveVertically_136 (by decide) rfl ?_
                refine j_aload_n (pc := 138) 1 ok dX8_moveVertically_138 rfl rfl ?_
                refine gf_X8_13_8 (pc := 139) 0 ok rfl dX8_moveVertically_139 ?_
                refine j_iload (pc := 142) 0 ok dX8_moveVertically_142 rfl ?_
                obtain ⟨r14, hr14, h⟩ := bd_inv h
                refine j_callS (pc := 144) ok (k_X8_rowEnd (a0 := a0_now) (a0N := 184) (a0F := a0_nowF) (x1 := z13) hr14) gS_X8_142 hd_X8_rowEnd [1] (by decide) rfl rfl rfl rfl ⟨Nat.zero_le _, Nat.zero_le _⟩ (Nat.le_of_ble_eq_true rfl) dX8_moveVertically_144 rfl [(a0, .inr (8, [.int (iI a0_refusal), .ref a0_text, .int (iI a0_textSize), .ref a0_now, .ref a0_trial, .ref a0_diary, .int (iI a0_acts), .ref a0_kept, .ref a0_isKept, .ref a0_clip, .ref a0_line, .int (iI a0_lineSize), .ref a0_read, .int (iI a0_readSize), .ref a0_opens, .ref a0_chains, .ref a0_factors, .ref a0_plains, .ref a0_belows, .ref a0_owned, .int (iI a0_deep), .ref a0_wides, .ref a0_highs, .ref a0_lows, .ref a0_itemWides, .ref a0_pile])), (a0_now, .inl (cs.1, 184, .inl (aI a0_nowF)))] rfl ?_
                refine j_istore (pc := 147) (lv' := [(9, .int (iI r14)), (8, .int (iI z13)), (0, .ref a0), (7, .int (iI r10))]) ok dX8_moveVertically_147 (by decide) rfl ?_
                refine j_iconst (pc := 149) ok dX8_moveVertically_149 ?_
                refine j_istore (pc := 150) (lv' := [(10, .int (iI 0)), (9, .int (iI r14)), (8, .int (iI z13)), (0, .ref a0), (7, .int (iI r10))]) ok dX8_moveVertically_150 (by decide) rfl ?_
                refine j_lv [3, 4, 2, 1, 0] rfl ?_
                refine l_X8_moveVertically_152 ok fin (fun z16 h => ?_) fuel _ _ h
                · refine j_aload_n (pc := 183) 0 ok dX8_moveVertically_183 rfl rfl ?_
                  refine j_iload (pc := 184) 1 ok dX8_moveVertically_184 rfl ?_
                  obtain ⟨r17, hr17, h⟩ := bd_inv h
                  refine j_callV (pc := 186) ok (k_X8_goTo (a0 := a0) (a0_text := a0_text) (a0_now := a0_now) (a0_trial := a0_trial) (a0_diary := a0_diary) (a0_kept := a0_kept) (a0_isKept := a0_isKept) (a0_clip := a0_clip) (a0_line := a0_line) (a0_read := a0_read) (a0_opens := a0_opens) (a0_chains := a0_chains) (a0_factors := a0_factors) (a0_plains := a0_plains) (a0_belows := a0_belows) (a0_owned := a0_owned) (a0_wides := a0_wides) (a0_highs := a0_highs) (a0_lows := a0_lows) (a0_itemWides := a0_itemWides) (a0_pile := a0_pile) (a0_refusal := a0_refusal) (a0_textSize := a0_textSize) (a0_acts := a0_acts) (a0_lineSize := a0_lineSize) (a0_readSize := a0_readSize) (a0_deep := a0_deep) (a0_nowF := a0_nowF) (x1 := z16.1) hr17) gV_X8_218 ⟨rfl, hd_X8_goTo⟩ [0, 1] (by decide) rfl rfl 0 rfl rfl rfl rfl ⟨Nat.zero_le _, Nat.zero_le _⟩ (Nat.le_of_ble_eq_true rfl) dX8_moveVertically_186 rfl [(a0, .inr (8, [.int (iI a0_refusal), .ref a0_text, .int (iI a0_textSize), .ref a0_now, .ref a0_trial, .ref a0_diary, .int (iI a0_acts), .ref a0_kept, .ref a0_isKept, .ref a0_clip, .ref a0_line, .int (iI a0_lineSize), .ref a0_read, .int (iI a0_readSize), .ref a0_opens, .ref a0_chains, .ref a0_factors, .ref a0_plains, .ref a0_belows, .ref a0_owned, .int (iI a0_deep), .ref a0_wides, .ref a0_highs, .ref a0_lows, .ref a0_itemWides, .ref a0_pile])), (a0_now, .inl (cs.1, 184, .inl (aI r17.2)))] rfl ?_
                  obtain rfl := Option.some.inj h
                  exact fin _ 189 dX8_moveVertically_189
              · refine j_if_eq (pc := 115) 125 ok dX8_moveVertically_115 (by decide) h (fun h => ?_) (fun h => ?_)
                · refine j_aload_n (pc := 125) 1 ok dX8_moveVertically_125 rfl rfl ?_
                  refine gf_X8_13_8 (pc := 126) 0 ok rfl dX8_moveVertically_126 ?_
                  refine j_iload (pc := 129) 4 ok dX8_moveVertically_129 rfl ?_
                  obtain ⟨r12, hr12, h⟩ := bd_inv h
                  refine j_callS (pc := 131) ok (k_X8_rowEnd (a0 := a0_now) (a0N := 184) (a0F := a0_nowF) (x1 := y4) hr12) gS_X8_142 hd_X8_rowEnd [1] (by decide) rfl rfl rfl rfl ⟨Nat.zero_le _, Nat.zero_le _⟩ (Nat.le_of_ble_eq_true rfl) dX8_moveVertically_131 rfl [(a0, .inr (8, [.int (iI a0_refusal), .ref a0_text, .int (iI a0_textSize), .ref a0_now, .ref a0_trial, .ref a0_diary, .int (iI a0_acts), .ref a0_kept, .ref a0_isKept, .ref a0_clip, .ref a0_line, .int (iI a0_lineSize), .ref a0_read, .int (iI a0_readSize), .ref a0_opens, .ref a0_chains, .ref a0_factors, .ref a0_plains, .ref a0_belows, .ref a0_owned, .int (iI a0_deep), .ref a0_wides, .ref a0_highs, .ref a0_lows, .ref a0_itemWides, .ref a0_pile])), (a0_now, .inl (cs.1, 184, .inl (aI a0_nowF)))] rfl ?_
                  refine j_iconst (pc := 134) ok dX8_moveVertically_134 ?_
                  refine j_iadd (pc := 135) ok dX8_moveVertically_135 ?_
                  refine j_lv [1, 0] rfl ?_
                  exact hk11 (r12 + 1) h
                · refine j_iload (pc := 118) 5 ok dX8_moveVertically_118 rfl ?_
                  refine j_iconst (pc := 120) ok dX8_moveVertically_120 ?_
                  refine j_iadd (pc := 121) ok dX8_moveVertically_121 ?_
                  refine j_goto (pc := 122) 136 ok dX8_moveVertically_122 (by decide) ?_
                  refine j_lv [1, 0] rfl ?_
                  exact hk11 (z6 + 1) h
            · refine j_if_eq (pc := 78) 89 ok dX8_moveVertically_78 (by decide) h (fun h => ?_) (fun h => ?_)
              · refine j_aload_n (pc := 89) 1 ok dX8_moveVertically_89 rfl rfl ?_
                refine gf_X8_13_8 (pc := 90) 0 ok rfl dX8_moveVertically_90 ?_
                refine j_iload (pc := 93) 5 ok dX8_moveVertically_93 rfl ?_
                refine j_iconst (pc := 95) ok dX8_moveVertically_95 ?_
                refine j_isub (pc := 96) ok dX8_moveVertically_96 ?_
                refine j_iald (pc := 97) 1 ok rfl dX8_moveVertically_97 h (fun h => ?_)
                refine j_iconst (pc := 98) ok dX8_moveVertically_98 ?_
                refine j_icmp_ne (pc := 99) 190 ok dX8_moveVertically_99 (by decide) h (fun h => ?_) (fun h => ?_)
                · refine j_lv [1, 2, 3, 0] rfl ?_
                  exact hk8 () h
                · refine j_lv [1, 2, 4, 5, 0] rfl ?_
                  exact hk7 () h
              · refine j_iload (pc := 81) 6 ok dX8_moveVertically_81 rfl ?_
                refine j_if_eq (pc := 83) 190 ok dX8_moveVertically_83 (by decide) h (fun h => ?_) (fun h => ?_)
                · refine j_lv [1, 2, 3, 0] rfl ?_
                  exact hk8 () h
                · refine j_goto (pc := 86) 102 ok dX8_moveVertically_86 (by decide) ?_
                  refine j_lv [1, 2, 4, 5, 0] rfl ?_
                  exact hk7 () h
        · refine j_if_eq (pc := 54) 71 ok dX8_moveVertically_54 (by decide) h (fun h => ?_) (fun h => ?_)
          · refine j_iload (pc := 71) 5 ok dX8_moveVertically_71 rfl ?_
            refine j_iconst (pc := 73) ok dX8_moveVertically_73 ?_
            refine j_isub (pc := 74) ok dX8_moveVertically_74 ?_
            refine j_lv [1, 2, 3, 4, 5, 0] rfl ?_
            exact hk4 (y4 - 1) h
          · refine j_aload_n (pc := 57) 1 ok dX8_moveVertically_57 rfl rfl ?_
            refine gf_X8_13_8 (pc := 58) 0 ok rfl dX8_moveVertically_58 ?_
            refine j_iload (pc := 61) 5 ok dX8_moveVertically_61 rfl ?_
            refine j_iconst (pc := 63) ok dX8_moveVertically_63 ?_
            refine j_isub (pc := 64) ok dX8_moveVertically_64 ?_
            obtain ⟨r5, hr5, h⟩ := bd_inv h
            refine j_callS (pc := 65) ok (k_X8_beginOf (a0 := a0_now) (a0N := 184) (a0F := a0_nowF) (x1 := y4 - 1) hr5) gS_X8_100 hd_X8_beginOf [1] (by decide) rfl rfl rfl rfl ⟨Nat.zero_le _, Nat.zero_le _⟩ (Nat.le_of_ble_eq_true rfl) dX8_moveVertically_65 rfl [(a0, .inr (8, [.int (iI a0_refusal), .ref a0_text, .int (iI a0_textSize), .ref a0_now, .ref a0_trial, .ref a0_diary, .int (iI a0_acts), .ref a0_kept, .ref a0_isKept, .ref a0_clip, .ref a0_line, .int (iI a0_lineSize), .ref a0_read, .int (iI a0_readSize), .ref a0_opens, .ref a0_chains, .ref a0_factors, .ref a0_plains, .ref a0_belows, .ref a0_owned, .int (iI a0_deep), .ref a0_wides, .ref a0_highs, .ref a0_lows, .ref a0_itemWides, .ref a0_pile])), (a0_now, .inl (cs.1, 184, .inl (aI a0_nowF)))] rfl ?_
            refine j_goto (pc := 68) 75 ok dX8_moveVertically_68 (by decide) ?_
            refine j_lv [1, 2, 3, 4, 5, 0] rfl ?_
            exact hk4 r5 h
      · refine j_icmp_ne (pc := 42) 49 ok dX8_moveVertically_42 (by decide) h (fun h => ?_) (fun h => ?_)
        · refine j_iconst (pc := 49) ok dX8_moveVertically_49 ?_
          exact hk2 0 h
        · refine j_iconst (pc := 45) ok dX8_moveVertically_45 ?_
          refine j_goto (pc := 46) 50 ok dX8_moveVertically_46 (by decide) ?_
          exact hk2 1 h
def f_X8_moveVertically (a0_refusal : Int) (a0_nowF : (Nat → Int)) (x1 : Int) : Option (Int × Int × (Nat → Int)) := gIn 181 184 (bd (f_X8_rowStart 184 a0_nowF (a0_nowF (181 : Int).toNat)) (fun r1 => f_X8_moveVertically_26 0 x1 (fun (z20 : (Nat → Int) × Int × Int) => gIn 180 184 (jn (fun (z25 : Unit) => bd (f_X8_rowStart 184 z20.1 (a0_nowF (181 : Int).toNat)) (fun r26 => jn (fun (z32 : Unit) => some ((-9), 0, z20.1)) (fun k27 => cLt 0 r26 (gIn (r26 - 1) 184 (jn (fun (z29 : Int) => cEq (z20.1 (r26 - 1).toNat) z29 (bd (f_X8_rowEnd 184 z20.1 (a0_nowF (181 : Int).toNat)) (fun r30 => bd (f_X8_goTo z20.1 (r30 + 1)) (fun r31 => some (r31.1, 0, r31.2)))) (k27 ())) (fun k28 => cEq x1 0 (k28 (-2)) (k28 (-3))))) (k27 ())))) (fun k21 => cLt (a0_nowF (181 : Int).toNat) (z20.1 (180 : Int).toNat) (gIn (a0_nowF (181 : Int).toNat) 184 (jn (fun (z23 : Int) => cEq (z20.1 (a0_nowF (181 : Int).toNat).toNat) z23 (bd (f_X8_goTo z20.1 ((a0_nowF (181 : Int).toNat) + 1)) (fun r24 => some (r24.1, 0, r24.2))) (k21 ())) (fun k22 => cEq x1 0 (k22 (-3)) (k22 (-2))))) (k21 ())))) fuel a0_nowF (a0_nowF (181 : Int).toNat) r1))
set_option maxRecDepth 100000 in
set_option maxHeartbeats 4000000 in
theorem k_X8_moveVertically {D : va_G} {cs : q_CS} {a0 a0_text a0_now a0_trial a0_diary a0_kept a0_isKept a0_clip a0_line a0_read a0_opens a0_chains a0_factors a0_plains a0_belows a0_owned a0_wides a0_highs a0_lows a0_itemWides a0_pile : Nat} {a0_refusal a0_textSize a0_acts a0_lineSize a0_readSize a0_deep : Int} {a0_nowF : (Nat → Int)} {x1 : Int} {r : (Int × Int × (Nat → Int))} (h : f_X8_moveVertically a0_refusal a0_nowF x1 = some r) : q_M D cs yX8_moveVertically cX8_moveVertically 11 (some .int) 4 88 [.ref a0, .int (iI x1)] [(a0, .inr (8, [.int (iI a0_refusal), .ref a0_text, .int (iI a0_textSize), .ref a0_now, .ref a0_trial, .ref a0_diary, .int (iI a0_acts), .ref a0_kept, .ref a0_isKept, .ref a0_clip, .ref a0_line, .int (iI a0_lineSize), .ref a0_read, .int (iI a0_readSize), .ref a0_opens, .ref a0_chains, .ref a0_factors, .ref a0_plains, .ref a0_belows, .ref a0_owned, .int (iI a0_deep), .ref a0_wides, .ref a0_highs, .ref a0_lows, .ref a0_itemWides, .ref a0_pile])), (a0_now, .inl (cs.1, 184, .inl (aI a0_nowF)))] (some (.int (iI r.1))) [(a0, .inr (8, [.int (iI r.2.1), .ref a0_text, .int (iI a0_textSize), .ref a0_now, .ref a0_trial, .ref a0_diary, .int (iI a0_acts), .ref a0_kept, .ref a0_isKept, .ref a0_clip, .ref a0_line, .int (iI a0_lineSize), .ref a0_read, .int (iI a0_readSize), .ref a0_opens, .ref a0_chains, .ref a0_factors, .ref a0_plains, .ref a0_belows, .ref a0_owned, .int (iI a0_deep), .ref a0_wides, .ref a0_highs, .ref a0_lows, .ref a0_itemWides, .ref a0_pile])), (a0_now, .inl (cs.1, 184, .inl (aI r.2.2)))] := by
  refine q_start_i [(0, .ref a0), (1, .int (iI x1))] RX8 rfl (by decide +kernel) rfl (Nat.le_of_ble_eq_true rfl) rfl (fun κ ok fin => ?_)
  unfold f_X8_moveVertically at h
  refine j_aload_n (pc := 0) 0 ok dX8_moveVertically_0 rfl rfl ?_
  refine j_iconst (pc := 1) ok dX8_moveVertically_1 ?_
  refine pf_X8_71_8 (pc := 2) 0 ok rfl dX8_moveVertically_2 [(a0, .inr (8, [.int (iI 0), .ref a0_text, .int (iI a0_textSize), .ref a0_now, .ref a0_trial, .ref a0_diary, .int (iI a0_acts), .ref a0_kept, .ref a0_isKept, .ref a0_clip, .ref a0_line, .int (iI a0_lineSize), .ref a0_read, .int (iI a0_readSize), .ref a0_opens, .ref a0_chains, .ref a0_factors, .ref a0_plains, .ref a0_belows, .ref a0_owned, .int (iI a0_deep), .ref a0_wides, .ref a0_highs, .ref a0_lows, .ref a0_itemWides, .ref a0_pile])), (a0_now, .inl (cs.1, 184, .inl (aI a0_nowF)))] rfl ?_
  refine j_aload_n (pc := 5) 0 ok dX8_moveVertically_5 rfl rfl ?_
  refine gf_X8_13_8 (pc := 6) 0 ok rfl dX8_moveVertically_6 ?_
  refine j_sipush (pc := 9) ok dX8_moveVertically_9 (by decide) ?_
  refine j_iald (pc := 12) 1 ok rfl dX8_moveVertically_12 h (fun h => ?_)
  refine j_istore_n (pc := 13) (lv' := [(2, .int (iI (a0_nowF (181 : Int).toNat))), (0, .ref a0), (1, .int (iI x1))]) ok dX8_moveVertically_13 rfl (by decide) rfl ?_
  refine j_iload_n (pc := 14) 0 ok dX8_moveVertically_14 rfl rfl ?_
  refine j_istore_n (pc := 15) (lv' := [(3, .int (iI (a0_nowF (181 : Int).toNat))), (2, .int (iI (a0_nowF (181 : Int).toNat))), (0, .ref a0), (1, .int (iI x1))]) ok dX8_moveVertically_15 rfl (by decide) rfl ?_
  refine j_aload_n (pc := 16) 2 ok dX8_moveVertically_16 rfl rfl ?_
  refine gf_X8_13_8 (pc := 17) 0 ok rfl dX8_moveVertically_17 ?_
  refine j_iload_n (pc := 20) 0 ok dX8_moveVertically_20 rfl rfl ?_
  obtain ⟨r1, hr1, h⟩ := bd_inv h
  refine j_callS (pc := 21) ok (k_X8_rowStart (a0 := a0_now) (a0N := 184) (a0F := a0_nowF) (x1 := a0_nowF (181 : Int).toNat) hr1) gS_X8_136 hd_X8_rowStart [1] (by decide) rfl rfl rfl rfl ⟨Nat.zero_le _, Nat.zero_le _⟩ (Nat.le_of_ble_eq_true rfl) dX8_moveVertically_21 rfl [(a0, .inr (8, [.int (iI 0), .ref a0_text, .int (iI a0_textSize), .ref a0_now, .ref a0_trial, .ref a0_diary, .int (iI a0_acts), .ref a0_kept, .ref a0_isKept, .ref a0_clip, .ref a0_line, .int (iI a0_lineSize), .ref a0_read, .int (iI a0_readSize), .ref a0_opens, .ref a0_chains, .ref a0_factors, .ref a0_plains, .ref a0_belows, .ref a0_owned, .int (iI a0_deep), .ref a0_wides, .ref a0_highs, .ref a0_lows, .ref a0_itemWides, .ref a0_pile])), (a0_now, .inl (cs.1, 184, .inl (aI a0_nowF)))] rfl ?_
  refine j_istore (pc := 24) (lv' := [(4, .int (iI r1)), (3, .int (iI (a0_nowF (181 : Int).toNat))), (2, .int (iI (a0_nowF (181 : Int).toNat))), (0, .ref a0), (1, .int (iI x1))]) ok dX8_moveVertically_24 (by decide) rfl ?_
  refine j_lv [3, 4, 2, 1, 0] rfl ?_
  refine l_X8_moveVertically_26 ok fin (fun z20 h => ?_) fuel _ _ _ h
  · refine j_iload_n (pc := 206) 2 ok dX8_moveVertically_206 rfl rfl ?_
    refine j_aload_n (pc := 207) 0 ok dX8_moveVertically_207 rfl rfl ?_
    refine gf_X8_13_8 (pc := 208) 0 ok rfl dX8_moveVertically_208 ?_
    refine j_sipush (pc := 211) ok dX8_moveVertically_211 (by decide) ?_
    refine j_iald (pc := 214) 1 ok rfl dX8_moveVertically_214 h (fun h => ?_)
    refine jn_use (P := fun z25 => q_J D κ 11 0 0 [(a0, .inr (8, [.int (iI 0), .ref a0_text, .int (iI a0_textSize), .ref a0_now, .ref a0_trial, .ref a0_diary, .int (iI a0_acts), .ref a0_kept, .ref a0_isKept, .ref a0_clip, .ref a0_line, .int (iI a0_lineSize), .ref a0_read, .int (iI a0_readSize), .ref a0_opens, .ref a0_chains, .ref a0_factors, .ref a0_plains, .ref a0_belows, .ref a0_owned, .int (iI a0_deep), .ref a0_wides, .ref a0_highs, .ref a0_lows, .ref a0_itemWides, .ref a0_pile])), (a0_now, .inl (cs.1, 184, .inl (aI z20.1)))] [(0, .ref a0), (1, .int (iI x1)), (2, .int (iI (a0_nowF (181 : Int).toNat)))] 246 []) h (fun z25 h => ?_) (fun k21 hk21 h => ?_)
    · refine j_aload_n (pc := 246) 0 ok dX8_moveVertically_246 rfl rfl ?_
      refine gf_X8_13_8 (pc := 247) 0 ok rfl dX8_moveVertically_247 ?_
      refine j_iload_n (pc := 250) 2 ok dX8_moveVertically_250 rfl rfl ?_
      obtain ⟨r26, hr26, h⟩ := bd_inv h
      refine j_callS (pc := 251) ok (k_X8_rowStart (a0 := a0_now) (a0N := 184) (a0F := z20.1) (x1 := a0_nowF (181 : Int).toNat) hr26) gS_X8_136 hd_X8_rowStart [1] (by decide) rfl rfl rfl rfl ⟨Nat.zero_le _, Nat.zero_le _⟩ (Nat.le_of_ble_eq_true rfl) dX8_moveVertically_251 rfl [(a0, .inr (8, [.int (iI 0), .ref a0_text, .int (iI a0_textSize), .ref a0_now, .ref a0_trial, .ref a0_diary, .int (iI a0_acts), .ref a0_kept, .ref a0_isKept, .ref a0_clip, .ref a0_line, .int (iI a0_lineSize), .ref a0_read, .int (iI a0_readSize), .ref a0_opens, .ref a0_chains, .ref a0_factors, .ref a0_plains, .ref a0_belows, .ref a0_owned, .int (iI a0_deep), .ref a0_wides, .ref a0_highs, .ref a0_lows, .ref a0_itemWides, .ref a0_pile])), (a0_now, .inl (cs.1, 184, .inl (aI z20.1)))] rfl ?_
      refine j_istore (pc := 254) (lv' := [(4, .int (iI r26)), (0, .ref a0), (1, .int (iI x1)), (2, .int (iI (a0_nowF (181 : Int).toNat)))]) ok dX8_moveVertically_254 (by decide) rfl ?_
      refine j_iload (pc := 256) 0 ok dX8_moveVertically_256 rfl ?_
      refine jn_use (P := fun z32 => q_J D κ 11 0 0 [(a0, .inr (8, [.int (iI 0), .ref a0_text, .int (iI a0_textSize), .ref a0_now, .ref a0_trial, .ref a0_diary, .int (iI a0_acts), .ref a0_kept, .ref a0_isKept, .ref a0_clip, .ref a0_line, .int (iI a0_lineSize), .ref a0_read, .int (iI a0_readSize), .ref a0_opens, .ref a0_chains, .ref a0_factors, .ref a0_plains, .ref a0_belows, .ref a0_owned, .int (iI a0_deep), .ref a0_wides, .ref a0_highs, .ref a0_lows, .ref a0_itemWides, .ref a0_pile])), (a0_now, .inl (cs.1, 184, .inl (aI z20.1)))] [] 299 []) h (fun z32 h => ?_) (fun k27 hk27 h => ?_)
      · refine j_bipush (pc := 299) ok dX8_moveVertically_299 (by decide) ?_
        obtain rfl := Option.some.inj h
        exact fin _ 301 dX8_moveVertically_301
      · refine j_if_le (pc := 258) 299 ok dX8_moveVertically_258 (by decide) h (fun h => ?_) (fun h => ?_)
        · refine j_lv [] rfl ?_
          exact hk27 () h
        · refine j_aload_n (pc := 261) 1 ok dX8_moveVertically_261 rfl rfl ?_
          refine gf_X8_13_8 (pc := 262) 0 ok rfl dX8_moveVertically_262 ?_
          refine j_iload (pc := 265) 0 ok dX8_moveVertically_265 rfl ?_
          refine j_iconst (pc := 267) ok dX8_moveVertically_267 ?_
          refine j_isub (pc := 268) ok dX8_moveVertically_268 ?_
          refine j_iald (pc := 269) 1 ok rfl dX8_moveVertically_269 h (fun h => ?_)
          refine j_iload_n (pc := 270) 2 ok dX8_moveVertically_270 rfl rfl ?_
          refine jn_use (P := fun z29 => q_J D κ 11 0 0 [(a0, .inr (8, [.int (iI 0), .ref a0_text, .int (iI a0_textSize), .ref a0_now, .ref a0_trial, .ref a0_diary, .int (iI a0_acts), .ref a0_kept, .ref a0_isKept, .ref a0_clip, .ref a0_line, .int (iI a0_lineSize), .ref a0_read, .int (iI a0_readSize), .ref a0_opens, .ref a0_chains, .ref a0_factors, .ref a0_plains, .ref a0_belows, .ref a0_owned, .int (iI a0_deep), .ref a0_wides, .ref a0_highs, .ref a0_lows, .ref a0_itemWides, .ref a0_pile])), (a0_now, .inl (cs.1, 184, .inl (aI z20.1)))] [(0, .ref a0), (2, .int (iI (a0_nowF (181 : Int).toNat)))] 281 [.int (iI z29), .int (iI (z20.1 (r26 - 1).toNat))]) h (fun z29 h => ?_) (fun k28 hk28 h => ?_)
          · refine j_icmp_ne (pc := 281) 299 ok dX8_moveVertically_281 (by decide) h (fun h => ?_) (fun h => ?_)
            · refine j_lv [] rfl ?_
              exact hk27 () h
            · refine j_aload_n (pc := 284) 0 ok dX8_moveVertically_284 rfl rfl ?_
              refine j_aload_n (pc := 285) 0 ok dX8_moveVertically_285 rfl rfl ?_
              refine gf_X8_13_8 (pc := 286) 0 ok rfl dX8_moveVertically_286 ?_
              refine j_iload_n (pc := 289) 1 ok dX8_moveVertically_289 rfl rfl ?_
              obtain ⟨r30, hr30, h⟩ := bd_inv h
              refine j_callS (pc := 290) ok (k_X8_rowEnd (a0 := a0_now) (a0N := 184) (a0F := z20.1) (x1 := a0_nowF (181 : Int).toNat) hr30) gS_X8_142 hd_X8_rowEnd [1] (by decide) rfl rfl rfl rfl ⟨Nat.zero_le _, Nat.zero_le _⟩ (Nat.le_of_ble_eq_true rfl) dX8_moveVertically_290 rfl [(a0, .inr (8, [.int (iI 0), .ref a0_text, .int (iI a0_textSize), .ref a0_now, .ref a0_trial, .ref a0_diary, .int (iI a0_acts), .ref a0_kept, .ref a0_isKept, .ref a0_clip, .ref a0_line, .int (iI a0_lineSize), .ref a0_read, .int (iI a0_readSize), .ref a0_opens, .ref a0_chains, .ref a0_factors, .ref a0_plains, .ref a0_belows, .ref a0_owned, .int (iI a0_deep), .ref a0_wides, .ref a0_highs, .ref a0_lows, .ref a0_itemWides, .ref a0_pile])), (a0_now, .inl (cs.1, 184, .inl (aI z20.1)))] rfl ?_
              refine j_iconst (pc := 293) ok dX8_moveVertically_293 ?_
              refine j_iadd (pc := 294) ok dX8_moveVertically_294 ?_
              obtain ⟨r31, hr31, h⟩ := bd_inv h
              refine j_callV (pc := 295) ok (k_X8_goTo (a0 := a0) (a0_text := a0_text) (a0_now := a0_now) (a0_trial := a0_trial) (a0_diary := a0_diary) (a0_kept := a0_kept) (a0_isKept := a0_isKept) (a0_clip := a0_clip) (a0_line := a0_line) (a0_read := a0_read) (a0_opens := a0_opens) (a0_chains := a0_chains) (a0_factors := a0_factors) (a0_plains := a0_plains) (a0_belows := a0_belows) (a0_owned := a0_owned) (a0_wides := a0_wides) (a0_highs := a0_highs) (a0_lows := a0_lows) (a0_itemWides := a0_itemWides) (a0_pile := a0_pile) (a0_refusal := 0) (a0_textSize := a0_textSize) (a0_acts := a0_acts) (a0_lineSize := a0_lineSize) (a0_readSize := a0_readSize) (a0_deep := a0_deep) (a0_nowF := z20.1) (x1 := r30 + 1) hr31) gV_X8_218 ⟨rfl, hd_X8_goTo⟩ [0, 1] (by decide) rfl rfl 0 rfl rfl rfl rfl ⟨Nat.zero_le _, Nat.zero_le _⟩ (Nat.le_of_ble_eq_true rfl) dX8_moveVertically_295 rfl [(a0, .inr (8, [.int (iI 0), .ref a0_text, .int (iI a0_textSize), .ref a0_now, .ref a0_trial, .ref a0_diary, .int (iI a0_acts), .ref a0_kept, .ref a0_isKept, .ref a0_clip, .ref a0_line, .int (iI a0_lineSize), .ref a0_read, .int (iI a0_readSize), .ref a0_opens, .ref a0_chains, .ref a0_factors, .ref a0_plains, .ref a0_belows, .ref a0_owned, .int (iI a0_deep), .ref a0_wides, .ref a0_highs, .ref a0_lows, .ref a0_itemWides, .ref a0_pile])), (a0_now, .inl (cs.1, 184, .inl (aI r31.2)))] rfl ?_
              obtain rfl := Option.some.inj h
              exact fin _ 298 dX8_moveVertically_298
          · refine j_if_eq (pc := 271) 279 ok dX8_moveVertically_271 (by decide) h (fun h => ?_) (fun h => ?_)
            · refine j_bipush (pc := 279) ok dX8_moveVertically_279 (by decide) ?_
              refine j_lv [1, 3] rfl ?_
              exact hk28 (-2) h
            · refine j_bipush (pc := 274) ok dX8_moveVertically_274 (by decide) ?_
              refine j_goto (pc := 276) 281 ok dX8_moveVertically_276 (by decide) ?_
              refine j_lv [1, 3] rfl ?_
              exact hk28 (-3) h
    · refine j_icmp_ge (pc := 215) 246 ok dX8_moveVertically_215 (by decide) h (fun h => ?_) (fun h => ?_)
      · exact hk21 () h
      · refine j_aload_n (pc := 218) 0 ok dX8_moveVertically_218 rfl rfl ?_
        refine gf_X8_13_8 (pc := 219) 0 ok rfl dX8_moveVertically_219 ?_
        refine j_iload_n (pc := 222) 2 ok dX8_moveVertically_222 rfl rfl ?_
        refine j_iald (pc := 223) 1 ok rfl dX8_moveVertically_223 h (fun h => ?_)
        refine j_iload_n (pc := 224) 1 ok dX8_moveVertically_224 rfl rfl ?_
        refine jn_use (P := fun z23 => q_J D κ 11 0 0 [(a0, .inr (8, [.int (iI 0), .ref a0_text, .int (iI a0_textSize), .ref a0_now, .ref a0_trial, .ref a0_diary, .int (iI a0_acts), .ref a0_kept, .ref a0_isKept, .ref a0_clip, .ref a0_line, .int (iI a0_lineSize), .ref a0_read, .int (iI a0_readSize), .ref a0_opens, .ref a0_chains, .ref a0_factors, .ref a0_plains, .ref a0_belows, .ref a0_owned, .int (iI a0_deep), .ref a0_wides, .ref a0_highs, .ref a0_lows, .ref a0_itemWides, .ref a0_pile])), (a0_now, .inl (cs.1, 184, .inl (aI z20.1)))] [(0, .ref a0), (1, .int (iI x1)), (2, .int (iI (a0_nowF (181 : Int).toNat)))] 235 [.int (iI z23), .int (iI (z20.1 (a0_nowF (181 : Int).toNat).toNat))]) h (fun z23 h => ?_) (fun k22 hk22 h => ?_)
        · refine j_icmp_ne (pc := 235) 246 ok dX8_moveVertically_235 (by decide) h (fun h => ?_) (fun h => ?_)
          · exact hk21 () h
          · refine j_aload_n (pc := 238) 0 ok dX8_moveVertically_238 rfl rfl ?_
            refine j_iload_n (pc := 239) 2 ok dX8_moveVertically_239 rfl rfl ?_
            refine j_iconst (pc := 240) ok dX8_moveVertically_240 ?_
            refine j_iadd (pc := 241) ok dX8_moveVertically_241 ?_
            obtain ⟨r24, hr24, h⟩ := bd_inv h
            refine j_callV (pc := 242) ok (k_X8_goTo (a0 := a0) (a0_text := a0_text) (a0_now := a0_now) (a0_trial := a0_trial) (a0_diary := a0_diary) (a0_kept := a0_kept) (a0_isKept := a0_isKept) (a0_clip := a0_clip) (a0_line := a0_line) (a0_read := a0_read) (a0_opens := a0_opens) (a0_chains := a0_chains) (a0_factors := a0_factors) (a0_plains := a0_plains) (a0_belows := a0_belows) (a0_owned := a0_owned) (a0_wides := a0_wides) (a0_highs := a0_highs) (a0_lows := a0_lows) (a0_itemWides := a0_itemWides) (a0_pile := a0_pile) (a0_refusal := 0) (a0_textSize := a0_textSize) (a0_acts := a0_acts) (a0_lineSize := a0_lineSize) (a0_readSize := a0_readSize) (a0_deep := a0_deep) (a0_nowF := z20.1) (x1 := (a0_nowF (181 : Int).toNat) + 1) hr24) gV_X8_218 ⟨rfl, hd_X8_goTo⟩ [0, 1] (by decide) rfl rfl 0 rfl rfl rfl rfl ⟨Nat.zero_le _, Nat.zero_le _⟩ (Nat.le_of_ble_eq_true rfl) dX8_moveVertically_242 rfl [(a0, .inr (8, [.int (iI 0), .ref a0_text, .int (iI a0_textSize), .ref a0_now, .ref a0_trial, .ref a0_diary, .int (iI a0_acts), .ref a0_kept, .ref a0_isKept, .ref a0_clip, .ref a0_line, .int (iI a0_lineSize), .ref a0_read, .int (iI a0_readSize), .ref a0_opens, .ref a0_chains, .ref a0_factors, .ref a0_plains, .ref a0_belows, .ref a0_owned, .int (iI a0_deep), .ref a0_wides, .ref a0_highs, .ref a0_lows, .ref a0_itemWides, .ref a0_pile])), (a0_now, .inl (cs.1, 184, .inl (aI r24.2)))] rfl ?_
            obtain rfl := Option.some.inj h
            exact fin _ 245 dX8_moveVertically_245
        · refine j_if_eq (pc := 225) 233 ok dX8_moveVertically_225 (by decide) h (fun h => ?_) (fun h => ?_)
          · refine j_bipush (pc := 233) ok dX8_moveVertically_233 (by decide) ?_
            exact hk22 (-3) h
          · refine j_bipush (pc := 228) ok dX8_moveVertically_228 (by decide) ?_
            refine j_goto (pc := 230) 235 ok dX8_moveVertically_230 (by decide) ?_
            exact hk22 (-2) h
