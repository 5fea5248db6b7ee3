def f_L_append (a2N : Nat) (a0_reader_length : Int) (a0_reader_signsF : (Nat → Int)) (a2F : (Nat → Int)) (x1 : Int) : Option (Int × Int × (Nat → Int) × (Nat → Int)) := bd (f_X7_append a0_reader_length a0_reader_signsF x1) (fun r1 => tg2 r1.1 1 2 (gR r1.2.1 (gIn 0 a2N (some (0, r1.2.2.1, r1.2.2.2, va_up a2F (0 : Int).toNat r1.2.1)))) (some (1, r1.2.2.1, r1.2.2.2, a2F)) (some (2, r1.2.2.1, r1.2.2.2, a2F)))
set_option maxRecDepth 100000 in
set_option maxHeartbeats 4000000 in
theorem k_L_append {D : va_G} {cs : q_CS} {a0 a0_now a0_trial a0_firstKeep a0_secondKeep a0_history a0_clipboard a0_reader a0_writer a0_picture a0_reader_signs a0_reader_result a0_reader_stack a2 : Nat} {a2N : Nat} {a0_reader_length a0_reader_top a0_reader_state a0_reader_bracket a0_reader_chain a0_reader_factor a0_reader_isUnder a0_reader_isPlain a0_reader_script a0_reader_isBound : Int} {a0_reader_signsF a2F : (Nat → Int)} {x1 : Int} {r : (Int × Int × (Nat → Int) × (Nat → Int))} (h : f_L_append a2N a0_reader_length a0_reader_signsF a2F x1 = some r) : q_Mh D cs yL_append cL_append 4 [(0, 9, 12, 13), (0, 9, 15, 15)] 7 103 [.ref a0, .int (iI x1), .ref a2] [(a0, .inr (7, [.ref a0_now, .ref a0_trial, .ref a0_firstKeep, .ref a0_secondKeep, .ref a0_history, .ref a0_clipboard, .ref a0_reader, .ref a0_writer, .ref a0_picture])), (a0_reader, .inr (5, [.ref a0_reader_signs, .int (iI a0_reader_length), .ref a0_reader_result, .ref a0_reader_stack, .int (iI a0_reader_top), .int (iI a0_reader_state), .int (iI a0_reader_bracket), .int (iI a0_reader_chain), .int (iI a0_reader_factor), .int (iI a0_reader_isUnder), .int (iI a0_reader_isPlain), .int (iI a0_reader_script), .int (iI a0_reader_isBound)])), (a0_reader_signs, .inl (cs.1, 120, .inl (aI a0_reader_signsF))), (a2, .inl (cs.2.2.2, a2N, .inr (.inl (aL a2F))))] r.1 [(a0, .inr (7, [.ref a0_now, .ref a0_trial, .ref a0_firstKeep, .ref a0_secondKeep, .ref a0_history, .ref a0_clipboard, .ref a0_reader, .ref a0_writer, .ref a0_picture])), (a0_reader, .inr (5, [.ref a0_reader_signs, .int (iI r.2.1), .ref a0_reader_result, .ref a0_reader_stack, .int (iI a0_reader_top), .int (iI a0_reader_state), .int (iI a0_reader_bracket), .int (iI a0_reader_chain), .int (iI a0_reader_factor), .int (iI a0_reader_isUnder), .int (iI a0_reader_isPlain), .int (iI a0_reader_script), .int (iI a0_reader_isBound)])), (a0_reader_signs, .inl (cs.1, 120, .inl (aI r.2.2.1))), (a2, .inl (cs.2.2.2, a2N, .inr (.inl (aL r.2.2.2))))] := by
  refine q_starth [⟨0, 9, 12, 13⟩, ⟨0, 9, 15, 15⟩] [(0, .ref a0), (1, .int (iI x1)), (2, .ref a2)] RL rfl (by decide +kernel) rfl rfl (Nat.le_of_ble_eq_true rfl) (q_in 523 (by decide +kernel) (by decide +kernel)) (fun κ ok kx fin => ?_)
  unfold f_L_append at h
  refine j_aload_n (pc := 0) 2 ok dL_append_0 rfl rfl ?_
  refine j_iconst (pc := 1) ok dL_append_1 ?_
  refine j_aload_n (pc := 2) 0 ok dL_append_2 rfl rfl ?_
  refine j_iload_n (pc := 3) 1 ok dL_append_3 rfl rfl ?_
  obtain ⟨r1, hr1, h⟩ := bd_inv h
  unfold tg2 at h
  refine j_callX (pc := 4) ok kx (k_X7_append (a0 := a0) (a0_now := a0_now) (a0_trial := a0_trial) (a0_firstKeep := a0_firstKeep) (a0_secondKeep := a0_secondKeep) (a0_history := a0_history) (a0_clipboard := a0_clipboard) (a0_reader := a0_reader) (a0_writer := a0_writer) (a0_picture := a0_picture) (a0_reader_signs := a0_reader_signs) (a0_reader_result := a0_reader_result) (a0_reader_stack := a0_reader_stack) (a0_reader_length := a0_reader_length) (a0_reader_top := a0_reader_top) (a0_reader_state := a0_reader_state) (a0_reader_bracket := a0_reader_bracket) (a0_reader_chain := a0_reader_chain) (a0_reader_factor := a0_reader_factor) (a0_reader_isUnder := a0_reader_isUnder) (a0_reader_isPlain := a0_reader_isPlain) (a0_reader_script := a0_reader_script) (a0_reader_isBound := a0_reader_isBound) (a0_reader_signsF := a0_reader_signsF) (x1 := x1) hr1) gV_L_7 ⟨rfl, hd_X7_append⟩ [0, 1, 2] (by decide) rfl rfl 0 rfl rfl rfl rfl ⟨Nat.le_of_ble_eq_true rfl, Nat.le_of_ble_eq_true rfl⟩ (Nat.le_of_ble_eq_true rfl) dL_append_4 rfl [(a0, .inr (7, [.ref a0_now, .ref a0_trial, .ref a0_firstKeep, .ref a0_secondKeep, .ref a0_history, .ref a0_clipboard, .ref a0_reader, .ref a0_writer, .ref a0_picture])), (a0_reader, .inr (5, [.ref a0_reader_signs, .int (iI r1.2.2.1), .ref a0_reader_result, .ref a0_reader_stack, .int (iI a0_reader_top), .int (iI a0_reader_state), .int (iI a0_reader_bracket), .int (iI a0_reader_chain), .int (iI a0_reader_factor), .int (iI a0_reader_isUnder), .int (iI a0_reader_isPlain), .int (iI a0_reader_script), .int (iI a0_reader_isBound)])), (a0_reader_signs, .inl (cs.1, 120, .inl (aI r1.2.2.2))), (a2, .inl (cs.2.2.2, a2N, .inr (.inl (aL a2F))))] rfl (fun ht => ?_) (fun E hE => ?_)
  · rw [if_pos ht] at h
    refine j_i2l (pc := 7) ok dL_append_7 h (fun h => ?_)
    refine j_lastw (pc := 8) 3 ok rfl dL_append_8 h [(a0, .inr (7, [.ref a0_now, .ref a0_trial, .ref a0_firstKeep, .ref a0_secondKeep, .ref a0_history, .ref a0_clipboard, .ref a0_reader, .ref a0_writer, .ref a0_picture])), (a0_reader, .inr (5, [.ref a0_reader_signs, .int (iI r1.2.2.1), .ref a0_reader_result, .ref a0_reader_stack, .int (iI a0_reader_top), .int (iI a0_reader_state), .int (iI a0_reader_bracket), .int (iI a0_reader_chain), .int (iI a0_reader_factor), .int (iI a0_reader_isUnder), .int (iI a0_reader_isPlain), .int (iI a0_reader_script), .int (iI a0_reader_isBound)])), (a0_reader_signs, .inl (cs.1, 120, .inl (aI r1.2.2.2))), (a2, .inl (cs.2.2.2, a2N, .inr (.inl (aL (va_up a2F (0 : Int).toNat r1.2.1)))))] rfl (fun h => ?_)
    refine j_goto (pc := 9) 18 ok dL_append_9 (by decide) ?_
    refine j_iconst (pc := 18) ok dL_append_18 ?_
    obtain rfl := Option.some.inj h
    exact fin _ 19 dL_append_19
  · have hn0 : ¬ r1.1 = 0 := fun z => by rw [z] at hE; cases hE
    rw [if_neg hn0] at h
    by_cases ht0 : r1.1 = 1
    · rw [if_pos ht0] at h
      rw [ht0] at hE
      obtain rfl := Option.some.inj hE
      refine ⟨[], ⟨0, 9, 12, 13⟩, [⟨0, 9, 15, 15⟩], rfl, fun z hz => absurd hz List.not_mem_nil, by decide, by decide, q_in 524 (by decide +kernel) (by decide +kernel), by decide, fun q9 => ?_⟩
      refine j_eq (pc' := 12) rfl rfl rfl rfl ?_
      refine j_astore_n (pc := 12) (lv' := [(3, .ref q9), (0, .ref a0), (1, .int (iI x1)), (2, .ref a2)]) ok dL_append_12 rfl (by decide) rfl ?_
      refine j_iconst (pc := 13) ok dL_append_13 ?_
      obtain rfl := Option.some.inj h
      exact fin _ 14 dL_append_14
    · rw [if_neg ht0] at h
      by_cases ht1 : r1.1 = 2
      · rw [if_pos ht1] at h
        rw [ht1] at hE
        obtain rfl := Option.some.inj hE
        refine ⟨[⟨0, 9, 12, 13⟩], ⟨0, 9, 15, 15⟩, [], rfl, fun z hz => Or.inr (by obtain rfl := List.mem_singleton.mp hz; exact ⟨by decide, "java/lang/IllegalArgumentException", q_in 524 (by decide +kernel) (by decide +kernel), by decide⟩), by decide, by decide, q_in 525 (by decide +kernel) (by decide +kernel), by decide, fun q9 => ?_⟩
        refine j_eq (pc' := 15) rfl rfl rfl rfl ?_
        refine j_astore_n (pc := 15) (lv' := [(3, .ref q9), (0, .ref a0), (1, .int (iI x1)), (2, .ref a2)]) ok dL_append_15 rfl (by decide) rfl ?_
        refine j_iconst (pc := 16) ok dL_append_16 ?_
        obtain rfl := Option.some.inj h
        exact fin _ 17 dL_append_17
      · rw [if_neg ht1] at h
        cases h
def f_L_load (a1N : Nat) (a0_firstKeep_filled : Int) (a0_history_count : Int) (a0_now_size : Int) (a0_now_caret : Int) (a0_now_from : Int) (a0_reader_length : Int) (a0_reader_top : Int) (a0_reader_state : Int) (a0_reader_bracket : Int) (a0_reader_chain : Int) (a0_reader_factor : Int) (a0_reader_isUnder : Int) (a0_reader_isPlain : Int) (a0_reader_script : Int) (a0_reader_isBound : Int) (a0_secondKeep_filled : Int) (a0_now_marksF : (Nat → Int)) (a0_reader_result_size : Int) (a0_reader_signsF : (Nat → Int)) (a0_reader_stackF : (Nat → Int)) (a0_reader_result_marksF : (Nat → Int)) (a1F : (Nat → Int)) : Option (Int × Int × Int × Int × Int × Int × Int × Int × Int × Int × Int × Int × Int × Int × Int × Int × (Nat → Int) × Int × (Nat → Int) × (Nat → Int) × (Nat → Int)) := bd (f_X7_load a0_firstKeep_filled a0_history_count a0_now_size a0_now_caret a0_now_from a0_reader_length a0_reader_top a0_reader_state a0_reader_bracket a0_reader_chain a0_reader_factor a0_reader_isUnder a0_reader_isPlain a0_reader_script a0_reader_isBound a0_secondKeep_filled a0_now_marksF a0_reader_result_size a0_reader_signsF a0_reader_stackF a0_reader_result_marksF) (fun r1 => tg1 r1.1 2 (gR r1.2.1 (gIn 0 a1N (some (0, r1.2.2.1, r1.2.2.2.1, r1.2.2.2.2.1, r1.2.2.2.2.2.1, r1.2.2.2.2.2.2.1, r1.2.2.2.2.2.2.2.1, r1.2.2.2.2.2.2.2.2.1, r1.2.2.2.2.2.2.2.2.2.1, r1.2.2.2.2.2.2.2.2.2.2.1, r1.2.2.2.2.2.2.2.2.2.2.2.1, r1.2.2.2.2.2.2.2.2.2.2.2.2.1, r1.2.2.2.2.2.2.2.2.2.2.2.2.2.1, r1.2.2.2.2.2.2.2.2.2.2.2.2.2.2.1, r1.2.2.2.2.2.2.2.2.2.2.2.2.2.2.2.1, r1.2.2.2.2.2.2.2.2.2.2.2.2.2.2.2.2.1, r1.2.2.2.2.2.2.2.2.2.2.2.2.2.2.2.2.2.1, r1.2.2.2.2.2.2.2.2.2.2.2.2.2.2.2.2.2.2.1, r1.2.2.2.2.2.2.2.2.2.2.2.2.2.2.2.2.2.2.2.1, r1.2.2.2.2.2.2.2.2.2.2.2.2.2.2.2.2.2.2.2.2, va_up a1F (0 : Int).toNat r1.2.1)))) (some (1, r1.2.2.1, r1.2.2.2.1, r1.2.2.2.2.1, r1.2.2.2.2.2.1, r1.2.2.2.2.2.2.1, r1.2.2.2.2.2.2.2.1, r1.2.2.2.2.2.2.2.2.1, r1.2.2.2.2.2.2.2.2.2.1, r1.2.2.2.2.2.2.2.2.2.2.1, r1.2.2.2.2.2.2.2.2.2.2.2.1, r1.2.2.2.2.2.2.2.2.2.2.2.2.1, r1.2.2.2.2.2.2.2.2.2.2.2.2.2.1, r1.2.2.2.2.2.2.2.2.2.2.2.2.2.2.1, r1.2.2.2.2.2.2.2.2.2.2.2.2.2.2.2.1, r1.2.2.2.2.2.2.2.2.2.2.2.2.2.2.2.2.1, r1.2.2.2.2.2.2.2.2.2.2.2.2.2.2.2.2.2.1, r1.2.2.2.2.2.2.2.2.2.2.2.2.2.2.2.2.2.2.1, r1.2.2.2.2.2.2.2.2.2.2.2.2.2.2.2.2.2.2.2.1, r1.2.2.2.2.2.2.2.2.2.2.2.2.2.2.2.2.2.2.2.2, a1F)))
set_option maxRecDepth 100000 in
set_option maxHeartbeats 4000000 in
theorem k_L_load {D : va_G} {cs : q_CS} {a0 a0_now a0_trial a0_firstKeep a0_secondKeep a0_history a0_clipboard a0_reader a0_writer a0_picture a0_firstKeep_formula a0_history_ring a0_now_marks a0_reader_signs a0_reader_result a0_reader_stack a0_secondKeep_formula a0_reader_result_marks a1 : Nat} {a1N : Nat} {a0_firstKeep_filled a0_history_oldest a0_history_count a0_now_size a0_now_caret a0_now_from a0_reader_length a0_reader_top a0_reader_state a0_reader_bracket a0_reader_chain a0_reader_factor a0_reader_isUnder a0_reader_isPlain a0_reader_script a0_reader_isBound a0_secondKeep_filled a0_reader_result_size : Int} {a0_now_marksF a0_reader_signsF a0_reader_stackF a0_reader_result_marksF a1F : (Nat → Int)} {r : (Int × Int × Int × Int × Int × Int × Int × Int × Int × Int × Int × Int × Int × Int × Int × Int × (Nat → Int) × Int × (Nat → Int) × (Nat → Int) × (Nat → Int))} (h : f_L_load a1N a0_firstKeep_filled a0_history_count a0_now_size a0_now_caret a0_now_from a0_reader_length a0_reader_top a0_reader_state a0_reader_bracket a0_reader_chain a0_reader_factor a0_reader_isUnder a0_reader_isPlain a0_reader_script a0_reader_isBound a0_secondKeep_filled a0_now_marksF a0_reader_result_size a0_reader_signsF a0_reader_stackF a0_reader_result_marksF a1F = some r) : q_Mh D cs yL_load cL_load 3 [(0, 8, 11, 15)] 7 147 [.ref a0, .ref a1] [(a0, .inr (7, [.ref a0_now, .ref a0_trial, .ref a0_firstKeep, .ref a0_secondKeep, .ref a0_history, .ref a0_clipboard, .ref a0_reader, .ref a0_writer, .ref a0_picture])), (a0_firstKeep, .inr (2, [.ref a0_firstKeep_formula, .int (iI a0_firstKeep_filled)])), (a0_history, .inr (1, [.ref a0_history_ring, .int (iI a0_history_oldest), .int (iI a0_history_count)])), (a0_now, .inr (0, [.ref a0_now_marks, .int (iI a0_now_size), .int (iI a0_now_caret), .int (iI a0_now_from)])), (a0_reader, .inr (5, [.ref a0_reader_signs, .int (iI a0_reader_length), .ref a0_reader_result, .ref a0_reader_stack, .int (iI a0_reader_top), .int (iI a0_reader_state), .int (iI a0_reader_bracket), .int (iI a0_reader_chain), .int (iI a0_reader_factor), .int (iI a0_reader_isUnder), .int (iI a0_reader_isPlain), .int (iI a0_reader_script), .int (iI a0_reader_isBound)])), (a0_secondKeep, .inr (2, [.ref a0_secondKeep_formula, .int (iI a0_secondKeep_filled)])), (a0_now_marks, .inl (cs.1, 180, .inl (aI a0_now_marksF))), (a0_reader_result, .inr (3, [.ref a0_reader_result_marks, .int (iI a0_reader_result_size)])), (a0_reader_signs, .inl (cs.1, 120, .inl (aI a0_reader_signsF))), (a0_reader_stack, .inl (cs.1, 720, .inl (aI a0_reader_stackF))), (a0_reader_result_marks, .inl (cs.1, 360, .inl (aI a0_reader_result_marksF))), (a1, .inl (cs.2.2.2, a1N, .inr (.inl (aL a1F))))] r.1 [(a0, .inr (7, [.ref a0_now, .ref a0_trial, .ref a0_firstKeep, .ref a0_secondKeep, .ref a0_history, .ref a0_clipboard, .ref a0_reader, .ref a0_writer, .ref a0_picture])), (a0_firstKeep, .inr (2, [.ref a0_firstKeep_formula, .int (iI r.2.1)])), (a0_history, .inr (1, [.ref a0_history_ring, .int (iI a0_history_oldest), .int (iI r.2.2.1)])), (a0_now, .inr (0, [.ref a0_now_marks, .int (iI r.2.2.2.1), .int (iI r.2.2.2.2.1), .int (iI r.2.2.2.2.2.1)])), (a0_reader, .inr (5, [.ref a0_reader_signs, .int (iI a0_reader_length), .ref a0_reader_result, .ref a0_reader_stack, .int (iI r.2.2.2.2.2.2.1), .int (iI r.2.2.2.2.2.2.2.1), .int (iI r.2.2.2.2.2.2.2.2.1), .int (iI r.2.2.2.2.2.2.2.2.2.1), .int (iI r.2.2.2.2.2.2.2.2.2.2.1), .int (iI r.2.2.2.2.2.2.2.2.2.2.2.1), .int (iI r.2.2.2.2.2.2.2.2.2.2.2.2.1), .int (iI r.2.2.2.2.2.2.2.2.2.2.2.2.2.1), .int (iI r.2.2.2.2.2.2.2.2.2.2.2.2.2.2.1)])), (a0_secondKeep, .inr (2, [.ref a0_secondKeep_formula, .int (iI r.2.2.2.2.2.2.2.2.2.2.2.2.2.2.2.1)])), (a0_now_marks, .inl (cs.1, 180, .inl (aI r.2.2.2.2.2.2.2.2.2.2.2.2.2.2.2.2.1))), (a0_reader_result, .inr (3, [.ref a0_reader_result_marks, .int (iI r.2.2.2.2.2.2.2.2.2.2.2.2.2.2.2.2.2.1)])), (a0_reader_signs, .inl (cs.1, 120, .inl (aI a0_reader_signsF))), (a0_reader_stack, .inl (cs.1, 720, .inl (aI r.2.2.2.2.2.2.2.2.2.2.2.2.2.2.2.2.2.2.1))), (a0_reader_result_marks, .inl (cs.1, 360, .inl (aI r.2.2.2.2.2.2.2.2.2.2.2.2.2.2.2.2.2.2.2.1))), (a1, .inl (cs.2.2.2, a1N, .inr (.inl (aL r.2.2.2.2.2.2.2.2.2.2.2.2.2.2.2.2.2.2.2.2))))] := by
  refine q_starth [⟨0, 8, 11, 15⟩] [(0, .ref a0), (1, .ref a1)] RL rfl (by decide +kernel) rfl rfl (Nat.le_of_ble_eq_true rfl) (q_in 624 (by decide +kernel) (by decide +kernel)) (fun κ ok kx fin => ?_)
  unfold f_L_load at h
  refine j_aload_n (pc := 0) 1 ok dL_load_0 rfl rfl ?_
  refine j_iconst (pc := 1) ok dL_load_1 ?_
  refine j_aload_n (pc := 2) 0 ok dL_load_2 rfl rfl ?_
  obtain ⟨r1, hr1, h⟩ := bd_inv h
  unfold tg1 at h
  refine j_callX (pc := 3) ok kx (k_X7_load (a0 := a0) (a0_now := a0_now) (a0_trial := a0_trial) (a0_firstKeep := a0_firstKeep) (a0_secondKeep := a0_secondKeep) (a0_history := a0_history) (a0_clipboard := a0_clipboard) (a0_reader := a0_reader) (a0_writer := a0_writer) (a0_picture := a0_picture) (a0_firstKeep_formula := a0_firstKeep_formula) (a0_history_ring := a0_history_ring) (a0_now_marks := a0_now_marks) (a0_reader_signs := a0_reader_signs) (a0_reader_result := a0_reader_result) (a0_reader_stack := a0_reader_stack) (a0_secondKeep_formula := a0_secondKeep_formula) (a0_reader_result_marks := a0_reader_result_marks) (a0_firstKeep_filled := a0_firstKeep_filled) (a0_history_oldest := a0_history_oldest) (a0_history_count := a0_history_count) (a0_now_size := a0_now_size) (a0_now_caret := a0_now_caret) (a0_now_from := a0_now_from) (a0_reader_length := a0_reader_length) (a0_reader_top := a0_reader_top) (a0_reader_state := a0_reader_state) (a0_reader_bracket := a0_reader_bracket) (a0_reader_chain := a0_reader_chain) (a0_reader_factor := a0_reader_factor) (a0_reader_isUnder := a0_reader_isUnder) (a0_reader_isPlain := a0_reader_isPlain) (a0_reader_script := a0_reader_script) (a0_reader_isBound := a0_reader_isBound) (a0_secondKeep_filled := a0_secondKeep_filled) (a0_now_marksF := a0_now_marksF) (a0_reader_result_size := a0_reader_result_size) (a0_reader_signsF := a0_reader_signsF) (a0_reader_stackF := a0_reader_stackF) (a0_reader_result_marksF := a0_reader_result_marksF) hr1) gV_L_17 ⟨rfl, hd_X7_load⟩ [0, 1, 2, 3, 4, 5, 6, 7, 8, 9, 10] (by decide) rfl rfl 0 rfl rfl rfl rfl ⟨Nat.le_of_ble_eq_true rfl, Nat.le_of_ble_eq_true rfl⟩ (Nat.le_of_ble_eq_true rfl) dL_load_3 rfl [(a0, .inr (7, [.ref a0_now, .ref a0_trial, .ref a0_firstKeep, .ref a0_secondKeep, .ref a0_history, .ref a0_clipboard, .ref a0_reader, .ref a0_writer, .ref a0_picture])), (a0_firstKeep, .inr (2, [.ref a0_firstKeep_formula, .int (iI r1.2.2.1)])), (a0_history, .inr (1, [.ref a0_history_ring, .int (iI a0_history_oldest), .int (iI r1.2.2.2.1)])), (a0_now, .inr (0, [.ref a0_now_marks, .int (iI r1.2.2.2.2.1), .int (iI r1.2.2.2.2.2.1), .int (iI r1.2.2.2.2.2.2.1)])), (a0_reader, .inr (5, [.ref a0_reader_signs, .int (iI a0_reader_length), .ref a0_reader_result, .ref a0_reader_stack, .int (iI r1.2.2.2.2.2.2.2.1), .int (iI r1.2.2.2.2.2.2.2.2.1), .int (iI r1.2.2.2.2.2.2.2.2.2.1), .int (iI r1.2.2.2.2.2.2.2.2.2.2.1), .int (iI r1.2.2.2.2.2.2.2.2.2.2.2.1), .int (iI r1.2.2.2.2.2.2.2.2.2.2.2.2.1), .int (iI r1.2.2.2.2.2.2.2.2.2.2.2.2.2.1), .int (iI r1.2.2.2.2.2.2.2.2.2.2.2.2.2.2.1), .int (iI r1.2.2.2.2.2.2.2.2.2.2.2.2.2.2.2.1)])), (a0_secondKeep, .inr (2, [.ref a0_secondKeep_formula, .int (iI r1.2.2.2.2.2.2.2.2.2.2.2.2.2.2.2.2.1)])), (a0_now_marks, .inl (cs.1, 180, .inl (aI r1.2.2.2.2.2.2.2.2.2.2.2.2.2.2.2.2.2.1))), (a0_reader_result, .inr (3, [.ref a0_reader_result_marks, .int (iI r1.2.2.2.2.2.2.2.2.2.2.2.2.2.2.2.2.2.2.1)])), (a0_reader_signs, .inl (cs.1, 120, .inl (aI a0_reader_signsF))), (a0_reader_stack, .inl (cs.1, 720, .inl (aI r1.2.2.2.2.2.2.2.2.2.2.2.2.2.2.2.2.2.2.2.1))), (a0_reader_result_marks, .inl (cs.1, 360, .inl (aI r1.2.2.2.2.2.2.2.2.2.2.2.2.2.2.2.2.2.2.2.2))), (a1, .inl (cs.2.2.2, a1N, .inr (.inl (aL a1F))))] rfl (fun ht => ?_) (fun E hE => ?_)
  · rw [if_pos ht] at h
    refine j_i2l (pc := 6) ok dL_load_6 h (fun h => ?_)
    refine j_lastw (pc := 7) 11 ok rfl dL_load_7 h [(a0, .inr (7, [.ref a0_now, .ref a0_trial, .ref a0_firstKeep, .ref a0_secondKeep, .ref a0_history, .ref a0_clipboard, .ref a0_reader, .ref a0_writer, .ref a0_picture])), (a0_firstKeep, .inr (2, [.ref a0_firstKeep_formula, .int (iI r1.2.2.1)])), (a0_history, .inr (1, [.ref a0_history_ring, .int (iI a0_history_oldest), .int (iI r1.2.2.2.1)])), (a0_now, .inr (0, [.ref a0_now_marks, .int (iI r1.2.2.2.2.1), .int (iI r1.2.2.2.2.2.1), .int (iI r1.2.2.2.2.2.2.1)])), (a0_reader, .inr (5, [.ref a0_reader_signs, .int (iI a0_reader_length), .ref a0_reader_result, .ref a0_reader_stack, .int (iI r1.2.2.2.2.2.2.2.1), .int (iI r1.2.2.2.2.2.2.2.2.1), .int (iI r1.2.2.2.2.2.2.2.2.2.1), .int (iI r1.2.2.2.2.2.2.2.2.2.2.1), .int (iI r1.2.2.2.2.2.2.2.2.2.2.2.1), .int (iI r1.2.2.2.2.2.2.2.2.2.2.2.2.1), .int (iI r1.2.2.2.2.2.2.2.2.2.2.2.2.2.1), .int (iI r1.2.2.2.2.2.2.2.2.2.2.2.2.2.2.1), .int (iI r1.2.2.2.2.2.2.2.2.2.2.2.2.2.2.2.1)])), (a0_secondKeep, .inr (2, [.ref a0_secondKeep_formula, .int (iI r1.2.2.2.2.2.2.2.2.2.2.2.2.2.2.2.2.1)])), (a0_now_marks, .inl (cs.1, 180, .inl (aI r1.2.2.2.2.2.2.2.2.2.2.2.2.2.2.2.2.2.1))), (a0_reader_result, .inr (3, [.ref a0_reader_result_marks, .int (iI r1.2.2.2.2.2.2.2.2.2.2.2.2.2.2.2.2.2.2.1)])), (a0_reader_signs, .inl (cs.1, 120, .inl (aI a0_reader_signsF))), (a0_reader_stack, .inl (cs.1, 720, .inl (aI r1.2.2.2.2.2.2.2.2.2.2.2.2.2.2.2.2.2.2.2.1))), (a0_reader_result_marks, .inl (cs.1, 360, .inl (aI r1.2.2.2.2.2.2.2.2.2.2.2.2.2.2.2.2.2.2.2.2))), (a1, .inl (cs.2.2.2, a1N, .inr (.inl (aL (va_up a1F (0 : Int).toNat r1.2.1)))))] rfl (fun h => ?_)
    refine j_goto (pc := 8) 14 ok dL_load_8 (by decide) ?_
    refine j_iconst (pc := 14) ok dL_load_14 ?_
    obtain rfl := Option.some.inj h
    exact fin _ 15 dL_load_15
  · have hn0 : ¬ r1.1 = 0 := fun z => by rw [z] at hE; cases hE
    rw [if_neg hn0] at h
    by_cases ht0 : r1.1 = 2
    · rw [if_pos ht0] at h
      rw [ht0] at hE
      obtain rfl := Option.some.inj hE
      refine ⟨[], ⟨0, 8, 11, 15⟩, [], rfl, fun z hz => absurd hz List.not_mem_nil, by decide, by decide, q_in 525 (by decide +kernel) (by decide +kernel), by decide, fun q9 => ?_⟩
      refine j_eq (pc' := 11) rfl rfl rfl rfl ?_
      refine j_astore_n (pc := 11) (lv' := [(2, .ref q9), (0, .ref a0), (1, .ref a1)]) ok dL_load_11 rfl (by decide) rfl ?_
      refine j_iconst (pc := 12) ok dL_load_12 ?_
      obtain rfl := Option.some.inj h
      exact fin _ 13 dL_load_13
    · rw [if_neg ht0] at h
      cases h
def f_L_about (a2N : Nat) (a0_clipboard_size : Int) (a0_now_size : Int) (a0_now_caret : Int) (a0_clipboard_marksF : (Nat → Int)) (a0_now_marksF : (Nat → Int)) (a2F : (Nat → Int)) (x1 : Int) : Option (Int × (Nat → Int)) := bd (f_X7_about a0_clipboard_size a0_now_size a0_now_caret a0_clipboard_marksF a0_now_marksF x1) (fun r1 => tg1 r1.1 1 (gR r1.2 (gIn 0 a2N (some (0, va_up a2F (0 : Int).toNat r1.2)))) (some (1, a2F)))
set_option maxRecDepth 100000 in
set_option maxHeartbeats 4000000 in
theorem k_L_about {D : va_G} {cs : q_CS} {a0 a0_now a0_trial a0_firstKeep a0_secondKeep a0_history a0_clipboard a0_reader a0_writer a0_picture a0_clipboard_marks a0_now_marks a2 : Nat} {a2N : Nat} {a0_clipboard_size a0_now_size a0_now_caret a0_now_from : Int} {a0_clipboard_marksF a0_now_marksF a2F : (Nat → Int)} {x1 : Int} {r : (Int × (Nat → Int))} (h : f_L_about a2N a0_clipboard_size a0_now_size a0_now_caret a0_clipboard_marksF a0_now_marksF a2F x1 = some r) : q_Mh D cs yL_about cL_about 4 [(0, 9, 12, 13)] 7 103 [.ref a0, .int (iI x1), .ref a2] [(a0, .inr (7, [.ref a0_now, .ref a0_trial, .ref a0_firstKeep, .ref a0_secondKeep, .ref a0_history, .ref a0_clipboard, .ref a0_reader, .ref a0_writer, .ref a0_picture])), (a0_clipboard, .inr (3, [.ref a0_clipboard_marks, .int (iI a0_clipboard_size)])), (a0_now, .inr (0, [.ref a0_now_marks, .int (iI a0_now_size), .int (iI a0_now_caret), .int (iI a0_now_from)])), (a0_clipboard_marks, .inl (cs.1, 180, .inl (aI a0_clipboard_marksF))), (a0_now_marks, .inl (cs.1, 180, .inl (aI a0_now_marksF))), (a2, .inl (cs.2.2.2, a2N, .inr (.inl (aL a2F))))] r.1 [(a0, .inr (7, [.ref a0_now, .ref a0_trial, .ref a0_firstKeep, .ref a0_secondKeep, .ref a0_history, .ref a0_clipboard, .ref a0_reader, .ref a0_writer, .ref a0_picture])), (a0_clipboard, .inr (3, [.ref a0_clipboard_marks, .int (iI a0_clipboard_size)])), (a0_now, .inr (0, [.ref a0_now_marks, .int (iI a0_now_size), .int (iI a0_now_caret), .int (iI a0_now_from)])), (a0_clipboard_marks, .inl (cs.1, 180, .inl (aI a0_clipboard_marksF))), (a0_now_marks, .inl (cs.1, 180, .inl (aI a0_now_marksF))), (a2, .inl (cs.2.2.2, a2N, .inr (.inl (aL r.2))))] := by
  refine q_starth [⟨0, 9, 12, 13⟩] [(0, .ref a0), (1, .int (iI x1)), (2, .ref a2)] RL rfl (by decide +kernel) rfl rfl (Nat.le_of_ble_eq_true rfl) (q_in 662 (by decide +kernel) (by decide +kernel)) (fun κ ok kx fin => ?_)
  unfold f_L_about at h
  refine j_aload_n (pc := 0) 2 ok dL_about_0 rfl rfl ?_
  refine j_iconst (pc := 1) ok dL_about_1 ?_
  refine j_aload_n (pc := 2) 0 ok dL_about_2 rfl rfl ?_
  refine j_iload_n (pc := 3) 1 ok dL_about_3 rfl rfl ?_
  obtain ⟨r1, hr1, h⟩ := bd_inv h
  unfold tg1 at h
  refine j_callX (pc := 4) ok kx (k_X7_about (a0 := a0) (a0_now := a0_now) (a0_trial := a0_trial) (a0_firstKeep := a0_firstKeep) (a0_secondKeep := a0_secondKeep) (a0_history := a0_history) (a0_clipboard := a0_clipboard) (a0_reader := a0_reader) (a0_writer := a0_writer) (a0_picture := a0_picture) (a0_clipboard_marks := a0_clipboard_marks) (a0_now_marks := a0_now_marks) (a0_clipboard_size := a0_clipboard_size) (a0_now_size := a0_now_size) (a0_now_caret := a0_now_caret) (a0_now_from := a0_now_from) (a0_clipboard_marksF := a0_clipboard_marksF) (a0_now_marksF := a0_now_marksF) (x1 := x1) hr1) gV_L_21 ⟨rfl, hd_X7_about⟩ [0, 1, 2, 3, 4] (by decide) rfl rfl 0 rfl rfl rfl rfl ⟨Nat.le_of_ble_eq_true rfl, Nat.le_of_ble_eq_true rfl⟩ (Nat.le_of_ble_eq_true rfl) dL_about_4 rfl [(a0, .inr (7, [.ref a0_now, .ref a0_trial, .ref a0_firstKeep, .ref a0_secondKeep, .ref a0_history, .ref a0_clipboard, .ref a0_reader, .ref a0_writer, .ref a0_picture])), (a0_clipboard, .inr (3, [.ref a0_clipboard_marks, .int (iI a0_clipboard_size)])), (a0_now, .inr (0, [.ref a0_now_marks, .int (iI a0_now_size), .int (iI a0_now_caret), .int (iI a0_now_from)])), (a0_clipboard_marks, .inl (cs.1, 180, .inl (aI a0_clipboard_marksF))), (a0_now_marks, .inl (cs.1, 180, .inl (aI a0_now_marksF))), (a2, .inl (cs.2.2.2, a2N, .inr (.inl (aL a2F))))] rfl (fun ht => ?_) (fun E hE => ?_)
  · rw [if_pos ht] at h
    refine j_i2l (pc := 7) ok dL_about_7 h (fun h => ?_)
    refine j_lastw (pc := 8) 5 ok rfl dL_about_8 h [(a0, .inr (7, [.ref a0_now, .ref a0_trial, .ref a0_firstKeep, .ref a0_secondKeep, .ref a0_history, .ref a0_clipboard, .ref a0_reader, .ref a0_writer, .ref a0_picture])), (a0_clipboard, .inr (3, [.ref a0_clipboard_marks, .int (iI a0_clipboard_size)])), (a0_now, .inr (0, [.ref a0_now_marks, .int (iI a0_now_size), .int (iI a0_now_caret), .int (iI a0_now_from)])), (a0_clipboard_marks, .inl (cs.1, 180, .inl (aI a0_clipboard_marksF))), (a0_now_marks, .inl (cs.1, 180, .inl (aI a0_now_marksF))), (a2, .inl (cs.2.2.2, a2N, .inr (.inl (aL (va_up a2F (0 : Int).toNat r1.2)))))] rfl (fun h => ?_)
    refine j_goto (pc := 9) 15 ok dL_about_9 (by decide) ?_
    refine j_iconst (pc := 15) ok dL_about_15 ?_
    obtain rfl := Option.some.inj h
    exact fin _ 16 dL_about_16
  · have hn0 : ¬ r1.1 = 0 := fun z => by rw [z] at hE; cases hE
    rw [if_neg hn0] at h
    by_cases ht0 : r1.1 = 1
    · rw [if_pos ht0] at h
      rw [ht0] at hE
      obtain rfl := Option.some.inj hE
      refine ⟨[], ⟨0, 9, 12, 13⟩, [], rfl, fun z hz => absurd hz List.not_mem_nil, by decide, by decide, q_in 524 (by decide +kernel) (by decide +kernel), by decide, fun q9 => ?_⟩
      refine j_eq (pc' := 12) rfl rfl rfl rfl ?_
      refine j_astore_n (pc := 12) (lv' := [(3, .ref q9), (0, .ref a0), (1, .int (iI x1)), (2, .ref a2)]) ok dL_about_12 rfl (by decide) rfl ?_
      refine j_iconst (pc := 13) ok dL_about_13 ?_
      obtain rfl := Option.some.inj h
      exact fin _ 14 dL_about_14
    · rw [if_neg ht0] at h
      cases h
def f_L_place (a3N : Nat) (a0_now_size : Int) (a0_now_marksF : (Nat → Int)) (a3F : (Nat → Int)) (x1 : Int) (x2 : Int) : Option (Int × (Nat → Int)) := bd (f_X7_place a0_now_size a0_now_marksF x1 x2) (fun r1 => tg2 r1.1 3 1 (gR r1.2 (gIn 0 a3N (some (0, va_up a3F (0 : Int).toNat r1.2)))) (some (1, a3F)) (some (2, a3F)))
set_option maxRecDepth 100000 in
set_option maxHeartbeats 4000000 in
theorem k_L_place {D : va_G} {cs : q_CS} {a0 a0_now a0_trial a0_firstKeep a0_secondKeep a0_history a0_clipboard a0_reader a0_writer a0_picture a0_now_marks a3 : Nat} {a3N : Nat} {a0_now_size a0_now_caret a0_now_from : Int} {a0_now_marksF a3F : (Nat → Int)} {x1 x2 : Int} {r : (Int × (Nat → Int))} (h : f_L_place a3N a0_now_size a0_now_marksF a3F x1 x2 = some r) : q_Mh D cs yL_place cL_place 5 [(0, 10, 13, 28), (0, 10, 17, 13)] 7 110 [.ref a0, .int (iI x1), .int (iI x2), .ref a3] [(a0, .inr (7, [.ref a0_now, .ref a0_trial, .ref a0_firstKeep, .ref a0_secondKeep, .ref a0_history, .ref a0_clipboard, .ref a0_reader, .ref a0_writer, .ref a0_picture])), (a0_now, .inr (0, [.ref a0_now_marks, .int (iI a0_now_size), .int (iI a0_now_caret), .int (iI a0_now_from)])), (a0_now_marks, .inl (cs.1, 180, .inl (aI a0_now_marksF))), (a3, .inl (cs.2.2.2, a3N, .inr (.inl (aL a3F))))] r.1 [(a0, .inr (7, [.ref a0_now, .ref a0_trial, .ref a0_firstKeep, .ref a0_secondKeep, .ref a0_history, .ref a0_clipboard, .ref a0_reader, .ref a0_writer, .ref a0_picture])), (a0_now, .inr (0, [.ref a0_now_marks, .int (iI a0_now_size), .int (iI a0_now_caret), .int (iI a0_now_from)])), (a0_now_marks, .inl (cs.1, 180, .inl (aI a0_now_marksF))), (a3, .inl (cs.2.2.2, a3N, .inr (.inl (aL r.2))))] := by
  refine q_starth [⟨0, 10, 13, 28⟩, ⟨0, 10, 17, 13⟩] [(0, .ref a0), (1, .int (iI x1)), (2, .int (iI x2)), (3, .ref a3)] RL rfl (by decide +kernel) rfl rfl (Nat.le_of_ble_eq_true rfl) (q_in 680 (by decide +kernel) (by decide +kernel)) (fun κ ok kx fin => ?_)
  unfold f_L_place at h
  refine j_aload_n (pc := 0) 3 ok dL_place_0 rfl rfl ?_
  refine j_iconst (pc := 1) ok dL_place_1 ?_
  refine j_aload_n (pc := 2) 0 ok dL_place_2 rfl rfl ?_
  refine j_iload_n (pc := 3) 1 ok dL_place_3 rfl rfl ?_
  refine j_iload_n (pc := 4) 2 ok dL_place_4 rfl rfl ?_
  obtain ⟨r1, hr1, h⟩ := bd_inv h
  unfold tg2 at h
  refine j_callX (pc := 5) ok kx (k_X7_place (a0 := a0) (a0_now := a0_now) (a0_trial := a0_trial) (a0_firstKeep := a0_firstKeep) (a0_secondKeep := a0_secondKeep) (a0_history := a0_history) (a0_clipboard := a0_clipboard) (a0_reader := a0_reader) (a0_writer := a0_writer) (a0_picture := a0_picture) (a0_now_marks := a0_now_marks) (a0_now_size := a0_now_size) (a0_now_caret := a0_now_caret) (a0_now_from := a0_now_from) (a0_now_marksF := a0_now_marksF) (x1 := x1) (x2 := x2) hr1) gV_L_24 ⟨rfl, hd_X7_place⟩ [0, 1, 2] (by decide) rfl rfl 0 rfl rfl rfl rfl ⟨Nat.le_of_ble_eq_true rfl, Nat.le_of_ble_eq_true rfl⟩ (Nat.le_of_ble_eq_true rfl) dL_place_5 rfl [(a0, .inr (7, [.ref a0_now, .ref a0_trial, .ref a0_firstKeep, .ref a0_secondKeep, .ref a0_history, .ref a0_clipboard, .ref a0_reader, .ref a0_writer, .ref a0_picture])), (a0_now, .inr (0, [.ref a0_now_marks, .int (iI a0_now_size), .int (iI a0_now_caret), .int (iI a0_now_from)])), (a0_now_marks, .inl (cs.1, 180, .inl (aI a0_now_marksF))), (a3, .inl (cs.2.2.2, a3N, .inr (.inl (aL a3F))))] rfl (fun ht => ?_) (fun E hE => ?_)
  · rw [if_pos ht] at h
    refine j_i2l (pc := 8) ok dL_place_8 h (fun h => ?_)
    refine j_lastw (pc := 9) 3 ok rfl dL_place_9 h [(a0, .inr (7, [.ref a0_now, .ref a0_trial, .ref a0_firstKeep, .ref a0_secondKeep, .ref a0_history, .ref a0_clipboard, .ref a0_reader, .ref a0_writer, .ref a0_picture])), (a0_now, .inr (0, [.ref a0_now_marks, .int (iI a0_now_size), .int (iI a0_now_caret), .int (iI a0_now_from)])), (a0_now_marks, .inl (cs.1, 180, .inl (aI a0_now_marksF))), (a3, .inl (cs.2.2.2, a3N, .inr (.inl (aL (va_up a3F (0 : Int).toNat r1.2)))))] rfl (fun h => ?_)
    refine j_goto (pc := 10) 21 ok dL_place_10 (by decide) ?_
    refine j_iconst (pc := 21) ok dL_place_21 ?_
    obtain rfl := Option.some.inj h
    exact fin _ 22 dL_place_22
  · have hn0 : ¬ r1.1 = 0 := fun z => by rw [z] at hE; cases hE
    rw [if_neg hn0] at h
    by_cases ht0 : r1.1 = 3
    · rw [if_pos ht0] at h
      rw [ht0] at hE
      obtain rfl := Option.some.inj hE
      refine ⟨[], ⟨0, 10, 13, 28⟩, [⟨0, 10, 17, 13⟩], rfl, fun z hz => absurd hz List.not_mem_nil, by decide, by decide, q_in 681 (by decide +kernel) (by decide +kernel), by decide, fun q9 => ?_⟩
      refine j_eq (pc' := 13) rfl rfl rfl rfl ?_
      refine j_astore (pc := 13) (lv' := [(4, .ref q9), (0, .ref a0), (1, .int (iI x1)), (2, .int (iI x2)), (3, .ref a3)]) ok dL_place_13 (by decide) rfl ?_
      refine j_iconst (pc := 15) ok dL_place_15 ?_
      obtain rfl := Option.some.inj h
      exact fin _ 16 dL_place_16
    · rw [if_neg ht0] at h
      by_cases ht1 : r1.1 = 1
      · rw [if_pos ht1] at h
        rw [ht1] at hE
        obtain rfl := Option.some.inj hE
        refine ⟨[⟨0, 10, 13, 28⟩], ⟨0, 10, 17, 13⟩, [], rfl, fun z hz => Or.inr (by obtain rfl := List.mem_singleton.mp hz; exact ⟨by decide, "java/lang/IndexOutOfBoundsException", q_in 681 (by decide +kernel) (by decide +kernel), by decide⟩), by decide, by decide, q_in 524 (by decide +kernel) (by decide +kernel), by decide, fun q9 => ?_⟩
        refine j_eq (pc' := 17) rfl rfl rfl rfl ?_
        refine j_astore (pc := 17) (lv' := [(4, .ref q9), (0, .ref a0), (1, .int (iI x1)), (2, .int (iI x2)), (3, .ref a3)]) ok dL_place_17 (by decide) rfl ?_
        refine j_iconst (pc := 19) ok dL_place_19 ?_
        obtain rfl := Option.some.inj h
        exact fin _ 20 dL_place_20
      · rw [if_neg ht1] at h
        cases h
def f_L_selection (a2N : Nat) (a0_now_size : Int) (a0_now_caret : Int) (a0_now_from : Int) (a0_now_marksF : (Nat → Int)) (a2F : (Nat → Int)) (x1 : Int) : Option (Int × (Nat → Int)) := bd (f_X7_selection a0_now_size a0_now_caret a0_now_from a0_now_marksF x1) (fun r1 => tg1 r1.1 1 (gR r1.2 (gIn 0 a2N (some (0, va_up a2F (0 : Int).toNat r1.2)))) (some (1, a2F)))
set_option maxRecDepth 100000 in
set_option maxHeartbeats 4000000 in
theorem k_L_selection {D : va_G} {cs : q_CS} {a0 a0_now a0_trial a0_firstKeep a0_secondKeep a0_history a0_clipboard a0_reader a0_writer a0_picture a0_now_marks a2 : Nat} {a2N : Nat} {a0_now_size a0_now_caret a0_now_from : Int} {a0_now_marksF a2F : (Nat → Int)} {x1 : Int} {r : (Int × (Nat → Int))} (h : f_L_selection a2N a0_now_size a0_now_caret a0_now_from a0_now_marksF a2F x1 = some r) : q_Mh D cs yL_selection cL_selection 4 [(0, 9, 12, 13)] 7 103 [.ref a0, .int (iI x1), .ref a2] [(a0, .inr (7, [.ref a0_now, .ref a0_trial, .ref a0_firstKeep, .ref a0_secondKeep, .ref a0_history, .ref a0_clipboard, .ref a0_reader, .ref a0_writer, .ref a0_picture])), (a0_now, .inr (0, [.ref a0_now_marks, .int (iI a0_now_size), .int (iI a0_now_caret), .int (iI a0_now_from)])), (a0_now_marks, .inl (cs.1, 180, .inl (aI a0_now_marksF))), (a2, .inl (cs.2.2.2, a2N, .inr (.inl (aL a2F))))] r.1 [(a0, .inr (7, [.ref a0_now, .ref a0_trial, .ref a0_firstKeep, .ref a0_secondKeep, .ref a0_history, .ref a0_clipboard, .ref a0_reader, .ref a0_writer, .ref a0_picture])), (a0_now, .inr (0, [.ref a0_now_marks, .int (iI a0_now_size), .int (iI a0_now_caret), .int (iI a0_now_from)])), (a0_now_marks, .inl (cs.1, 180, .inl (aI a0_now_marksF))), (a2, .inl (cs.2.2.2, a2N, .inr (.inl (aL r.2))))] := by
  refine q_starth [⟨0, 9, 12, 13⟩] [(0, .ref a0), (1, .int (iI x1)), (2, .ref a2)] RL rfl (by decide +kernel) rfl rfl (Nat.le_of_ble_eq_true rfl) (q_in 722 (by decide +kernel) (by decide +kernel)) (fun κ ok kx fin => ?_)
  unfold f_L_selection at h
  refine j_aload_n (pc := 0) 2 ok dL_selection_0 rfl rfl ?_
  refine j_iconst (pc := 1) ok dL_selection_1 ?_
  refine j_aload_n (pc := 2) 0 ok dL_selection_2 rfl rfl ?_
  refine j_iload_n (pc := 3) 1 ok dL_selection_3 rfl rfl ?_
  obtain ⟨r1, hr1, h⟩ := bd_inv h
  unfold tg1 at h
  refine j_callX (pc := 4) ok kx (k_X7_selection (a0 := a0) (a0_now := a0_now) (a0_trial := a0_trial) (a0_firstKeep := a0_firstKeep) (a0_secondKeep := a0_secondKeep) (a0_history := a0_history) (a0_clipboard := a0_clipboard) (a0_reader := a0_reader) (a0_writer := a0_writer) (a0_picture := a0_picture) (a0_now_marks := a0_now_marks) (a0_now_size := a0_now_size) (a0_now_caret := a0_now_caret) (a0_now_from := a0_now_from) (a0_now_marksF := a0_now_marksF) (x1 := x1) hr1) gV_L_30 ⟨rfl, hd_X7_selection⟩ [0, 1, 2] (by decide) rfl rfl 0 rfl rfl rfl rfl ⟨Nat.le_of_ble_eq_true rfl, Nat.le_of_ble_eq_true rfl⟩ (Nat.le_of_ble_eq_true rfl) dL_selection_4 rfl [(a0, .inr (7, [.ref a0_now, .ref a0_trial, .ref a0_firstKeep, .ref a0_secondKeep, .ref a0_history, .ref a0_clipboard, .ref a0_reader, .ref a0_writer, .ref a0_picture])), (a0_now, .inr (0, [.ref a0_now_marks, .int (iI a0_now_size), .int (iI a0_now_caret), .int (iI a0_now_from)])), (a0_now_marks, .inl (cs.1, 180, .inl (aI a0_now_marksF))), (a2, .inl (cs.2.2.2, a2N, .inr (.inl (aL a2F))))] rfl (fun ht => ?_) (fun E hE => ?_)
  · rw [if_pos ht] at h
    refine j_i2l (pc := 7) ok dL_selection_7 h (fun h => ?_)
    refine j_lastw (pc := 8) 3 ok rfl dL_selection_8 h [(a0, .inr (7, [.ref a0_now, .ref a0_trial, .ref a0_firstKeep, .ref a0_secondKeep, .ref a0_history, .ref a0_clipboard, .ref a0_reader, .ref a0_writer, .ref a0_picture])), (a0_now, .inr (0, [.ref a0_now_marks, .int (iI a0_now_size), .int (iI a0_now_caret), .int (iI a0_now_from)])), (a0_now_marks, .inl (cs.1, 180, .inl (aI a0_now_marksF))), (a2, .inl (cs.2.2.2, a2N, .inr (.inl (aL (va_up a2F (0 : Int).toNat r1.2)))))] rfl (fun h => ?_)
    refine j_goto (pc := 9) 15 ok dL_selection_9 (by decide) ?_
    refine j_iconst (pc := 15) ok dL_selection_15 ?_
    obtain rfl := Option.some.inj h
    exact fin _ 16 dL_selection_16
  · have hn0 : ¬ r1.1 = 0 := fun z => by rw [z] at hE; cases hE
    rw [if_neg hn0] at h
    by_cases ht0 : r1.1 = 1
    · rw [if_pos ht0] at h
      rw [ht0] at hE
      obtain rfl := Option.some.inj hE
      refine ⟨[], ⟨0, 9, 12, 13⟩, [], rfl, fun z hz => absurd hz List.not_mem_nil, by decide, by decide, q_in 524 (by decide +kernel) (by decide +kernel), by decide, fun q9 => ?_⟩
      refine j_eq (pc' := 12) rfl rfl rfl rfl ?_
      refine j_astore_n (pc := 12) (lv' := [(3, .ref q9), (0, .ref a0), (1, .int (iI x1)), (2, .ref a2)]) ok dL_selection_12 rfl (by decide) rfl ?_
      refine j_iconst (pc := 13) ok dL_selection_13 ?_
      obtain rfl := Option.some.inj h
      exact fin _ 14 dL_selection_14
    · rw [if_neg ht0] at h
      cases h
def f_L_linearAt (a2N : Nat) (a0_now_size : Int) (a0_writer_length : Int) (a0_now_marksF : (Nat → Int)) (a0_writer_bracketedF : (Nat → Int)) (a0_writer_signsF : (Nat → Int)) (a2F : (Nat → Int)) (x1 : Int) : Option (Int × Int × (Nat → Int) × (Nat → Int) × (Nat → Int)) := bd (f_X7_linearAt a0_now_size a0_writer_length a0_now_marksF a0_writer_bracketedF a0_writer_signsF x1) (fun r1 => tg1 r1.1 3 (gR r1.2.1 (gIn 0 a2N (some (0, r1.2.2.1, r1.2.2.2.1, r1.2.2.2.2, va_up a2F (0 : Int).toNat r1.2.1)))) (some (1, r1.2.2.1, r1.2.2.2.1, r1.2.2.2.2, a2F)))
set_option maxRecDepth 100000 in
set_option maxHeartbeats 4000000 in
theorem k_L_linearAt {D : va_G} {cs : q_CS} {a0 a0_now a0_trial a0_firstKeep a0_secondKeep a0_history a0_clipboard a0_reader a0_writer a0_picture a0_now_marks a0_writer_signs a0_writer_bracketed a2 : Nat} {a2N : Nat} {a0_now_size a0_now_caret a0_now_from a0_writer_length : Int} {a0_now_marksF a0_writer_bracketedF a0_writer_signsF a2F : (Nat → Int)} {x1 : Int} {r : (Int × Int × (Nat → Int) × (Nat → Int) × (Nat → Int))} (h : f_L_linearAt a2N a0_now_size a0_writer_length a0_now_marksF a0_writer_bracketedF a0_writer_signsF a2F x1 = some r) : q_Mh D cs yL_linearAt cL_linearAt 4 [(0, 9, 12, 28)] 7 139 [.ref a0, .int (iI x1), .ref a2] [(a0, .inr (7, [.ref a0_now, .ref a0_trial, .ref a0_firstKeep, .ref a0_secondKeep, .ref a0_history, .ref a0_clipboard, .ref a0_reader, .ref a0_writer, .ref a0_picture])), (a0_now, .inr (0, [.ref a0_now_marks, .int (iI a0_now_size), .int (iI a0_now_caret), .int (iI a0_now_from)])), (a0_writer, .inr (6, [.ref a0_writer_signs, .int (iI a0_writer_length), .ref a0_writer_bracketed])), (a0_now_marks, .inl (cs.1, 180, .inl (aI a0_now_marksF))), (a0_writer_bracketed, .inl (cs.2.1, 6, .inl (aI a0_writer_bracketedF))), (a0_writer_signs, .inl (cs.1, 300, .inl (aI a0_writer_signsF))), (a2, .inl (cs.2.2.2, a2N, .inr (.inl (aL a2F))))] r.1 [(a0, .inr (7, [.ref a0_now, .ref a0_trial, .ref a0_firstKeep, .ref a0_secondKeep, .ref a0_history, .ref a0_clipboard, .ref a0_reader, .ref a0_writer, .ref a0_picture])), (a0_now, .inr (0, [.ref a0_now_marks, .int (iI a0_now_size), .int (iI a0_now_caret), .int (iI a0_now_from)])), (a0_writer, .inr (6, [.ref a0_writer_signs, .int (iI r.2.1), .ref a0_writer_bracketed])), (a0_now_marks, .inl (cs.1, 180, .inl (aI a0_now_marksF))), (a0_writer_bracketed, .inl (cs.2.1, 6, .inl (aI r.2.2.1))), (a0_writer_signs, .inl (cs.1, 300, .inl (aI r.2.2.2.1))), (a2, .inl (cs.2.2.2, a2N, .inr (.inl (aL r.2.2.2.2))))] := by
  refine q_starth [⟨0, 9, 12, 28⟩] [(0, .ref a0), (1, .int (iI x1)), (2, .ref a2)] RL rfl (by decide +kernel) rfl rfl (Nat.le_of_ble_eq_true rfl) (q_in 742 (by decide +kernel) (by decide +kernel)) (fun κ ok kx fin => ?_)
  unfold f_L_linearAt at h
  refine j_aload_n (pc := 0) 2 ok dL_linearAt_0 rfl rfl ?_
  refine j_iconst (pc := 1) ok dL_linearAt_1 ?_
  refine j_aload_n (pc := 2) 0 ok dL_linearAt_2 rfl rfl ?_
  refine j_iload_n (pc := 3) 1 ok dL_linearAt_3 rfl rfl ?_
  obtain ⟨r1, hr1, h⟩ := bd_inv h
  unfold tg1 at h
  refine j_callX (pc := 4) ok kx (k_X7_linearAt (a0 := a0) (a0_now := a0_now) (a0_trial := a0_trial) (a0_firstKeep := a0_firstKeep) (a0_secondKeep := a0_secondKeep) (a0_history := a0_history) (a0_clipboard := a0_clipboard) (a0_reader := a0_reader) (a0_writer := a0_writer) (a0_picture := a0_picture) (a0_now_marks := a0_now_marks) (a0_writer_signs := a0_writer_signs) (a0_writer_bracketed := a0_writer_bracketed) (a0_now_size := a0_now_size) (a0_now_caret := a0_now_caret) (a0_now_from := a0_now_from) (a0_writer_length := a0_writer_length) (a0_now_marksF := a0_now_marksF) (a0_writer_bracketedF := a0_writer_bracketedF) (a0_writer_signsF := a0_writer_signsF) (x1 := x1) hr1) gV_L_33 ⟨rfl, hd_X7_linearAt⟩ [0, 1, 2, 3, 4, 5] (by decide) rfl rfl 0 rfl rfl rfl rfl ⟨Nat.le_of_ble_eq_true rfl, Nat.le_of_ble_eq_true rfl⟩ (Nat.le_of_ble_eq_true rfl) dL_linearAt_4 rfl [(a0, .inr (7, [.ref a0_now, .ref a0_trial, .ref a0_firstKeep, .ref a0_secondKeep, .ref a0_history, .ref a0_clipboard, .ref a0_reader, .ref a0_writer, .ref a0_picture])), (a0_now, .inr (0, [.ref a0_now_marks, .int (iI a0_now_size), .int (iI a0_now_caret), .int (iI a0_now_from)])), (a0_writer, .inr (6, [.ref a0_writer_signs, .int (iI r1.2.2.1), .ref a0_writer_bracketed])), (a0_now_marks, .inl (cs.1, 180, .inl (aI a0_now_marksF))), (a0_writer_bracketed, .inl (cs.2.1, 6, .inl (aI r1.2.2.2.1))), (a0_writer_signs, .inl (cs.1, 300, .inl (aI r1.2.2.2.2))), (a2, .inl (cs.2.2.2, a2N, .inr (.inl (aL a2F))))] rfl (fun ht => ?_) (fun E hE => ?_)
  · rw [if_pos ht] at h
    refine j_i2l (pc := 7) ok dL_linearAt_7 h (fun h => ?_)
    refine j_lastw (pc := 8) 6 ok rfl dL_linearAt_8 h [(a0, .inr (7, [.ref a0_now, .ref a0_trial, .ref a0_firstKeep, .ref a0_secondKeep, .ref a0_history, .ref a0_clipboard, .ref a0_reader, .ref a0_writer, .ref a0_picture])), (a0_now, .inr (0, [.ref a0_now_marks, .int (iI a0_now_size), .int (iI a0_now_caret), .int (iI a0_now_from)])), (a0_writer, .inr (6, [.ref a0_writer_signs, .int (iI r1.2.2.1), .ref a0_writer_bracketed])), (a0_now_marks, .inl (cs.1, 180, .inl (aI a0_now_marksF))), (a0_writer_bracketed, .inl (cs.2.1, 6, .inl (aI r1.2.2.2.1))), (a0_writer_signs, .inl (cs.1, 300, .inl (aI r1.2.2.2.2))), (a2, .inl (cs.2.2.2, a2N, .inr (.inl (aL (va_up a2F (0 : Int).toNat r1.2.1)))))] rfl (fun h => ?_)
    refine j_goto (pc := 9) 15 ok dL_linearAt_9 (by decide) ?_
    refine j_iconst (pc := 15) ok dL_linearAt_15 ?_
    obtain rfl := Option.some.inj h
    exact fin _ 16 dL_linearAt_16
  · have hn0 : ¬ r1.1 = 0 := fun z => by rw [z] at hE; cases hE
    rw [if_neg hn0] at h
    by_cases ht0 : r1.1 = 3
    · rw [if_pos ht0] at h
      rw [ht0] at hE
      obtain rfl := Option.some.inj hE
      refine ⟨[], ⟨0, 9, 12, 28⟩, [], rfl, fun z hz => absurd hz List.not_mem_nil, by decide, by decide, q_in 681 (by decide +kernel) (by decide +kernel), by decide, fun q9 => ?_⟩
      refine j_eq (pc' := 12) rfl rfl rfl rfl ?_
      refine j_astore_n (pc := 12) (lv' := [(3, .ref q9), (0, .ref a0), (1, .int (iI x1)), (2, .ref a2)]) ok dL_linearAt_12 rfl (by decide) rfl ?_
      refine j_iconst (pc := 13) ok dL_linearAt_13 ?_
      obtain rfl := Option.some.inj h
      exact fin _ 14 dL_linearAt_14
    · rw [if_neg ht0] at h
      cases h
def f_L_moveTo (a2N : Nat) (a0_now_size : Int) (a0_now_caret : Int) (a0_now_from : Int) (a2F : (Nat → Int)) (x1 : Int) : Option (Int × Int × Int × (Nat → Int)) := bd (f_X7_moveTo a0_now_size a0_now_caret a0_now_from x1) (fun r1 => tg1 r1.1 3 (gR r1.2.1 (gIn 0 a2N (some (0, r1.2.2.1, r1.2.2.2, va_up a2F (0 : Int).toNat r1.2.1)))) (some (1, r1.2.2.1, r1.2.2.2, a2F)))
set_option maxRecDepth 100000 in
set_option maxHeartbeats 4000000 in
theorem k_L_moveTo {D : va_G} {cs : q_CS} {a0 a0_now a0_trial a0_firstKeep a0_secondKeep a0_history a0_clipboard a0_reader a0_writer a0_picture a0_now_marks a2 : Nat} {a2N : Nat} {a0_now_size a0_now_caret a0_now_from : Int} {a0_now_marksF a2F : (Nat → Int)} {x1 : Int} {r : (Int × Int × Int × (Nat → Int))} (h : f_L_moveTo a2N a0_now_size a0_now_caret a0_now_from a2F x1 = some r) : q_Mh D cs yL_moveTo cL_moveTo 4 [(0, 9, 12, 28)] 7 104 [.ref a0, .int (iI x1), .ref a2] [(a0, .inr (7, [.ref a0_now, .ref a0_trial, .ref a0_firstKeep, .ref a0_secondKeep, .ref a0_history, .ref a0_clipboard, .ref a0_reader, .ref a0_writer, .ref a0_picture])), (a0_now, .inr (0, [.ref a0_now_marks, .int (iI a0_now_size), .int (iI a0_now_caret), .int (iI a0_now_from)])), (a0_now_marks, .inl (cs.1, 180, .inl (aI a0_now_marksF))), (a2, .inl (cs.2.2.2, a2N, .inr (.inl (aL a2F))))] r.1 [(a0, .inr (7, [.ref a0_now, .ref a0_trial, .ref a0_firstKeep, .ref a0_secondKeep, .ref a0_history, .ref a0_clipboard, .ref a0_reader, .ref a0_writer, .ref a0_picture])), (a0_now, .inr (0, [.ref a0_now_marks, .int (iI a0_now_size), .int (iI r.2.1), .int (iI r.2.2.1)])), (a0_now_marks, .inl (cs.1, 180, .inl (aI a0_now_marksF))), (a2, .inl (cs.2.2.2, a2N, .inr (.inl (aL r.2.2.2))))] := by
  refine q_starth [⟨0, 9, 12, 28⟩] [(0, .ref a0), (1, .int (iI x1)), (2, .ref a2)] RL rfl (by decide +kernel) rfl rfl (Nat.le_of_ble_eq_true rfl) (q_in 754 (by decide +kernel) (by decide +kernel)) (fun κ ok kx fin => ?_)
  unfold f_L_moveTo at h
  refine j_aload_n (pc := 0) 2 ok dL_moveTo_0 rfl rfl ?_
  refine j_iconst (pc := 1) ok dL_moveTo_1 ?_
  refine j_aload_n (pc := 2) 0 ok dL_moveTo_2 rfl rfl ?_
  refine j_iload_n (pc := 3) 1 ok dL_moveTo_3 rfl rfl ?_
  obtain ⟨r1, hr1, h⟩ := bd_inv h
  unfold tg1 at h
  refine j_callX (pc := 4) ok kx (k_X7_moveTo (a0 := a0) (a0_now := a0_now) (a0_trial := a0_trial) (a0_firstKeep := a0_firstKeep) (a0_secondKeep := a0_secondKeep) (a0_history := a0_history) (a0_clipboard := a0_clipboard) (a0_reader := a0_reader) (a0_writer := a0_writer) (a0_picture := a0_picture) (a0_now_marks := a0_now_marks) (a0_now_size := a0_now_size) (a0_now_caret := a0_now_caret) (a0_now_from := a0_now_from) (a0_now_marksF := a0_now_marksF) (x1 := x1) hr1) gV_L_36 ⟨rfl, hd_X7_moveTo⟩ [0, 1, 2] (by decide) rfl rfl 0 rfl rfl rfl rfl ⟨Nat.le_of_ble_eq_true rfl, Nat.le_of_ble_eq_true rfl⟩ (Nat.le_of_ble_eq_true rfl) dL_moveTo_4 rfl [(a0, .inr (7, [.ref a0_now, .ref a0_trial, .ref a0_firstKeep, .ref a0_secondKeep, .ref a0_history, .ref a0_clipboard, .ref a0_reader, .ref a0_writer, .ref a0_picture])), (a0_now, .inr (0, [.ref a0_now_marks, .int (iI a0_now_size), .int (iI r1.2.2.1), .int (iI r1.2.2.2)])), (a0_now_marks, .inl (cs.1, 180, .inl (aI a0_now_marksF))), (a2, .inl (cs.2.2.2, a2N, .inr (.inl (aL a2F))))] rfl (fun ht => ?_) (fun E hE => ?_)
  · rw [if_pos ht] at h
    refine j_i2l (pc := 7) ok dL_moveTo_7 h (fun h => ?_)
    refine j_lastw (pc := 8) 3 ok rfl dL_moveTo_8 h [(a0, .inr (7, [.ref a0_now, .ref a0_trial, .ref a0_firstKeep, .ref a0_secondKeep, .ref a0_history, .ref a0_clipboard, .ref a0_reader, .ref a0_writer, .ref a0_picture])), (a0_now, .inr (0, [.ref a0_now_marks, .int (iI a0_now_size), .int (iI r1.2.2.1), .int (iI r1.2.2.2)])), (a0_now_marks, .inl (cs.1, 180, .inl (aI a0_now_marksF))), (a2, .inl (cs.2.2.2, a2N, .inr (.inl (aL (va_up a2F (0 : Int).toNat r1.2.1)))))] rfl (fun h => ?_)
    refine j_goto (pc := 9) 15 ok dL_moveTo_9 (by decide) ?_
    refine j_iconst (pc := 15) ok dL_moveTo_15 ?_
    obtain rfl := Option.some.inj h
    exact fin _ 16 dL_moveTo_16
  · have hn0 : ¬ r1.1 = 0 := fun z => by rw [z] at hE; cases hE
    rw [if_neg hn0] at h
    by_cases ht0 : r1.1 = 3
    · rw [if_pos ht0] at h
      rw [ht0] at hE
      obtain rfl := Option.some.inj hE
      refine ⟨[], ⟨0, 9, 12, 28⟩, [], rfl, fun z hz => absurd hz List.not_mem_nil, by decide, by decide, q_in 681 (by decide +kernel) (by decide +kernel), by decide, fun q9 => ?_⟩
      refine j_eq (pc' := 12) rfl rfl rfl rfl ?_
      refine j_astore_n (pc := 12) (lv' := [(3, .ref q9), (0, .ref a0), (1, .int (iI x1)), (2, .ref a2)]) ok dL_moveTo_12 rfl (by decide) rfl ?_
      refine j_iconst (pc := 13) ok dL_moveTo_13 ?_
      obtain rfl := Option.some.inj h
      exact fin _ 14 dL_moveTo_14
    · rw [if_neg ht0] at h
      cases h
def f_L_moveBy (a2N : Nat) (a0_now_size : Int) (a0_now_caret : Int) (a0_now_from : Int) (a2F : (Nat → Int)) (x1 : Int) : Option (Int × Int × Int × (Nat → Int)) := bd (f_X7_moveBy a0_now_size a0_now_caret a0_now_from x1) (fun r1 => tg1 r1.1 1 (gR r1.2.1 (gIn 0 a2N (some (0, r1.2.2.1, r1.2.2.2, va_up a2F (0 : Int).toNat r1.2.1)))) (some (1, r1.2.2.1, r1.2.2.2, a2F)))
set_option maxRecDepth 100000 in
set_option maxHeartbeats 4000000 in
theorem k_L_moveBy {D : va_G} {cs : q_CS} {a0 a0_now a0_trial a0_firstKeep a0_secondKeep a0_history a0_clipboard a0_reader a0_writer a0_picture a0_now_marks a2 : Nat} {a2N : Nat} {a0_now_size a0_now_caret a0_now_from : Int} {a2F : (Nat → Int)} {x1 : Int} {r : (Int × Int × Int × (Nat → Int))} (h : f_L_moveBy a2N a0_now_size a0_now_caret a0_now_from a2F x1 = some r) : q_Mh D cs yL_moveBy cL_moveBy 4 [(0, 9, 12, 13)] 7 103 [.ref a0, .int (iI x1), .ref a2] [(a0, .inr (7, [.ref a0_now, .ref a0_trial, .ref a0_firstKeep, .ref a0_secondKeep, .ref a0_history, .ref a0_clipboard, .ref a0_reader, .ref a0_writer, .ref a0_picture])), (a0_now, .inr (0, [.ref a0_now_marks, .int (iI a0_now_size), .int (iI a0_now_caret), .int (iI a0_now_from)])), (a2, .inl (cs.2.2.2, a2N, .inr (.inl (aL a2F))))] r.1 [(a0, .inr (7, [.ref a0_now, .ref a0_trial, .ref a0_firstKeep, .ref a0_secondKeep, .ref a0_history, .ref a0_clipboard, .ref a0_reader, .ref a0_writer, .ref a0_picture])), (a0_now, .inr (0, [.ref a0_now_marks, .int (iI a0_now_size), .int (iI r.2.1), .int (iI r.2.2.1)])), (a2, .inl (cs.2.2.2, a2N, .inr (.inl (aL r.2.2.2))))] := by
  refine q_starth [⟨0, 9, 12, 13⟩] [(0, .ref a0), (1, .int (iI x1)), (2, .ref a2)] RL rfl (by decide +kernel) rfl rfl (Nat.le_of_ble_eq_true rfl) (q_in 761 (by decide +kernel) (by decide +kernel)) (fun κ ok kx fin => ?_)
  unfold f_L_moveBy at h
  refine j_aload_n (pc := 0) 2 ok dL_moveBy_0 rfl rfl ?_
  refine j_iconst (pc := 1) ok dL_moveBy_1 ?_
  refine j_aload_n (pc := 2) 0 ok dL_moveBy_2 rfl rfl ?_
  refine j_iload_n (pc := 3) 1 ok dL_moveBy_3 rfl rfl ?_
  obtain ⟨r1, hr1, h⟩ := bd_inv h
  unfold tg1 at h
  refine j_callX (pc := 4) ok kx (k_X7_moveBy (a0 := a0) (a0_now := a0_now) (a0_trial := a0_trial) (a0_firstKeep := a0_firstKeep) (a0_secondKeep := a0_secondKeep) (a0_history := a0_history) (a0_clipboard := a0_clipboard) (a0_reader := a0_reader) (a0_writer := a0_writer) (a0_picture := a0_picture) (a0_now_marks := a0_now_marks) (a0_now_size := a0_now_size) (a0_now_caret := a0_now_caret) (a0_now_from := a0_now_from) (x1 := x1) hr1) gV_L_39 ⟨rfl, hd_X7_moveBy⟩ [0, 1] (by decide) rfl rfl 0 rfl rfl rfl rfl ⟨Nat.le_of_ble_eq_true rfl, Nat.le_of_ble_eq_true rfl⟩ (Nat.le_of_ble_eq_true rfl) dL_moveBy_4 rfl [(a0, .inr (7, [.ref a0_now, .ref a0_trial, .ref a0_firstKeep, .ref a0_secondKeep, .ref a0_history, .ref a0_clipboard, .ref a0_reader, .ref a0_writer, .ref a0_picture])), (a0_now, .inr (0, [.ref a0_now_marks, .int (iI a0_now_size), .int (iI r1.2.2.1), .int (iI r1.2.2.2)])), (a2, .inl (cs.2.2.2, a2N, .inr (.inl (aL a2F))))] rfl (fun ht => ?_) (fun E hE => ?_)
  · rw [if_pos ht] at h
    refine j_i2l (pc := 7) ok dL_moveBy_7 h (fun h => ?_)
    refine j_lastw (pc := 8) 2 ok rfl dL_moveBy_8 h [(a0, .inr (7, [.ref a0_now, .ref a0_trial, .ref a0_firstKeep, .ref a0_secondKeep, .ref a0_history, .ref a0_clipboard, .ref a0_reader, .ref a0_writer, .ref a0_picture])), (a0_now, .inr (0, [.ref a0_now_marks, .int (iI a0_now_size), .int (iI r1.2.2.1), .int (iI r1.2.2.2)])), (a2, .inl (cs.2.2.2, a2N, .inr (.inl (aL (va_up a2F (0 : Int).toNat r1.2.1)))))] rfl (fun h => ?_)
    refine j_goto (pc := 9) 15 ok dL_moveBy_9 (by decide) ?_
    refine j_iconst (pc := 15) ok dL_moveBy_15 ?_
    obtain rfl := Option.some.inj h
    exact fin _ 16 dL_moveBy_16
  · have hn0 : ¬ r1.1 = 0 := fun z => by rw [z] at hE; cases hE
    rw [if_neg hn0] at h
    by_cases ht0 : r1.1 = 1
    · rw [if_pos ht0] at h
      rw [ht0] at hE
      obtain rfl := Option.some.inj hE
      refine ⟨[], ⟨0, 9, 12, 13⟩, [], rfl, fun z hz => absurd hz List.not_mem_nil, by decide, by decide, q_in 524 (by decide +kernel) (by decide +kernel), by decide, fun q9 => ?_⟩
      refine j_eq (pc' := 12) rfl rfl rfl rfl ?_
      refine j_astore_n (pc := 12) (lv' := [(3, .ref q9), (0, .ref a0), (1, .int (iI x1)), (2, .ref a2)]) ok dL_moveBy_12 rfl (by decide) rfl ?_
      refine j_iconst (pc := 13) ok dL_moveBy_13 ?_
      obtain rfl := Option.some.inj h
      exact fin _ 14 dL_moveBy_14
    · rw [if_neg ht0] at h
      cases h
def f_L_extend (a2N : Nat) (a0_now_size : Int) (a0_now_caret : Int) (a0_now_from : Int) (a0_now_marksF : (Nat → Int)) (a2F : (Nat → Int)) (x1 : Int) : Option (Int × Int × Int × (Nat → Int)) := bd (f_X7_extend a0_now_size a0_now_caret a0_now_from a0_now_marksF x1) (fun r1 => tg1 r1.1 2 (gR r1.2.1 (gIn 0 a2N (some (0, r1.2.2.1, r1.2.2.2, va_up a2F (0 : Int).toNat r1.2.1)))) (some (1, r1.2.2.1, r1.2.2.2, a2F)))
set_option maxRecDepth 100000 in
set_option maxHeartbeats 4000000 in
theorem k_L_extend {D : va_G} {cs : q_CS} {a0 a0_now a0_trial a0_firstKeep a0_secondKeep a0_history a0_clipboard a0_reader a0_writer a0_picture a0_now_marks a2 : Nat} {a2N : Nat} {a0_now_size a0_now_caret a0_now_from : Int} {a0_now_marksF a2F : (Nat → Int)} {x1 : Int} {r : (Int × Int × Int × (Nat → Int))} (h : f_L_extend a2N a0_now_size a0_now_caret a0_now_from a0_now_marksF a2F x1 = some r) : q_Mh D cs yL_extend cL_extend 4 [(0, 9, 12, 15)] 7 104 [.ref a0, .int (iI x1), .ref a2] [(a0, .inr (7, [.ref a0_now, .ref a0_trial, .ref a0_firstKeep, .ref a0_secondKeep, .ref a0_history, .ref a0_clipboard, .ref a0_reader, .ref a0_writer, .ref a0_picture])), (a0_now, .inr (0, [.ref a0_now_marks, .int (iI a0_now_size), .int (iI a0_now_caret), .int (iI a0_now_from)])), (a0_now_marks, .inl (cs.1, 180, .inl (aI a0_now_marksF))), (a2, .inl (cs.2.2.2, a2N, .inr (.inl (aL a2F))))] r.1 [(a0, .inr (7, [.ref a0_now, .ref a0_trial, .ref a0_firstKeep, .ref a0_secondKeep, .ref a0_history, .ref a0_clipboard, .ref a0_reader, .ref a0_writer, .ref a0_picture])), (a0_now, .inr (0, [.ref a0_now_marks, .int (iI a0_now_size), .int (iI r.2.1), .int (iI r.2.2.1)])), (a0_now_marks, .inl (cs.1, 180, .inl (aI a0_now_marksF))), (a2, .inl (cs.2.2.2, a2N, .inr (.inl (aL r.2.2.2))))] := by
  refine q_starth [⟨0, 9, 12, 15⟩] [(0, .ref a0), (1, .int (iI x1)), (2, .ref a2)] RL rfl (by decide +kernel) rfl rfl (Nat.le_of_ble_eq_true rfl) (q_in 778 (by decide +kernel) (by decide +kernel)) (fun κ ok kx fin => ?_)
  unfold f_L_extend at h
  refine j_aload_n (pc := 0) 2 ok dL_extend_0 rfl rfl ?_
  refine j_iconst (pc := 1) ok dL_extend_1 ?_
  refine j_aload_n (pc := 2) 0 ok dL_extend_2 rfl rfl ?_
  refine j_iload_n (pc := 3) 1 ok dL_extend_3 rfl rfl ?_
  obtain ⟨r1, hr1, h⟩ := bd_inv h
  unfold tg1 at h
  refine j_callX (pc := 4) ok kx (k_X7_extend (a0 := a0) (a0_now := a0_now) (a0_trial := a0_trial) (a0_firstKeep := a0_firstKeep) (a0_secondKeep := a0_secondKeep) (a0_history := a0_history) (a0_clipboard := a0_clipboard) (a0_reader := a0_reader) (a0_writer := a0_writer) (a0_picture := a0_picture) (a0_now_marks := a0_now_marks) (a0_now_size := a0_now_size) (a0_now_caret := a0_now_caret) (a0_now_from := a0_now_from) (a0_now_marksF := a0_now_marksF) (x1 := x1) hr1) gV_L_42 ⟨rfl, hd_X7_extend⟩ [0, 1, 2] (by decide) rfl rfl 0 rfl rfl rfl rfl ⟨Nat.le_of_ble_eq_true rfl, Nat.le_of_ble_eq_true rfl⟩ (Nat.le_of_ble_eq_true rfl) dL_extend_4 rfl [(a0, .inr (7, [.ref a0_now, .ref a0_trial, .ref a0_firstKeep, .ref a0_secondKeep, .ref a0_history, .ref a0_clipboard, .ref a0_reader, .ref a0_writer, .ref a0_picture])), (a0_now, .inr (0, [.ref a0_now_marks, .int (iI a0_now_size), .int (iI r1.2.2.1), .int (iI r1.2.2.2)])), (a0_now_marks, .inl (cs.1, 180, .inl (aI a0_now_marksF))), (a2, .inl (cs.2.2.2, a2N, .inr (.inl (aL a2F))))] rfl (fun ht => ?_) (fun E hE => ?_)
  · rw [if_pos ht] at h
    refine j_i2l (pc := 7) ok dL_extend_7 h (fun h => ?_)
    refine j_lastw (pc := 8) 3 ok rfl dL_extend_8 h [(a0, .inr (7, [.ref a0_now, .ref a0_trial, .ref a0_firstKeep, .ref a0_secondKeep, .ref a0_history, .ref a0_clipboard, .ref a0_reader, .ref a0_writer, .ref a0_picture])), (a0_now, .inr (0, [.ref a0_now_marks, .int (iI a0_now_size), .int (iI r1.2.2.1), .int (iI r1.2.2.2)])), (a0_now_marks, .inl (cs.1, 180, .inl (aI a0_now_marksF))), (a2, .inl (cs.2.2.2, a2N, .inr (.inl (aL (va_up a2F (0 : Int).toNat r1.2.1)))))] rfl (fun h => ?_)
    refine j_goto (pc := 9) 15 ok dL_extend_9 (by decide) ?_
    refine j_iconst (pc := 15) ok dL_extend_15 ?_
    obtain rfl := Option.some.inj h
    exact fin _ 16 dL_extend_16
  · have hn0 : ¬ r1.1 = 0 := fun z => by rw [z] at hE; cases hE
    rw [if_neg hn0] at h
    by_cases ht0 : r1.1 = 2
    · rw [if_pos ht0] at h
      rw [ht0] at hE
      obtain rfl := Option.some.inj hE
      refine ⟨[], ⟨0, 9, 12, 15⟩, [], rfl, fun z hz => absurd hz List.not_mem_nil, by decide, by decide, q_in 525 (by decide +kernel) (by decide +kernel), by decide, fun q9 => ?_⟩
      refine j_eq (pc' := 12) rfl rfl rfl rfl ?_
      refine j_astore_n (pc := 12) (lv' := [(3, .ref q9), (0, .ref a0), (1, .int (iI x1)), (2, .ref a2)]) ok dL_extend_12 rfl (by decide) rfl ?_
      refine j_iconst (pc := 13) ok dL_extend_13 ?_
      obtain rfl := Option.some.inj h
      exact fin _ 14 dL_extend_14
    · rw [if_neg ht0] at h
      cases h
def f_L_grow (a1N : Nat) (a0_now_size : Int) (a0_now_caret : Int) (a0_now_from : Int) (a0_now_marksF : (Nat → Int)) (a1F : (Nat → Int)) : Option (Int × Int × Int × (Nat → Int)) := bd (f_X7_grow a0_now_size a0_now_caret a0_now_from a0_now_marksF) (fun r1 => tg1 r1.1 2 (gR r1.2.1 (gIn 0 a1N (some (0, r1.2.2.1, r1.2.2.2, va_up a1F (0 : Int).toNat r1.2.1)))) (some (1, r1.2.2.1, r1.2.2.2, a1F)))
set_option maxRecDepth 100000 in
set_option maxHeartbeats 4000000 in
theorem k_L_grow {D : va_G} {cs : q_CS} {a0 a0_now a0_trial a0_firstKeep a0_secondKeep a0_history a0_clipboard a0_reader a0_writer a0_picture a0_now_marks a1 : Nat} {a1N : Nat} {a0_now_size a0_now_caret a0_now_from : Int} {a0_now_marksF a1F : (Nat → Int)} {r : (Int × Int × Int × (Nat → Int))} (h : f_L_grow a1N a0_now_size a0_now_caret a0_now_from a0_now_marksF a1F = some r) : q_Mh D cs yL_grow cL_grow 3 [(0, 8, 11, 15)] 7 110 [.ref a0, .ref a1] [(a0, .inr (7, [.ref a0_now, .ref a0_trial, .ref a0_firstKeep, .ref a0_secondKeep, .ref a0_history, .ref a0_clipboard, .ref a0_reader, .ref a0_writer, .ref a0_picture])), (a0_now, .inr (0, [.ref a0_now_marks, .int (iI a0_now_size), .int (iI a0_now_caret), .int (iI a0_now_from)])), (a0_now_marks, .inl (cs.1, 180, .inl (aI a0_now_marksF))), (a1, .inl (cs.2.2.2, a1N, .inr (.inl (aL a1F))))] r.1 [(a0, .inr (7, [.ref a0_now, .ref a0_trial, .ref a0_firstKeep, .ref a0_secondKeep, .ref a0_history, .ref a0_clipboard, .ref a0_reader, .ref a0_writer, .ref a0_picture])), (a0_now, .inr (0, [.ref a0_now_marks, .int (iI a0_now_size), .int (iI r.2.1), .int (iI r.2.2.1)])), (a0_now_marks, .inl (cs.1, 180, .inl (aI a0_now_marksF))), (a1, .inl (cs.2.2.2, a1N, .inr (.inl (aL r.2.2.2))))] := by
  refine q_starth [⟨0, 8, 11, 15⟩] [(0, .ref a0), (1, .ref a1)] RL rfl (by decide +kernel) rfl rfl (Nat.le_of_ble_eq_true rfl) (q_in 809 (by decide +kernel) (by decide +kernel)) (fun κ ok kx fin => ?_)
  unfold f_L_grow at h
  refine j_aload_n (pc := 0) 1 ok dL_grow_0 rfl rfl ?_
  refine j_iconst (pc := 1) ok dL_grow_1 ?_
  refine j_aload_n (pc := 2) 0 ok dL_grow_2 rfl rfl ?_
  obtain ⟨r1, hr1, h⟩ := bd_inv h
  unfold tg1 at h
  refine j_callX (pc := 3) ok kx (k_X7_grow (a0 := a0) (a0_now := a0_now) (a0_trial := a0_trial) (a0_firstKeep := a0_firstKeep) (a0_secondKeep := a0_secondKeep) (a0_history := a0_history) (a0_clipboard := a0_clipboard) (a0_reader := a0_reader) (a0_writer := a0_writer) (a0_picture := a0_picture) (a0_now_marks := a0_now_marks) (a0_now_size := a0_now_size) (a0_now_caret := a0_now_caret) (a0_now_from := a0_now_from) (a0_now_marksF := a0_now_marksF) hr1) gV_L_46 ⟨rfl, hd_X7_grow⟩ [0, 1, 2] (by decide) rfl rfl 0 rfl rfl rfl rfl ⟨Nat.le_of_ble_eq_true rfl, Nat.le_of_ble_eq_true rfl⟩ (Nat.le_of_ble_eq_true rfl) dL_grow_3 rfl [(a0, .inr (7, [.ref a0_now, .ref a0_trial, .ref a0_firstKeep, .ref a0_secondKeep, .ref a0_history, .ref a0_clipboard, .ref a0_reader, .ref a0_writer, .ref a0_picture])), (a0_now, .inr (0, [.ref a0_now_marks, .int (iI a0_now_size), .int (iI r1.2.2.1), .int (iI r1.2.2.2)])), (a0_now_marks, .inl (cs.1, 180, .inl (aI a0_now_marksF))), (a1, .inl (cs.2.2.2, a1N, .inr (.inl (aL a1F))))] rfl (fun ht => ?_) (fun E hE => ?_)
  · rw [if_pos ht] at h
    refine j_i2l (pc := 6) ok dL_grow_6 h (fun h => ?_)
    refine j_lastw (pc := 7) 3 ok rfl dL_grow_7 h [(a0, .inr (7, [.ref a0_now, .ref a0_trial, .ref a0_firstKeep, .ref a0_secondKeep, .ref a0_history, .ref a0_clipboard, .ref a0_reader, .ref a0_writer, .ref a0_picture])), (a0_now, .inr (0, [.ref a0_now_marks, .int (iI a0_now_size), .int (iI r1.2.2.1), .int (iI r1.2.2.2)])), (a0_now_marks, .inl (cs.1, 180, .inl (aI a0_now_marksF))), (a1, .inl (cs.2.2.2, a1N, .inr (.inl (aL (va_up a1F (0 : Int).toNat r1.2.1)))))] rfl (fun h => ?_)
    refine j_goto (pc := 8) 14 ok dL_grow_8 (by decide) ?_
    refine j_iconst (pc := 14) ok dL_grow_14 ?_
    obtain rfl := Option.some.inj h
    exact fin _ 15 dL_grow_15
  · have hn0 : ¬ r1.1 = 0 := fun z => by rw [z] at hE; cases hE
    rw [if_neg hn0] at h
    by_cases ht0 : r1.1 = 2
    · rw [if_pos ht0] at h
      rw [ht0] at hE
      obtain rfl := Option.some.inj hE
      refine ⟨[], ⟨0, 8, 11, 15⟩, [], rfl, fun z hz => absurd hz List.not_mem_nil, by decide, by decide, q_in 525 (by decide +kernel) (by decide +kernel), by decide, fun q9 => ?_⟩
      refine j_eq (pc' := 11) rfl rfl rfl rfl ?_
      refine j_astore_n (pc := 11) (lv' := [(2, .ref q9), (0, .ref a0), (1, .ref a1)]) ok dL_grow_11 rfl (by decide) rfl ?_
      refine j_iconst (pc := 12) ok dL_grow_12 ?_
      obtain rfl := Option.some.inj h
      exact fin _ 13 dL_grow_13
    · rw [if_neg ht0] at h
      cases h
def f_L_copy (a1N : Nat) (a0_clipboard_size : Int) (a0_now_caret : Int) (a0_now_from : Int) (a0_clipboard_marksF : (Nat → Int)) (a0_now_marksF : (Nat → Int)) (a1F : (Nat → Int)) : Option (Int × Int × (Nat → Int) × (Nat → Int)) := bd (f_X7_copy a0_clipboard_size a0_now_caret a0_now_from a0_clipboard_marksF a0_now_marksF) (fun r1 => tg1 r1.1 2 (gR r1.2.1 (gIn 0 a1N (some (0, r1.2.2.1, r1.2.2.2, va_up a1F (0 : Int).toNat r1.2.1)))) (some (1, r1.2.2.1, r1.2.2.2, a1F)))
set_option maxRecDepth 100000 in
set_option maxHeartbeats 4000000 in
theorem k_L_copy {D : va_G} {cs : q_CS} {a0 a0_now a0_trial a0_firstKeep a0_secondKeep a0_history a0_clipboard a0_reader a0_writer a0_picture a0_clipboard_marks a0_now_marks a1 : Nat} {a1N : Nat} {a0_clipboard_size a0_now_size a0_now_caret a0_now_from : Int} {a0_clipboard_marksF a0_now_marksF a1F : (Nat → Int)} {r : (Int × Int × (Nat → Int) × (Nat → Int))} (h : f_L_copy a1N a0_clipboard_size a0_now_caret a0_now_from a0_clipboard_marksF a0_now_marksF a1F = some r) : q_Mh D cs yL_copy cL_copy 3 [(0, 8, 11, 15)] 7 102 [.ref a0, .ref a1] [(a0, .inr (7, [.ref a0_now, .ref a0_trial, .ref a0_firstKeep, .ref a0_secondKeep, .ref a0_history, .ref a0_clipboard, .ref a0_reader, .ref a0_writer, .ref a0_picture])), (a0_clipboard, .inr (3, [.ref a0_clipboard_marks, .int (iI a0_clipboard_size)])), (a0_now, .inr (0, [.ref a0_now_marks, .int (iI a0_now_size), .int (iI a0_now_caret), .int (iI a0_now_from)])), (a0_clipboard_marks, .inl (cs.1, 180, .inl (aI a0_clipboard_marksF))), (a0_now_marks, .inl (cs.1, 180, .inl (aI a0_now_marksF))), (a1, .inl (cs.2.2.2, a1N, .inr (.inl (aL a1F))))] r.1 [(a0, .inr (7, [.ref a0_now, .ref a0_trial, .ref a0_firstKeep, .ref a0_secondKeep, .ref a0_history, .ref a0_clipboard, .ref a0_reader, .ref a0_writer, .ref a0_picture])), (a0_clipboard, .inr (3, [.ref a0_clipboard_marks, .int (iI r.2.1)])), (a0_now, .inr (0, [.ref a0_now_marks, .int (iI a0_now_size), .int (iI a0_now_caret), .int (iI a0_now_from)])), (a0_clipboard_marks, .inl (cs.1, 180, .inl (aI r.2.2.1))), (a0_now_marks, .inl (cs.1, 180, .inl (aI a0_now_marksF))), (a1, .inl (cs.2.2.2, a1N, .inr (.inl (aL r.2.2.2))))] := by
  refine q_starth [⟨0, 8, 11, 15⟩] [(0, .ref a0), (1, .ref a1)] RL rfl (by decide +kernel) rfl rfl (Nat.le_of_ble_eq_true rfl) (q_in 830 (by decide +kernel) (by decide +kernel)) (fun κ ok kx fin => ?_)
  unfold f_L_copy at h
  refine j_aload_n (pc := 0) 1 ok dL_copy_0 rfl rfl ?_
  refine j_iconst (pc := 1) ok dL_copy_1 ?_
  refine j_aload_n (pc := 2) 0 ok dL_copy_2 rfl rfl ?_
  obtain ⟨r1, hr1, h⟩ := bd_inv h
  unfold tg1 at h
  refine j_callX (pc := 3) ok kx (k_X7_copy (a0 := a0) (a0_now := a0_now) (a0_trial := a0_trial) (a0_firstKeep := a0_firstKeep) (a0_secondKeep := a0_secondKeep) (a0_history := a0_history) (a0_clipboard := a0_clipboard) (a0_reader := a0_reader) (a0_writer := a0_writer) (a0_picture := a0_picture) (a0_clipboard_marks := a0_clipboard_marks) (a0_now_marks := a0_now_marks) (a0_clipboard_size := a0_clipboard_size) (a0_now_size := a0_now_size) (a0_now_caret := a0_now_caret) (a0_now_from := a0_now_from) (a0_clipboard_marksF := a0_clipboard_marksF) (a0_now_marksF := a0_now_marksF) hr1) gV_L_49 ⟨rfl, hd_X7_copy⟩ [0, 1, 2, 3, 4] (by decide) rfl rfl 0 rfl rfl rfl rfl ⟨Nat.le_of_ble_eq_true rfl, Nat.le_of_ble_eq_true rfl⟩ (Nat.le_of_ble_eq_true rfl) dL_copy_3 rfl [(a0, .inr (7, [.ref a0_now, .ref a0_trial, .ref a0_firstKeep, .ref a0_secondKeep, .ref a0_history, .ref a0_clipboard, .ref a0_reader, .ref a0_writer, .ref a0_picture])), (a0_clipboard, .inr (3, [.ref a0_clipboard_marks, .int (iI r1.2.2.1)])), (a0_now, .inr (0, [.ref a0_now_marks, .int (iI a0_now_size), .int (iI a0_now_caret), .int (iI a0_now_from)])), (a0_clipboard_marks, .inl (cs.1, 180, .inl (aI r1.2.2.2))), (a0_now_marks, .inl (cs.1, 180, .inl (aI a0_now_marksF))), (a1, .inl (cs.2.2.2, a1N, .inr (.inl (aL a1F))))] rfl (fun ht => ?_) (fun E hE => ?_)
  · rw [if_pos ht] at h
    refine j_i2l (pc := 6) ok dL_copy_6 h (fun h => ?_)
    refine j_lastw (pc := 7) 5 ok rfl dL_copy_7 h [(a0, .inr (7, [.ref a0_now, .ref a0_trial, .ref a0_firstKeep, .ref a0_secondKeep, .ref a0_history, .ref a0_clipboard, .ref a0_reader, .ref a0_writer, .ref a0_picture])), (a0_clipboard, .inr (3, [.ref a0_clipboard_marks, .int (iI r1.2.2.1)])), (a0_now, .inr (0, [.ref a0_now_marks, .int (iI a0_now_size), .int (iI a0_now_caret), .int (iI a0_now_from)])), (a0_clipboard_marks, .inl (cs.1, 180, .inl (aI r1.2.2.2))), (a0_now_marks, .inl (cs.1, 180, .inl (aI a0_now_marksF))), (a1, .inl (cs.2.2.2, a1N, .inr (.inl (aL (va_up a1F (0 : Int).toNat r1.2.1)))))] rfl (fun h => ?_)
    refine j_goto (pc := 8) 14 ok dL_copy_8 (by decide) ?_
    refine j_iconst (pc := 14) ok dL_copy_14 ?_
    obtain rfl := Option.some.inj h
    exact fin _ 15 dL_copy_15
  · have hn0 : ¬ r1.1 = 0 := fun z => by rw [z] at hE; cases hE
    rw [if_neg hn0] at h
    by_cases ht0 : r1.1 = 2
    · rw [if_pos ht0] at h
      rw [ht0] at hE
      obtain rfl := Option.some.inj hE
      refine ⟨[], ⟨0, 8, 11, 15⟩, [], rfl, fun z hz => absurd hz List.not_mem_nil, by decide, by decide, q_in 525 (by decide +kernel) (by decide +kernel), by decide, fun q9 => ?_⟩
      refine j_eq (pc' := 11) rfl rfl rfl rfl ?_
      refine j_astore_n (pc := 11) (lv' := [(2, .ref q9), (0, .ref a0), (1, .ref a1)]) ok dL_copy_11 rfl (by decide) rfl ?_
      refine j_iconst (pc := 12) ok dL_copy_12 ?_
      obtain rfl := Option.some.inj h
      exact fin _ 13 dL_copy_13
    · rw [if_neg ht0] at h
      cases h
def f_L_type (a2N : Nat) (a0_history_oldest : Int) (a0_history_count : Int) (a0_now_size : Int) (a0_now_caret : Int) (a0_now_from : Int) (a0_now_marksF : (Nat → Int)) (a0_history_ringS : (Nat → Int)) (a0_history_ringC : (Nat → Int)) (a0_history_ringM : (Nat → Int)) (a0_history_ringF : (Nat → Nat → Int)) (a2F : (Nat → Int)) (x1 : Int) : Option (Int × Int × Int × Int × Int × Int × (Nat → Int) × (Nat → Int) × (Nat → Int) × (Nat → Int) × (Nat → Nat → Int) × (Nat → Int)) := bd (f_X7_type a0_history_oldest a0_history_count a0_now_size a0_now_caret a0_now_from a0_now_marksF a0_history_ringS a0_history_ringC a0_history_ringM a0_history_ringF x1) (fun r1 => tg2 r1.1 1 2 (gR r1.2.1 (gIn 0 a2N (some (0, r1.2.2.1, r1.2.2.2.1, r1.2.2.2.2.1, r1.2.2.2.2.2.1, r1.2.2.2.2.2.2.1, r1.2.2.2.2.2.2.2.1, r1.2.2.2.2.2.2.2.2.1, r1.2.2.2.2.2.2.2.2.2.1, r1.2.2.2.2.2.2.2.2.2.2.1, r1.2.2.2.2.2.2.2.2.2.2.2, va_up a2F (0 : Int).toNat r1.2.1)))) (some (1, r1.2.2.1, r1.2.2.2.1, r1.2.2.2.2.1, r1.2.2.2.2.2.1, r1.2.2.2.2.2.2.1, r1.2.2.2.2.2.2.2.1, r1.2.2.2.2.2.2.2.2.1, r1.2.2.2.2.2.2.2.2.2.1, r1.2.2.2.2.2.2.2.2.2.2.1, r1.2.2.2.2.2.2.2.2.2.2.2, a2F)) (some (2, r1.2.2.1, r1.2.2.2.1, r1.2.2.2.2.1, r1.2.2.2.2.2.1, r1.2.2.2.2.2.2.1, r1.2.2.2.2.2.2.2.1, r1.2.2.2.2.2.2.2.2.1, r1.2.2.2.2.2.2.2.2.2.1, r1.2.2.2.2.2.2.2.2.2.2.1, r1.2.2.2.2.2.2.2.2.2.2.2, a2F)))
set_option maxRecDepth 100000 in
set_option maxHeartbeats 4000000 in
theorem k_L_type {D : va_G} {cs : q_CS} {a0 a0_now a0_trial a0_firstKeep a0_secondKeep a0_history a0_clipboard a0_reader a0_writer a0_picture a0_history_ring a0_now_marks a2 : Nat} {a2N : Nat} {a0_history_oldest a0_history_count a0_now_size a0_now_caret a0_now_from : Int} {a0_now_marksF a0_history_ringS a0_history_ringC a0_history_ringM a2F : (Nat → Int)} {a0_history_ringF : (Nat → Nat → Int)} {a0_history_ringQ a0_history_ringM0 : Nat → Nat} {x1 : Int} {r : (Int × Int × Int × Int × Int × Int × (Nat → Int) × (Nat → Int) × (Nat → Int) × (Nat → Int) × (Nat → Nat → Int) × (Nat → Int))} (h : f_L_type a2N a0_history_oldest a0_history_count a0_now_size a0_now_caret a0_now_from a0_now_marksF a0_history_ringS a0_history_ringC a0_history_ringM a0_history_ringF a2F x1 = some r) : q_Mh D cs yL_type cL_type 4 [(0, 9, 12, 13), (0, 9, 15, 15)] 7 109 [.ref a0, .int (iI x1), .ref a2] ([(a0, .inr (7, [.ref a0_now, .ref a0_trial, .ref a0_firstKeep, .ref a0_secondKeep, .ref a0_history, .ref a0_clipboard, .ref a0_reader, .ref a0_writer, .ref a0_picture])), (a0_history, .inr (1, [.ref a0_history_ring, .int (iI a0_history_oldest), .int (iI a0_history_count)])), (a0_now, .inr (0, [.ref a0_now_marks, .int (iI a0_now_size), .int (iI a0_now_caret), .int (iI a0_now_from)])), (a0_history_ring, .inl (cs.2.2.1, 14, .inr (.inr (.inr (.inr (fun j => some (a0_history_ringQ j))))))), (a0_now_marks, .inl (cs.1, 180, .inl (aI a0_now_marksF))), (a2, .inl (cs.2.2.2, a2N, .inr (.inl (aL a2F))))] ++ q_ring cs a0_history_ringQ a0_history_ringM0 a0_history_ringS a0_history_ringC a0_history_ringM a0_history_ringF) r.1 ([(a0, .inr (7, [.ref a0_now, .ref a0_trial, .ref a0_firstKeep, .ref a0_secondKeep, .ref a0_history, .ref a0_clipboard, .ref a0_reader, .ref a0_writer, .ref a0_picture])), (a0_history, .inr (1, [.ref a0_history_ring, .int (iI r.2.1), .int (iI r.2.2.1)])), (a0_now, .inr (0, [.ref a0_now_marks, .int (iI r.2.2.2.1), .int (iI r.2.2.2.2.1), .int (iI r.2.2.2.2.2.1)])), (a0_history_ring, .inl (cs.2.2.1, 14, .inr (.inr (.inr (.inr (fun j => some (a0_history_ringQ j))))))), (a0_now_marks, .inl (cs.1, 180, .inl (aI r.2.2.2.2.2.2.1))), (a2, .inl (cs.2.2.2, a2N, .inr (.inl (aL r.2.2.2.2.2.2.2.2.2.2.2))))] ++ q_ring cs a0_history_ringQ a0_history_ringM0 r.2.2.2.2.2.2.2.1 r.2.2.2.2.2.2.2.2.1 r.2.2.2.2.2.2.2.2.2.1 r.2.2.2.2.2.2.2.2.2.2.1) := by
  refine q_starth [⟨0, 9, 12, 13⟩, ⟨0, 9, 15, 15⟩] [(0, .ref a0), (1, .int (iI x1)), (2, .ref a2)] RL rfl (by decide +kernel) rfl rfl (Nat.le_of_ble_eq_true rfl) (q_in 840 (by decide +kernel) (by decide +kernel)) (fun κ ok kx fin => ?_)
  unfold f_L_type at h
  refine j_aload_n (pc := 0) 2 ok dL_type_0 rfl rfl ?_
  refine j_iconst (pc := 1) ok dL_type_1 ?_
  refine j_aload_n (pc := 2) 0 ok dL_type_2 rfl rfl ?_
  refine j_iload_n (pc := 3) 1 ok dL_type_3 rfl rfl ?_
  obtain ⟨r1, hr1, h⟩ := bd_inv h
  unfold tg2 at h
  refine j_callXG (pc := 4) ok kx (k_X7_type (a0 := a0) (a0_now := a0_now) (a0_trial := a0_trial) (a0_firstKeep := a0_firstKeep) (a0_secondKeep := a0_secondKeep) (a0_history := a0_history) (a0_clipboard := a0_clipboard) (a0_reader := a0_reader) (a0_writer := a0_writer) (a0_picture := a0_picture) (a0_history_ring := a0_history_ring) (a0_now_marks := a0_now_marks) (a0_history_ringQ := a0_history_ringQ) (a0_history_ringM0 := a0_history_ringM0) (a0_history_oldest := a0_history_oldest) (a0_history_count := a0_history_count) (a0_now_size := a0_now_size) (a0_now_caret := a0_now_caret) (a0_now_from := a0_now_from) (a0_now_marksF := a0_now_marksF) (a0_history_ringS := a0_history_ringS) (a0_history_ringC := a0_history_ringC) (a0_history_ringM := a0_history_ringM) (a0_history_ringF := a0_history_ringF) (x1 := x1) hr1) gV_L_52 ⟨rfl, hd_X7_type⟩ [0, 1, 2, 3, 4] (by decide) rfl rfl (q_ring_fst ..) 0 rfl rfl rfl rfl ⟨Nat.le_of_ble_eq_true rfl, Nat.le_of_ble_eq_true rfl⟩ (Nat.le_of_ble_eq_true rfl) dL_type_4 rfl [(a0, .inr (7, [.ref a0_now, .ref a0_trial, .ref a0_firstKeep, .ref a0_secondKeep, .ref a0_history, .ref a0_clipboard, .ref a0_reader, .ref a0_writer, .ref a0_picture])), (a0_history, .inr (1, [.ref a0_history_ring, .int (iI r1.2.2.1), .int (iI r1.2.2.2.1)])), (a0_now, .inr (0, [.ref a0_now_marks, .int (iI r1.2.2.2.2.1), .int (iI r1.2.2.2.2.2.1), .int (iI r1.2.2.2.2.2.2.1)])), (a0_history_ring, .inl (cs.2.2.1, 14, .inr (.inr (.inr (.inr (fun j => some (a0_history_ringQ j))))))), (a0_now_marks, .inl (cs.1, 180, .inl (aI r1.2.2.2.2.2.2.2.1))), (a2, .inl (cs.2.2.2, a2N, .inr (.inl (aL a2F))))] rfl (fun ht => ?_) (fun E hE => ?_)
  · rw [if_pos ht] at h
    refine j_i2l (pc := 7) ok dL_type_7 h (fun h => ?_)
    refine j_lastw (pc := 8) 5 ok rfl dL_type_8 h ([(a0, .inr (7, [.ref a0_now, .ref a0_trial, .ref a0_firstKeep, .ref a0_secondKeep, .ref a0_history, .ref a0_clipboard, .ref a0_reader, .ref a0_writer, .ref a0_picture])), (a0_history, .inr (1, [.ref a0_history_ring, .int (iI r1.2.2.1), .int (iI r1.2.2.2.1)])), (a0_now, .inr (0, [.ref a0_now_marks, .int (iI r1.2.2.2.2.1), .int (iI r1.2.2.2.2.2.1), .int (iI r1.2.2.2.2.2.2.1)])), (a0_history_ring, .inl (cs.2.2.1, 14, .inr (.inr (.inr (.inr (fun j => some (a0_history_ringQ j))))))), (a0_now_marks, .inl (cs.1, 180, .inl (aI r1.2.2.2.2.2.2.2.1))), (a2, .inl (cs.2.2.2, a2N, .inr (.inl (aL (va_up a2F (0 : Int).toNat r1.2.1)))))] ++ q_ring cs a0_history_ringQ a0_history_ringM0 r1.2.2.2.2.2.2.2.2.1 r1.2.2.2.2.2.2.2.2.2.1 r1.2.2.2.2.2.2.2.2.2.2.1 r1.2.2.2.2.2.2.2.2.2.2.2) rfl (fun h => ?_)
    refine j_goto (pc := 9) 18 ok dL_type_9 (by decide) ?_
    refine j_iconst (pc := 18) ok dL_type_18 ?_
    obtain rfl := Option.some.inj h
    exact fin _ 19 dL_type_19
  · have hn0 : ¬ r1.1 = 0 := fun z => by rw [z] at hE; cases hE
    rw [if_neg hn0] at h
    by_cases ht0 : r1.1 = 1
    · rw [if_pos ht0] at h
      rw [ht0] at hE
      obtain rfl := Option.some.inj hE
      refine ⟨[], ⟨0, 9, 12, 13⟩, [⟨0, 9, 15, 15⟩], rfl, fun z hz => absurd hz List.not_mem_nil, by decide, by decide, q_in 524 (by decide +kernel) (by decide +kernel), by decide, fun q9 => ?_⟩
      refine j_eq (pc' := 12) rfl rfl rfl rfl ?_
      refine j_astore_n (pc := 12) (lv' := [(3, .ref q9), (0, .ref a0), (1, .int (iI x1)), (2, .ref a2)]) ok dL_type_12 rfl (by decide) rfl ?_
      refine j_iconst (pc := 13) ok dL_type_13 ?_
      obtain rfl := Option.some.inj h
      exact fin _ 14 dL_type_14
    · rw [if_neg ht0] at h
      by_cases ht1 : r1.1 = 2
      · rw [if_pos ht1] at h
        rw [ht1] at hE
        obtain rfl := Option.some.inj hE
        refine ⟨[⟨0, 9, 12, 13⟩], ⟨0, 9, 15, 15⟩, [], rfl, fun z hz => Or.inr (by obtain rfl := List.mem_singleton.mp hz; exact ⟨by decide, "java/lang/IllegalArgumentException", q_in 524 (by decide +kernel) (by decide +kernel), by decide⟩), by decide, by decide, q_in 525 (by decide +kernel) (by decide +kernel), by decide, fun q9 => ?_⟩
        refine j_eq (pc' := 15) rfl rfl rfl rfl ?_
        refine j_astore_n (pc := 15) (lv' := [(3, .ref q9), (0, .ref a0), (1, .int (iI x1)), (2, .ref a2)]) ok dL_type_15 rfl (by decide) rfl ?_
        refine j_iconst (pc := 16) ok dL_type_16 ?_
        obtain rfl := Option.some.inj h
        exact fin _ 17 dL_type_17
      · rw [if_neg ht1] at h
        cases h
def f_L_wrap (a2N : Nat) (a0_history_oldest : Int) (a0_history_count : Int) (a0_now_size : Int) (a0_now_caret : Int) (a0_now_from : Int) (a0_now_marksF : (Nat → Int)) (a0_history_ringS : (Nat → Int)) (a0_history_ringC : (Nat → Int)) (a0_history_ringM : (Nat → Int)) (a0_history_ringF : (Nat → Nat → Int)) (a2F : (Nat → Int)) (x1 : Int) : Option (Int × Int × Int × Int × Int × Int × (Nat → Int) × (Nat → Int) × (Nat → Int) × (Nat → Int) × (Nat → Nat → Int) × (Nat → Int)) := bd (f_X7_wrap a0_history_oldest a0_history_count a0_now_size a0_now_caret a0_now_from a0_now_marksF a0_history_ringS a0_history_ringC a0_history_ringM a0_history_ringF x1) (fun r1 => tg2 r1.1 1 2 (gR r1.2.1 (gIn 0 a2N (some (0, r1.2.2.1, r1.2.2.2.1, r1.2.2.2.2.1, r1.2.2.2.2.2.1, r1.2.2.2.2.2.2.1, r1.2.2.2.2.2.2.2.1, r1.2.2.2.2.2.2.2.2.1, r1.2.2.2.2.2.2.2.2.2.1, r1.2.2.2.2.2.2.2.2.2.2.1, r1.2.2.2.2.2.2.2.2.2.2.2, va_up a2F (0 : Int).toNat r1.2.1)))) (some (1, r1.2.2.1, r1.2.2.2.1, r1.2.2.2.2.1, r1.2.2.2.2.2.1, r1.2.2.2.2.2.2.1, r1.2.2.2.2.2.2.2.1, r1.2.2.2.2.2.2.2.2.1, r1.2.2.2.2.2.2.2.2.2.1, r1.2.2.2.2.2.2.2.2.2.2.1, r1.2.2.2.2.2.2.2.2.2.2.2, a2F)) (some (2, r1.2.2.1, r1.2.2.2.1, r1.2.2.2.2.1, r1.2.2.2.2.2.1, r1.2.2.2.2.2.2.1, r1.2.2.2.2.2.2.2.1, r1.2.2.2.2.2.2.2.2.1, r1.2.2.2.2.2.2.2.2.2.1, r1.2.2.2.2.2.2.2.2.2.2.1, r1.2.2.2.2.2.2.2.2.2.2.2, a2F)))
set_option maxRecDepth 100000 in
set_option maxHeartbeats 4000000 in
theorem k_L_wrap {D : va_G} {cs : q_CS} {a0 a0_now a0_trial a0_firstKeep a0_secondKeep a0_history a0_clipboard a0_reader a0_writer a0_picture a0_history_ring a0_now_marks a2 : Nat} {a2N : Nat} {a0_history_oldest a0_history_count a0_now_size a0_now_caret a0_now_from : Int} {a0_now_marksF a0_history_ringS a0_history_ringC a0_history_ringM a2F : (Nat → Int)} {a0_history_ringF : (Nat → Nat → Int)} {a0_history_ringQ a0_history_ringM0 : Nat → Nat} {x1 : Int} {r : (Int × Int × Int × Int × Int × Int × (Nat → Int) × (Nat → Int) × (Nat → Int) × (Nat → Int) × (Nat → Nat → Int) × (Nat → Int))} (h : f_L_wrap a2N a0_history_oldest a0_history_count a0_now_size a0_now_caret a0_now_from a0_now_marksF a0_history_ringS a0_history_ringC a0_history_ringM a0_history_ringF a2F x1 = some r) : q_Mh D cs yL_wrap cL_wrap 4 [(0, 9, 12, 13), (0, 9, 15, 15)] 7 109 [.ref a0, .int (iI x1), .ref a2] ([(a0, .inr (7, [.ref a0_now, .ref a0_trial, .ref a0_firstKeep, .ref a0_secondKeep, .ref a0_history, .ref a0_clipboard, .ref a0_reader, .ref a0_writer, .ref a0_picture])), (a0_history, .inr (1, [.ref a0_history_ring, .int (iI a0_history_oldest), .int (iI a0_history_count)])), (a0_now, .inr (0, [.ref a0_now_marks, .int (iI a0_now_size), .int (iI a0_now_caret), .int (iI a0_now_from)])), (a0_history_ring, .inl (cs.2.2.1, 14, .inr (.inr (.inr (.inr (fun j => some (a0_history_ringQ j))))))), (a0_now_marks, .inl (cs.1, 180, .inl (aI a0_now_marksF))), (a2, .inl (cs.2.2.2, a2N, .inr (.inl (aL a2F))))] ++ q_ring cs a0_history_ringQ a0_history_ringM0 a0_history_ringS a0_history_ringC a0_history_ringM a0_history_ringF) r.1 ([(a0, .inr (7, [.ref a0_now, .ref a0_trial, .ref a0_firstKeep, .ref a0_secondKeep, .ref a0_history, .ref a0_clipboard, .ref a0_reader, .ref a0_writer, .ref a0_picture])), (a0_history, .inr (1, [.ref a0_history_ring, .int (iI r.2.1), .int (iI r.2.2.1)])), (a0_now, .inr (0, [.ref a0_now_marks, .int (iI r.2.2.2.1), .int (iI r.2.2.2.2.1), .int (iI r.2.2.2.2.2.1)])), (a0_history_ring, .inl (cs.2.2.1, 14, .inr (.inr (.inr (.inr (fun j => some (a0_history_ringQ j))))))), (a0_now_marks, .inl (cs.1, 180, .inl (aI r.2.2.2.2.2.2.1))), (a2, .inl (cs.2.2.2, a2N, .inr (.inl (aL r.2.2.2.2.2.2.2.2.2.2.2))))] ++ q_ring cs a0_history_ringQ a0_history_ringM0 r.2.2.2.2.2.2.2.1 r.2.2.2.2.2.2.2.2.1 r.2.2.2.2.2.2.2.2.2.1 r.2.2.2.2.2.2.2.2.2.2.1) := by
  refine q_starth [⟨0, 9, 12, 13⟩, ⟨0, 9, 15, 15⟩] [(0, .ref a0), (1, .int (iI x1)), (2, .ref a2)] RL rfl (by decide +kernel) rfl rfl (Nat.le_of_ble_eq_true rfl) (q_in 892 (by decide +kernel) (by decide +kernel)) (fun κ ok kx fin => ?_)
  unfold f_L_wrap at h
  refine j_aload_n (pc := 0) 2 ok dL_wrap_0 rfl rfl ?_
  refine j_iconst (pc := 1) ok dL_wrap_1 ?_
  refine j_aload_n (pc := 2) 0 ok dL_wrap_2 rfl rfl ?_
  refine j_iload_n (pc := 3) 1 ok dL_wrap_3 rfl rfl ?_
  obtain ⟨r1, hr1, h⟩ := bd_inv h
  unfold tg2 at h
  refine j_callXG (pc := 4) ok kx (k_X7_wrap (a0 := a0) (a0_now := a0_now) (a0_trial := a0_trial) (a0_firstKeep := a0_firstKeep) (a0_secondKeep := a0_secondKeep) (a0_history := a0_history) (a0_clipboard := a0_clipboard) (a0_reader := a0_reader) (a0_writer := a0_writer) (a0_picture := a0_picture) (a0_history_ring := a0_history_ring) (a0_now_marks := a0_now_marks) (a0_history_ringQ := a0_history_ringQ) (a0_history_ringM0 := a0_history_ringM0) (a0_history_oldest := a0_history_oldest) (a0_history_count := a0_history_count) (a0_now_size := a0_now_size) (a0_now_caret := a0_now_caret) (a0_now_from := a0_now_from) (a0_now_marksF := a0_now_marksF) (a0_history_ringS := a0_history_ringS) (a0_history_ringC := a0_history_ringC) (a0_history_ringM := a0_history_ringM) (a0_history_ringF := a0_history_ringF) (x1 := x1) hr1) gV_L_55 ⟨rfl, hd_X7_wrap⟩ [0, 1, 2, 3, 4] (by decide) rfl rfl (q_ring_fst ..) 0 rfl rfl rfl rfl ⟨Nat.le_of_ble_eq_true rfl, Nat.le_of_ble_eq_true rfl⟩ (Nat.le_of_ble_eq_true rfl) dL_wrap_4 rfl [(a0, .inr (7, [.ref a0_now, .ref a0_trial, .ref a0_firstKeep, .ref a0_secondKeep, .ref a0_history, .ref a0_clipboard, .ref a0_reader, .ref a0_writer, .ref a0_picture])), (a0_history, .inr (1, [.ref a0_history_ring, .int (iI r1.2.2.1), .int (iI r1.2.2.2.1)])), (a0_now, .inr (0, [.ref a0_now_marks, .int (iI r1.2.2.2.2.1), .int (iI r1.2.2.2.2.2.1), .int (iI r1.2.2.2.2.2.2.1)])), (a0_history_ring, .inl (cs.2.2.1, 14, .inr (.inr (.inr (.inr (fun j => some (a0_history_ringQ j))))))), (a0_now_marks, .inl (cs.1, 180, .inl (aI r1.2.2.2.2.2.2.2.1))), (a2, .inl (cs.2.2.2, a2N, .inr (.inl (aL a2F))))] rfl (fun ht => ?_) (fun E hE => ?_)
  · rw [if_pos ht] at h
    refine j_i2l (pc := 7) ok dL_wrap_7 h (fun h => ?_)
    refine j_lastw (pc := 8) 5 ok rfl dL_wrap_8 h ([(a0, .inr (7, [.ref a0_now, .ref a0_trial, .ref a0_firstKeep, .ref a0_secondKeep, .ref a0_history, .ref a0_clipboard, .ref a0_reader, .ref a0_writer, .ref a0_picture])), (a0_history, .inr (1, [.ref a0_history_ring, .int (iI r1.2.2.1), .int (iI r1.2.2.2.1)])), (a0_now, .inr (0, [.ref a0_now_marks, .int (iI r1.2.2.2.2.1), .int (iI r1.2.2.2.2.2.1), .int (iI r1.2.2.2.2.2.2.1)])), (a0_history_ring, .inl (cs.2.2.1, 14, .inr (.inr (.inr (.inr (fun j => some (a0_history_ringQ j))))))), (a0_now_marks, .inl (cs.1, 180, .inl (aI r1.2.2.2.2.2.2.2.1))), (a2, .inl (cs.2.2.2, a2N, .inr (.inl (aL (va_up a2F (0 : Int).toNat r1.2.1)))))] ++ q_ring cs a0_history_ringQ a0_history_ringM0 r1.2.2.2.2.2.2.2.2.1 r1.2.2.2.2.2.2.2.2.2.1 r1.2.2.2.2.2.2.2.2.2.2.1 r1.2.2.2.2.2.2.2.2.2.2.2) rfl (fun h => ?_)
    refine j_goto (pc := 9) 18 ok dL_wrap_9 (by decide) ?_
    refine j_iconst (pc := 18) ok dL_wrap_18 ?_
    obtain rfl := Option.some.inj h
    exact fin _ 19 dL_wrap_19
  · have hn0 : ¬ r1.1 = 0 := fun z => by rw [z] at hE; cases hE
    rw [if_neg hn0] at h
    by_cases ht0 : r1.1 = 1
    · rw [if_pos ht0] at h
      rw [ht0] at hE
      obtain rfl := Option.some.inj hE
      refine ⟨[], ⟨0, 9, 12, 13⟩, [⟨0, 9, 15, 15⟩], rfl, fun z hz => absurd hz List.not_mem_nil, by decide, by decide, q_in 524 (by decide +kernel) (by decide +kernel), by decide, fun q9 => ?_⟩
      refine j_eq (pc' := 12) rfl rfl rfl rfl ?_
      refine j_astore_n (pc := 12) (lv' := [(3, .ref q9), (0, .ref a0), (1, .int (iI x1)), (2, .ref a2)]) ok dL_wrap_12 rfl (by decide) rfl ?_
      refine j_iconst (pc := 13) ok dL_wrap_13 ?_
      obtain rfl := Option.some.inj h
      exact fin _ 14 dL_wrap_14
    · rw [if_neg ht0] at h
      by_cases ht1 : r1.1 = 2
      · rw [if_pos ht1] at h
        rw [ht1] at hE
        obtain rfl := Option.some.inj hE
        refine ⟨[⟨0, 9, 12, 13⟩], ⟨0, 9, 15, 15⟩, [], rfl, fun z hz => Or.inr (by obtain rfl := List.mem_singleton.mp hz; exact ⟨by decide, "java/lang/IllegalArgumentException", q_in 524 (by decide +kernel) (by decide +kernel), by decide⟩), by decide, by decide, q_in 525 (by decide +kernel) (by decide +kernel), by decide, fun q9 => ?_⟩
        refine j_eq (pc' := 15) rfl rfl rfl rfl ?_
        refine j_astore_n (pc := 15) (lv' := [(3, .ref q9), (0, .ref a0), (1, .int (iI x1)), (2, .ref a2)]) ok dL_wrap_15 rfl (by decide) rfl ?_
        refine j_iconst (pc := 16) ok dL_wrap_16 ?_
        obtain rfl := Option.some.inj h
        exact fin _ 17 dL_wrap_17
      · rw [if_neg ht1] at h
        cases h
def f_L_backspace (a1N : Nat) (a0_history_oldest : Int) (a0_history_count : Int) (a0_now_size : Int) (a0_now_caret : Int) (a0_now_from : Int) (a0_now_marksF : (Nat → Int)) (a0_history_ringS : (Nat → Int)) (a0_history_ringC : (Nat → Int)) (a0_history_ringM : (Nat → Int)) (a0_history_ringF : (Nat → Nat → Int)) (a1F : (Nat → Int)) : Option (Int × Int × Int × Int × Int × Int × (Nat → Int) × (Nat → Int) × (Nat → Int) × (Nat → Int) × (Nat → Nat → Int) × (Nat → Int)) := bd (f_X7_backspace a0_history_oldest a0_history_count a0_now_size a0_now_caret a0_now_from a0_now_marksF a0_history_ringS a0_history_ringC a0_history_ringM a0_history_ringF) (fun r1 => tg1 r1.1 2 (gR r1.2.1 (gIn 0 a1N (some (0, r1.2.2.1, r1.2.2.2.1, r1.2.2.2.2.1, r1.2.2.2.2.2.1, r1.2.2.2.2.2.2.1, r1.2.2.2.2.2.2.2.1, r1.2.2.2.2.2.2.2.2.1, r1.2.2.2.2.2.2.2.2.2.1, r1.2.2.2.2.2.2.2.2.2.2.1, r1.2.2.2.2.2.2.2.2.2.2.2, va_up a1F (0 : Int).toNat r1.2.1)))) (some (1, r1.2.2.1, r1.2.2.2.1, r1.2.2.2.2.1, r1.2.2.2.2.2.1, r1.2.2.2.2.2.2.1, r1.2.2.2.2.2.2.2.1, r1.2.2.2.2.2.2.2.2.1, r1.2.2.2.2.2.2.2.2.2.1, r1.2.2.2.2.2.2.2.2.2.2.1, r1.2.2.2.2.2.2.2.2.2.2.2, a1F)))
set_option maxRecDepth 100000 in
set_option maxHeartbeats 4000000 in
theorem k_L_backspace {D : va_G} {cs : q_CS} {a0 a0_now a0_trial a0_firstKeep a0_secondKeep a0_history a0_clipboard a0_reader a0_writer a0_picture a0_history_ring a0_now_marks a1 : Nat} {a1N : Nat} {a0_history_oldest a0_history_count a0_now_size a0_now_caret a0_now_from : Int} {a0_now_marksF a0_history_ringS a0_history_ringC a0_history_ringM a1F : (Nat → Int)} {a0_history_ringF : (Nat → Nat → Int)} {a0_history_ringQ a0_history_ringM0 : Nat → Nat} {r : (Int × Int × Int × Int × Int × Int × (Nat → Int) × (Nat → Int) × (Nat → Int) × (Nat → Int) × (Nat → Nat → Int) × (Nat → Int))} (h : f_L_backspace a1N a0_history_oldest a0_history_count a0_now_size a0_now_caret a0_now_from a0_now_marksF a0_history_ringS a0_history_ringC a0_history_ringM a0_history_ringF a1F = some r) : q_Mh D cs yL_backspace cL_backspace 3 [(0, 8, 11, 15)] 7 110 [.ref a0, .ref a1] ([(a0, .inr (7, [.ref a0_now, .ref a0_trial, .ref a0_firstKeep, .ref a0_secondKeep, .ref a0_history, .ref a0_clipboard, .ref a0_reader, .ref a0_writer, .ref a0_picture])), (a0_history, .inr (1, [.ref a0_history_ring, .int (iI a0_history_oldest), .int (iI a0_history_count)])), (a0_now, .inr (0, [.ref a0_now_marks, .int (iI a0_now_size), .int (iI a0_now_caret), .int (iI a0_now_from)])), (a0_history_ring, .inl (cs.2.2.1, 14, .inr (.inr (.inr (.inr (fun j => some (a0_history_ringQ j))))))), (a0_now_marks, .inl (cs.1, 180, .inl (aI a0_now_marksF))), (a1, .inl (cs.2.2.2, a1N, .inr (.inl (aL a1F))))] ++ q_ring cs a0_history_ringQ a0_history_ringM0 a0_history_ringS a0_history_ringC a0_history_ringM a0_history_ringF) r.1 ([(a0, .inr (7, [.ref a0_now, .ref a0_trial, .ref a0_firstKeep, .ref a0_secondKeep, .ref a0_history, .ref a0_clipboard, .ref a0_reader, .ref a0_writer, .ref a0_picture])), (a0_history, .inr (1, [.ref a0_history_ring, .int (iI r.2.1), .int (iI r.2.2.1)])), (a0_now, .inr (0, [.ref a0_now_marks, .int (iI r.2.2.2.1), .int (iI r.2.2.2.2.1), .int (iI r.2.2.2.2.2.1)])), (a0_history_ring, .inl (cs.2.2.1, 14, .inr (.inr (.inr (.inr (fun j => some (a0_history_ringQ j))))))), (a0_now_marks, .inl (cs.1, 180, .inl (aI r.2.2.2.2.2.2.1))), (a1, .inl (cs.2.2.2, a1N, .inr (.inl (aL r.2.2.2.2.2.2.2.2.2.2.2))))] ++ q_ring cs a0_history_ringQ a0_history_ringM0 r.2.2.2.2.2.2.2.1 r.2.2.2.2.2.2.2.2.1 r.2.2.2.2.2.2.2.2.2.1 r.2.2.2.2.2.2.2.2.2.2.1) := by
  refine q_starth [⟨0, 8, 11, 15⟩] [(0, .ref a0), (1, .ref a1)] RL rfl (by decide +kernel) rfl rfl (Nat.le_of_ble_eq_true rfl) (q_in 910 (by decide +kernel) (by decide +kernel)) (fun κ ok kx fin => ?_)
  unfold f_L_backspace at h
  refine j_aload_n (pc := 0) 1 ok dL_backspace_0 rfl rfl ?_
  refine j_iconst (pc := 1) ok dL_backspace_1 ?_
  refine j_aload_n (pc := 2) 0 ok dL_backspace_2 rfl rfl ?_
  obtain ⟨r1, hr1, h⟩ := bd_inv h
  unfold tg1 at h
  refine j_callXG (pc := 3) ok kx (k_X7_backspace (a0 := a0) (a0_now := a0_now) (a0_trial := a0_trial) (a0_firstKeep := a0_firstKeep) (a0_secondKeep := a0_secondKeep) (a0_history := a0_history) (a0_clipboard := a0_clipboard) (a0_reader := a0_reader) (a0_writer := a0_writer) (a0_picture := a0_picture) (a0_history_ring := a0_history_ring) (a0_now_marks := a0_now_marks) (a0_history_ringQ := a0_history_ringQ) (a0_history_ringM0 := a0_history_ringM0) (a0_history_oldest := a0_history_oldest) (a0_history_count := a0_history_count) (a0_now_size := a0_now_size) (a0_now_caret := a0_now_caret) (a0_now_from := a0_now_from) (a0_now_marksF := a0_now_marksF) (a0_history_ringS := a0_history_ringS) (a0_history_ringC := a0_history_ringC) (a0_history_ringM := a0_history_ringM) (a0_history_ringF := a0_history_ringF) hr1) gV_L_58 ⟨rfl, hd_X7_backspace⟩ [0, 1, 2, 3, 4] (by decide) rfl rfl (q_ring_fst ..) 0 rfl rfl rfl rfl ⟨Nat.le_of_ble_eq_true rfl, Nat.le_of_ble_eq_true rfl⟩ (Nat.le_of_ble_eq_true rfl) dL_backspace_3 rfl [(a0, .inr (7, [.ref a0_now, .ref a0_trial, .ref a0_firstKeep, .ref a0_secondKeep, .ref a0_history, .ref a0_clipboard, .ref a0_reader, .ref a0_writer, .ref a0_picture])), (a0_history, .inr (1, [.ref a0_history_ring, .int (iI r1.2.2.1), .int (iI r1.2.2.2.1)])), (a0_now, .inr (0, [.ref a0_now_marks, .int (iI r1.2.2.2.2.1), .int (iI r1.2.2.2.2.2.1), .int (iI r1.2.2.2.2.2.2.1)])), (a0_history_ring, .inl (cs.2.2.1, 14, .inr (.inr (.inr (.inr (fun j => some (a0_history_ringQ j))))))), (a0_now_marks, .inl (cs.1, 180, .inl (aI r1.2.2.2.2.2.2.2.1))), (a1, .inl (cs.2.2.2, a1N, .inr (.inl (aL a1F))))] rfl (fun ht => ?_) (fun E hE => ?_)
  · rw [if_pos ht] at h
    refine j_i2l (pc := 6) ok dL_backspace_6 h (fun h => ?_)
    refine j_lastw (pc := 7) 5 ok rfl dL_backspace_7 h ([(a0, .inr (7, [.ref a0_now, .ref a0_trial, .ref a0_firstKeep, .ref a0_secondKeep, .ref a0_history, .ref a0_clipboard, .ref a0_reader, .ref a0_writer, .ref a0_picture])), (a0_history, .inr (1, [.ref a0_history_ring, .int (iI r1.2.2.1), .int (iI r1.2.2.2.1)])), (a0_now, .inr (0, [.ref a0_now_marks, .int (iI r1.2.2.2.2.1), .int (iI r1.2.2.2.2.2.1), .int (iI r1.2.2.2.2.2.2.1)])), (a0_history_ring, .inl (cs.2.2.1, 14, .inr (.inr (.inr (.inr (fun j => some (a0_history_ringQ j))))))), (a0_now_marks, .inl (cs.1, 180, .inl (aI r1.2.2.2.2.2.2.2.1))), (a1, .inl (cs.2.2.2, a1N, .inr (.inl (aL (va_up a1F (0 : Int).toNat r1.2.1)))))] ++ q_ring cs a0_history_ringQ a0_history_ringM0 r1.2.2.2.2.2.2.2.2.1 r1.2.2.2.2.2.2.2.2.2.1 r1.2.2.2.2.2.2.2.2.2.2.1 r1.2.2.2.2.2.2.2.2.2.2.2) rfl (fun h => ?_)
    refine j_goto (pc := 8) 14 ok dL_backspace_8 (by decide) ?_
    refine j_iconst (pc := 14) ok dL_backspace_14 ?_
    obtain rfl := Option.some.inj h
    exact fin _ 15 dL_backspace_15
  · have hn0 : ¬ r1.1 = 0 := fun z => by rw [z] at hE; cases hE
    rw [if_neg hn0] at h
    by_cases ht0 : r1.1 = 2
    · rw [if_pos ht0] at h
      rw [ht0] at hE
      obtain rfl := Option.some.inj hE
      refine ⟨[], ⟨0, 8, 11, 15⟩, [], rfl, fun z hz => absurd hz List.not_mem_nil, by decide, by decide, q_in 525 (by decide +kernel) (by decide +kernel), by decide, fun q9 => ?_⟩
      refine j_eq (pc' := 11) rfl rfl rfl rfl ?_
      refine j_astore_n (pc := 11) (lv' := [(2, .ref q9), (0, .ref a0), (1, .ref a1)]) ok dL_backspace_11 rfl (by decide) rfl ?_
      refine j_iconst (pc := 12) ok dL_backspace_12 ?_
      obtain rfl := Option.some.inj h
      exact fin _ 13 dL_backspace_13
    · rw [if_neg ht0] at h
      cases h
def f_L_paste (a1N : Nat) (a0_clipboard_size : Int) (a0_history_oldest : Int) (a0_history_count : Int) (a0_now_size : Int) (a0_now_caret : Int) (a0_now_from : Int) (a0_clipboard_marksF : (Nat → Int)) (a0_now_marksF : (Nat → Int)) (a0_history_ringS : (Nat → Int)) (a0_history_ringC : (Nat → Int)) (a0_history_ringM : (Nat → Int)) (a0_history_ringF : (Nat → Nat → Int)) (a1F : (Nat → Int)) : Option (Int × Int × Int × Int × Int × Int × (Nat → Int) × (Nat → Int) × (Nat → Int) × (Nat → Int) × (Nat → Nat → Int) × (Nat → Int)) := bd (f_X7_paste a0_clipboard_size a0_history_oldest a0_history_count a0_now_size a0_now_caret a0_now_from a0_clipboard_marksF a0_now_marksF a0_history_ringS a0_history_ringC a0_history_ringM a0_history_ringF) (fun r1 => tg1 r1.1 2 (gR r1.2.1 (gIn 0 a1N (some (0, r1.2.2.1, r1.2.2.2.1, r1.2.2.2.2.1, r1.2.2.2.2.2.1, r1.2.2.2.2.2.2.1, r1.2.2.2.2.2.2.2.1, r1.2.2.2.2.2.2.2.2.1, r1.2.2.2.2.2.2.2.2.2.1, r1.2.2.2.2.2.2.2.2.2.2.1, r1.2.2.2.2.2.2.2.2.2.2.2, va_up a1F (0 : Int).toNat r1.2.1)))) (some (1, r1.2.2.1, r1.2.2.2.1, r1.2.2.2.2.1, r1.2.2.2.2.2.1, r1.2.2.2.2.2.2.1, r1.2.2.2.2.2.2.2.1, r1.2.2.2.2.2.2.2.2.1, r1.2.2.2.2.2.2.2.2.2.1, r1.2.2.2.2.2.2.2.2.2.2.1, r1.2.2.2.2.2.2.2.2.2.2.2, a1F)))
set_option maxRecDepth 100000 in
set_option maxHeartbeats 4000000 in
theorem k_L_paste {D : va_G} {cs : q_CS} {a0 a0_now a0_trial a0_firstKeep a0_secondKeep a0_history a0_clipboard a0_reader a0_writer a0_picture a0_clipboard_marks a0_history_ring a0_now_marks a1 : Nat} {a1N : Nat} {a0_clipboard_size a0_history_oldest a0_history_count a0_now_size a0_now_caret a0_now_from : Int} {a0_clipboard_marksF a0_now_marksF a0_history_ringS a0_history_ringC a0_history_ringM a1F : (Nat → Int)} {a0_history_ringF : (Nat → Nat → Int)} {a0_history_ringQ a0_history_ringM0 : Nat → Nat} {r : (Int × Int × Int × Int × Int × Int × (Nat → Int) × (Nat → Int) × (Nat → Int) × (Nat → Int) × (Nat → Nat → Int) × (Nat → Int))} (h : f_L_paste a1N a0_clipboard_size a0_history_oldest a0_history_count a0_now_size a0_now_caret a0_now_from a0_clipboard_marksF a0_now_marksF a0_history_ringS a0_history_ringC a0_history_ringM a0_history_ringF a1F = some r) : q_Mh D cs yL_paste cL_paste 3 [(0, 8, 11, 15)] 7 109 [.ref a0, .ref a1] ([(a0, .inr (7, [.ref a0_now, .ref a0_trial, .ref a0_firstKeep, .ref a0_secondKeep, .ref a0_history, .ref a0_clipboard, .ref a0_reader, .ref a0_writer, .ref a0_picture])), (a0_clipboard, .inr (3, [.ref a0_clipboard_marks, .int (iI a0_clipboard_size)])), (a0_history, .inr (1, [.ref a0_history_ring, .int (iI a0_history_oldest), .int (iI a0_history_count)])), (a0_now, .inr (0, [.ref a0_now_marks, .int (iI a0_now_size), .int (iI a0_now_caret), .int (iI a0_now_from)])), (a0_clipboard_marks, .inl (cs.1, 180, .inl (aI a0_clipboard_marksF))), (a0_history_ring, .inl (cs.2.2.1, 14, .inr (.inr (.inr (.inr (fun j => some (a0_history_ringQ j))))))), (a0_now_marks, .inl (cs.1, 180, .inl (aI a0_now_marksF))), (a1, .inl (cs.2.2.2, a1N, .inr (.inl (aL a1F))))] ++ q_ring cs a0_history_ringQ a0_history_ringM0 a0_history_ringS a0_history_ringC a0_history_ringM a0_history_ringF) r.1 ([(a0, .inr (7, [.ref a0_now, .ref a0_trial, .ref a0_firstKeep, .ref a0_secondKeep, .ref a0_history, .ref a0_clipboard, .ref a0_reader, .ref a0_writer, .ref a0_picture])), (a0_clipboard, .inr (3, [.ref a0_clipboard_marks, .int (iI a0_clipboard_size)])), (a0_history, .inr (1, [.ref a0_history_ring, .int (iI r.2.1), .int (iI r.2.2.1)])), (a0_now, .inr (0, [.ref a0_now_marks, .int (iI r.2.2.2.1), .int (iI r.2.2.2.2.1), .int (iI r.2.2.2.2.2.1)])), (a0_clipboard_marks, .inl (cs.1, 180, .inl (aI a0_clipboard_marksF))), (a0_history_ring, .inl (cs.2.2.1, 14, .inr (.inr (.inr (.inr (fun j => some (a0_history_ringQ j))))))), (a0_now_marks, .inl (cs.1, 180, .inl (aI r.2.2.2.2.2.2.1))), (a1, .inl (cs.2.2.2, a1N, .inr (.inl (aL r.2.2.2.2.2.2.2.2.2.2.2))))] ++ q_ring cs a0_history_ringQ a0_history_ringM0 r.2.2.2.2.2.2.2.1 r.2.2.2.2.2.2.2.2.1 r.2.2.2.2.2.2.2.2.2.1 r.2.2.2.2.2.2.2.2.2.2.1) := by
  refine q_starth [⟨0, 8, 11, 15⟩] [(0, .ref a0), (1, .ref a1)] RL rfl (by decide +kernel) rfl rfl (Nat.le_of_ble_eq_true rfl) (q_in 934 (by decide +kernel) (by decide +kernel)) (fun κ ok kx fin => ?_)
  unfold f_L_paste at h
  refine j_aload_n (pc := 0) 1 ok dL_paste_0 rfl rfl ?_
  refine j_iconst (pc := 1) ok dL_paste_1 ?_
  refine j_aload_n (pc := 2) 0 ok dL_paste_2 rfl rfl ?_
  obtain ⟨r1, hr1, h⟩ := bd_inv h
  unfold tg1 at h
  refine j_callXG (pc := 3) ok kx (k_X7_paste (a0 := a0) (a0_now := a0_now) (a0_trial := a0_trial) (a0_firstKeep := a0_firstKeep) (a0_secondKeep := a0_secondKeep) (a0_history := a0_history) (a0_clipboard := a0_clipboard) (a0_reader := a0_reader) (a0_writer := a0_writer) (a0_picture := a0_picture) (a0_clipboard_marks := a0_clipboard_marks) (a0_history_ring := a0_history_ring) (a0_now_marks := a0_now_marks) (a0_history_ringQ := a0_history_ringQ) (a0_history_ringM0 := a0_history_ringM0) (a0_clipboard_size := a0_clipboard_size) (a0_history_oldest := a0_history_oldest) (a0_history_count := a0_history_count) (a0_now_size := a0_now_size) (a0_now_caret := a0_now_caret) (a0_now_from := a0_now_from) (a0_clipboard_marksF := a0_clipboard_marksF) (a0_now_marksF := a0_now_marksF) (a0_history_ringS := a0_history_ringS) (a0_history_ringC := a0_history_ringC) (a0_history_ringM := a0_history_ringM) (a0_history_ringF := a0_history_ringF) hr1) gV_L_61 ⟨rfl, hd_X7_paste⟩ [0, 1, 2, 3, 4, 5, 6] (by decide) rfl rfl (q_ring_fst ..) 0 rfl rfl rfl rfl ⟨Nat.le_of_ble_eq_true rfl, Nat.le_of_ble_eq_true rfl⟩ (Nat.le_of_ble_eq_true rfl) dL_paste_3 rfl [(a0, .inr (7, [.ref a0_now, .ref a0_trial, .ref a0_firstKeep, .ref a0_secondKeep, .ref a0_history, .ref a0_clipboard, .ref a0_reader, .ref a0_writer, .ref a0_picture])), (a0_clipboard, .inr (3, [.ref a0_clipboard_marks, .int (iI a0_clipboard_size)])), (a0_history, .inr (1, [.ref a0_history_ring, .int (iI r1.2.2.1), .int (iI r1.2.2.2.1)])), (a0_now, .inr (0, [.ref a0_now_marks, .int (iI r1.2.2.2.2.1), .int (iI r1.2.2.2.2.2.1), .int (iI r1.2.2.2.2.2.2.1)])), (a0_clipboard_marks, .inl (cs.1, 180, .inl (aI a0_clipboard_marksF))), (a0_history_ring, .inl (cs.2.2.1, 14, .inr (.inr (.inr (.inr (fun j => some (a0_history_ringQ j))))))), (a0_now_marks, .inl (cs.1, 180, .inl (aI r1.2.2.2.2.2.2.2.1))), (a1, .inl (cs.2.2.2, a1N, .inr (.inl (aL a1F))))] rfl (fun ht => ?_) (fun E hE => ?_)
  · rw [if_pos ht] at h
    refine j_i2l (pc := 6) ok dL_paste_6 h (fun h => ?_)
    refine j_lastw (pc := 7) 7 ok rfl dL_paste_7 h ([(a0, .inr (7, [.ref a0_now, .ref a0_trial, .ref a0_firstKeep, .ref a0_secondKeep, .ref a0_history, .ref a0_clipboard, .ref a0_reader, .ref a0_writer, .ref a0_picture])), (a0_clipboard, .inr (3, [.ref a0_clipboard_marks, .int (iI a0_clipboard_size)])), (a0_history, .inr (1, [.ref a0_history_ring, .int (iI r1.2.2.1), .int (iI r1.2.2.2.1)])), (a0_now, .inr (0, [.ref a0_now_marks, .int (iI r1.2.2.2.2.1), .int (iI r1.2.2.2.2.2.1), .int (iI r1.2.2.2.2.2.2.1)])), (a0_clipboard_marks, .inl (cs.1, 180, .inl (aI a0_clipboard_marksF))), (a0_history_ring, .inl (cs.2.2.1, 14, .inr (.inr (.inr (.inr (fun j => some (a0_history_ringQ j))))))), (a0_now_marks, .inl (cs.1, 180, .inl (aI r1.2.2.2.2.2.2.2.1))), (a1, .inl (cs.2.2.2, a1N, .inr (.inl (aL (va_up a1F (0 : Int).toNat r1.2.1)))))] ++ q_ring cs a0_history_ringQ a0_history_ringM0 r1.2.2.2.2.2.2.2.2.1 r1.2.2.2.2.2.2.2.2.2.1 r1.2.2.2.2.2.2.2.2.2.2.1 r1.2.2.2.2.2.2.2.2.2.2.2) rfl (fun h => ?_)
    refine j_goto (pc := 8) 14 ok dL_paste_8 (by decide) ?_
    refine j_iconst (pc := 14) ok dL_paste_14 ?_
    obtain rfl := Option.some.inj h
    exact fin _ 15 dL_paste_15
  · have hn0 : ¬ r1.1 = 0 := fun z => by rw [z] at hE; cases hE
    rw [if_neg hn0] at h
    by_cases ht0 : r1.1 = 2
    · rw [if_pos ht0] at h
      rw [ht0] at hE
      obtain rfl := Option.some.inj hE
      refine ⟨[], ⟨0, 8, 11, 15⟩, [], rfl, fun z hz => absurd hz List.not_mem_nil, by decide, by decide, q_in 525 (by decide +kernel) (by decide +kernel), by decide, fun q9 => ?_⟩
      refine j_eq (pc' := 11) rfl rfl rfl rfl ?_
      refine j_astore_n (pc := 11) (lv' := [(2, .ref q9), (0, .ref a0), (1, .ref a1)]) ok dL_paste_11 rfl (by decide) rfl ?_
      refine j_iconst (pc := 12) ok dL_paste_12 ?_
      obtain rfl := Option.some.inj h
      exact fin _ 13 dL_paste_13
    · rw [if_neg ht0] at h
      cases h
def f_L_replace (a3N : Nat) (a0_history_oldest : Int) (a0_history_count : Int) (a0_now_size : Int) (a0_now_caret : Int) (a0_now_from : Int) (a0_now_marksF : (Nat → Int)) (a0_history_ringS : (Nat → Int)) (a0_history_ringC : (Nat → Int)) (a0_history_ringM : (Nat → Int)) (a0_history_ringF : (Nat → Nat → Int)) (a3F : (Nat → Int)) (x1 : Int) (x2 : Int) : Option (Int × Int × Int × (Nat → Int) × (Nat → Int) × (Nat → Int) × (Nat → Int) × (Nat → Nat → Int) × (Nat → Int)) := bd (f_X7_replace a0_history_oldest a0_history_count a0_now_size a0_now_caret a0_now_from a0_now_marksF a0_history_ringS a0_history_ringC a0_history_ringM a0_history_ringF x1 x2) (fun r1 => tg1 r1.1 1 (gR r1.2.1 (gIn 0 a3N (some (0, r1.2.2.1, r1.2.2.2.1, r1.2.2.2.2.1, r1.2.2.2.2.2.1, r1.2.2.2.2.2.2.1, r1.2.2.2.2.2.2.2.1, r1.2.2.2.2.2.2.2.2, va_up a3F (0 : Int).toNat r1.2.1)))) (some (1, r1.2.2.1, r1.2.2.2.1, r1.2.2.2.2.1, r1.2.2.2.2.2.1, r1.2.2.2.2.2.2.1, r1.2.2.2.2.2.2.2.1, r1.2.2.2.2.2.2.2.2, a3F)))
set_option maxRecDepth 100000 in
set_option maxHeartbeats 4000000 in
theorem k_L_replace {D : va_G} {cs : q_CS} {a0 a0_now a0_trial a0_firstKeep a0_secondKeep a0_history a0_clipboard a0_reader a0_writer a0_picture a0_history_ring a0_now_marks a3 : Nat} {a3N : Nat} {a0_history_oldest a0_history_count a0_now_size a0_now_caret a0_now_from : Int} {a0_now_marksF a0_history_ringS a0_history_ringC a0_history_ringM a3F : (Nat → Int)} {a0_history_ringF : (Nat → Nat → Int)} {a0_history_ringQ a0_history_ringM0 : Nat → Nat} {x1 x2 : Int} {r : (Int × Int × Int × (Nat → Int) × (Nat → Int) × (Nat → Int) × (Nat → Int) × (Nat → Nat → Int) × (Nat → Int))} (h : f_L_replace a3N a0_history_oldest a0_history_count a0_now_size a0_now_caret a0_now_from a0_now_marksF a0_history_ringS a0_history_ringC a0_history_ringM a0_history_ringF a3F x1 x2 = some r) : q_Mh D cs yL_replace cL_replace 5 [(0, 10, 13, 13)] 7 107 [.ref a0, .int (iI x1), .int (iI x2), .ref a3] ([(a0, .inr (7, [.ref a0_now, .ref a0_trial, .ref a0_firstKeep, .ref a0_secondKeep, .ref a0_history, .ref a0_clipboard, .ref a0_reader, .ref a0_writer, .ref a0_picture])), (a0_history, .inr (1, [.ref a0_history_ring, .int (iI a0_history_oldest), .int (iI a0_history_count)])), (a0_now, .inr (0, [.ref a0_now_marks, .int (iI a0_now_size), .int (iI a0_now_caret), .int (iI a0_now_from)])), (a0_history_ring, .inl (cs.2.2.1, 14, .inr (.inr (.inr (.inr (fun j => some (a0_history_ringQ j))))))), (a0_now_marks, .inl (cs.1, 180, .inl (aI a0_now_marksF))), (a3, .inl (cs.2.2.2, a3N, .inr (.inl (aL a3F))))] ++ q_ring cs a0_history_ringQ a0_history_ringM0 a0_history_ringS a0_history_ringC a0_history_ringM a0_history_ringF) r.1 ([(a0, .inr (7, [.ref a0_now, .ref a0_trial, .ref a0_firstKeep, .ref a0_secondKeep, .ref a0_history, .ref a0_clipboard, .ref a0_reader, .ref a0_writer, .ref a0_picture])), (a0_history, .inr (1, [.ref a0_history_ring, .int (iI r.2.1), .int (iI r.2.2.1)])), (a0_now, .inr (0, [.ref a0_now_marks, .int (iI a0_now_size), .int (iI a0_now_caret), .int (iI a0_now_from)])), (a0_history_ring, .inl (cs.2.2.1, 14, .inr (.inr (.inr (.inr (fun j => some (a0_history_ringQ j))))))), (a0_now_marks, .inl (cs.1, 180, .inl (aI r.2.2.2.1))), (a3, .inl (cs.2.2.2, a3N, .inr (.inl (aL r.2.2.2.2.2.2.2.2))))] ++ q_ring cs a0_history_ringQ a0_history_ringM0 r.2.2.2.2.1 r.2.2.2.2.2.1 r.2.2.2.2.2.2.1 r.2.2.2.2.2.2.2.1) := by
  refine q_starth [⟨0, 10, 13, 13⟩] [(0, .ref a0), (1, .int (iI x1)), (2, .int (iI x2)), (3, .ref a3)] RL rfl (by decide +kernel) rfl rfl (Nat.le_of_ble_eq_true rfl) (q_in 958 (by decide +kernel) (by decide +kernel)) (fun κ ok kx fin => ?_)
  unfold f_L_replace at h
  refine j_aload_n (pc := 0) 3 ok dL_replace_0 rfl rfl ?_
  refine j_iconst (pc := 1) ok dL_replace_1 ?_
  refine j_aload_n (pc := 2) 0 ok dL_replace_2 rfl rfl ?_
  refine j_iload_n (pc := 3) 1 ok dL_replace_3 rfl rfl ?_
  refine j_iload_n (pc := 4) 2 ok dL_replace_4 rfl rfl ?_
  obtain ⟨r1, hr1, h⟩ := bd_inv h
  unfold tg1 at h
  refine j_callXG (pc := 5) ok kx (k_X7_replace (a0 := a0) (a0_now := a0_now) (a0_trial := a0_trial) (a0_firstKeep := a0_firstKeep) (a0_secondKeep := a0_secondKeep) (a0_history := a0_history) (a0_clipboard := a0_clipboard) (a0_reader := a0_reader) (a0_writer := a0_writer) (a0_picture := a0_picture) (a0_history_ring := a0_history_ring) (a0_now_marks := a0_now_marks) (a0_history_ringQ := a0_history_ringQ) (a0_history_ringM0 := a0_history_ringM0) (a0_history_oldest := a0_history_oldest) (a0_history_count := a0_history_count) (a0_now_size := a0_now_size) (a0_now_caret := a0_now_caret) (a0_now_from := a0_now_from) (a0_now_marksF := a0_now_marksF) (a0_history_ringS := a0_history_ringS) (a0_history_ringC := a0_history_ringC) (a0_history_ringM := a0_history_ringM) (a0_history_ringF := a0_history_ringF) (x1 := x1) (x2 := x2) hr1) gV_L_64 ⟨rfl, hd_X7_replace⟩ [0, 1, 2, 3, 4] (by decide) rfl rfl (q_ring_fst ..) 0 rfl rfl rfl rfl ⟨Nat.le_of_ble_eq_true rfl, Nat.le_of_ble_eq_true rfl⟩ (Nat.le_of_ble_eq_true rfl) dL_replace_5 rfl [(a0, .inr (7, [.ref a0_now, .ref a0_trial, .ref a0_firstKeep, .ref a0_secondKeep, .ref a0_history, .ref a0_clipboard, .ref a0_reader, .ref a0_writer, .ref a0_picture])), (a0_history, .inr (1, [.ref a0_history_ring, .int (iI r1.2.2.1), .int (iI r1.2.2.2.1)])), (a0_now, .inr (0, [.ref a0_now_marks, .int (iI a0_now_size), .int (iI a0_now_caret), .int (iI a0_now_from)])), (a0_history_ring, .inl (cs.2.2.1, 14, .inr (.inr (.inr (.inr (fun j => some (a0_history_ringQ j))))))), (a0_now_marks, .inl (cs.1, 180, .inl (aI r1.2.2.2.2.1))), (a3, .inl (cs.2.2.2, a3N, .inr (.inl (aL a3F))))] rfl (fun ht => ?_) (fun E hE => ?_)
  · rw [if_pos ht] at h
    refine j_i2l (pc := 8) ok dL_replace_8 h (fun h => ?_)
    refine j_lastw (pc := 9) 5 ok rfl dL_replace_9 h ([(a0, .inr (7, [.ref a0_now, .ref a0_trial, .ref a0_firstKeep, .ref a0_secondKeep, .ref a0_history, .ref a0_clipboard, .ref a0_reader, .ref a0_writer, .ref a0_picture])), (a0_history, .inr (1, [.ref a0_history_ring, .int (iI r1.2.2.1), .int (iI r1.2.2.2.1)])), (a0_now, .inr (0, [.ref a0_now_marks, .int (iI a0_now_size), .int (iI a0_now_caret), .int (iI a0_now_from)])), (a0_history_ring, .inl (cs.2.2.1, 14, .inr (.inr (.inr (.inr (fun j => some (a0_history_ringQ j))))))), (a0_now_marks, .inl (cs.1, 180, .inl (aI r1.2.2.2.2.1))), (a3, .inl (cs.2.2.2, a3N, .inr (.inl (aL (va_up a3F (0 : Int).toNat r1.2.1)))))] ++ q_ring cs a0_history_ringQ a0_history_ringM0 r1.2.2.2.2.2.1 r1.2.2.2.2.2.2.1 r1.2.2.2.2.2.2.2.1 r1.2.2.2.2.2.2.2.2) rfl (fun h => ?_)
    refine j_goto (pc := 10) 17 ok dL_replace_10 (by decide) ?_
    refine j_iconst (pc := 17) ok dL_replace_17 ?_
    obtain rfl := Option.some.inj h
    exact fin _ 18 dL_replace_18
  · have hn0 : ¬ r1.1 = 0 := fun z => by rw [z] at hE; cases hE
    rw [if_neg hn0] at h
    by_cases ht0 : r1.1 = 1
    · rw [if_pos ht0] at h
      rw [ht0] at hE
      obtain rfl := Option.some.inj hE
      refine ⟨[], ⟨0, 10, 13, 13⟩, [], rfl, fun z hz => absurd hz List.not_mem_nil, by decide, by decide, q_in 524 (by decide +kernel) (by decide +kernel), by decide, fun q9 => ?_⟩
      refine j_eq (pc' := 13) rfl rfl rfl rfl ?_
      refine j_astore (pc := 13) (lv' := [(4, .ref q9), (0, .ref a0), (1, .int (iI x1)), (2, .int (iI x2)), (3, .ref a3)]) ok dL_replace_13 (by decide) rfl ?_
      refine j_iconst (pc := 15) ok dL_replace_15 ?_
      obtain rfl := Option.some.inj h
      exact fin _ 16 dL_replace_16
    · rw [if_neg ht0] at h
      cases h
def f_L_undo (a1N : Nat) (a0_history_oldest : Int) (a0_history_count : Int) (a0_now_size : Int) (a0_now_caret : Int) (a0_now_from : Int) (a0_now_marksF : (Nat → Int)) (a0_history_ringS : (Nat → Int)) (a0_history_ringC : (Nat → Int)) (a0_history_ringM : (Nat → Int)) (a0_history_ringF : (Nat → Nat → Int)) (a1F : (Nat → Int)) : Option (Int × Int × Int × Int × Int × (Nat → Int) × (Nat → Int)) := bd (f_X7_undo a0_history_oldest a0_history_count a0_now_size a0_now_caret a0_now_from a0_now_marksF a0_history_ringS a0_history_ringC a0_history_ringM a0_history_ringF) (fun r1 => tg1 r1.1 2 (gR r1.2.1 (gIn 0 a1N (some (0, r1.2.2.1, r1.2.2.2.1, r1.2.2.2.2.1, r1.2.2.2.2.2.1, r1.2.2.2.2.2.2, va_up a1F (0 : Int).toNat r1.2.1)))) (some (1, r1.2.2.1, r1.2.2.2.1, r1.2.2.2.2.1, r1.2.2.2.2.2.1, r1.2.2.2.2.2.2, a1F)))
set_option maxRecDepth 100000 in
set_option maxHeartbeats 4000000 in
theorem k_L_undo {D : va_G} {cs : q_CS} {a0 a0_now a0_trial a0_firstKeep a0_secondKeep a0_history a0_clipboard a0_reader a0_writer a0_picture a0_history_ring a0_now_marks a1 : Nat} {a1N : Nat} {a0_history_oldest a0_history_count a0_now_size a0_now_caret a0_now_from : Int} {a0_now_marksF a0_history_ringS a0_history_ringC a0_history_ringM a1F : (Nat → Int)} {a0_history_ringF : (Nat → Nat → Int)} {a0_history_ringQ a0_history_ringM0 : Nat → Nat} {r : (Int × Int × Int × Int × Int × (Nat → Int) × (Nat → Int))} (h : f_L_undo a1N a0_history_oldest a0_history_count a0_now_size a0_now_caret a0_now_from a0_now_marksF a0_history_ringS a0_history_ringC a0_history_ringM a0_history_ringF a1F = some r) : q_Mh D cs yL_undo cL_undo 3 [(0, 8, 11, 15)] 7 105 [.ref a0, .ref a1] ([(a0, .inr (7, [.ref a0_now, .ref a0_trial, .ref a0_firstKeep, .ref a0_secondKeep, .ref a0_history, .ref a0_clipboard, .ref a0_reader, .ref a0_writer, .ref a0_picture])), (a0_history, .inr (1, [.ref a0_history_ring, .int (iI a0_history_oldest), .int (iI a0_history_count)])), (a0_now, .inr (0, [.ref a0_now_marks, .int (iI a0_now_size), .int (iI a0_now_caret), .int (iI a0_now_from)])), (a0_history_ring, .inl (cs.2.2.1, 14, .inr (.inr (.inr (.inr (fun j => some (a0_history_ringQ j))))))), (a0_now_marks, .inl (cs.1, 180, .inl (aI a0_now_marksF))), (a1, .inl (cs.2.2.2, a1N, .inr (.inl (aL a1F))))] ++ q_ring cs a0_history_ringQ a0_history_ringM0 a0_history_ringS a0_history_ringC a0_history_ringM a0_history_ringF) r.1 ([(a0, .inr (7, [.ref a0_now, .ref a0_trial, .ref a0_firstKeep, .ref a0_secondKeep, .ref a0_history, .ref a0_clipboard, .ref a0_reader, .ref a0_writer, .ref a0_picture])), (a0_history, .inr (1, [.ref a0_history_ring, .int (iI a0_history_oldest), .int (iI r.2.1)])), (a0_now, .inr (0, [.ref a0_now_marks, .int (iI r.2.2.1), .int (iI r.2.2.2.1), .int (iI r.2.2.2.2.1)])), (a0_history_ring, .inl (cs.2.2.1, 14, .inr (.inr (.inr (.inr (fun j => some (a0_history_ringQ j))))))), (a0_now_marks, .inl (cs.1, 180, .inl (aI r.2.2.2.2.2.1))), (a1, .inl (cs.2.2.2, a1N, .inr (.inl (aL r.2.2.2.2.2.2))))] ++ q_ring cs a0_history_ringQ a0_history_ringM0 a0_history_ringS a0_history_ringC a0_history_ringM a0_history_ringF) := by
  refine q_starth [⟨0, 8, 11, 15⟩] [(0, .ref a0), (1, .ref a1)] RL rfl (by decide +kernel) rfl rfl (Nat.le_of_ble_eq_true rfl) (q_in 971 (by decide +kernel) (by decide +kernel)) (fun κ ok kx fin => ?_)
  unfold f_L_undo at h
  refine j_aload_n (pc := 0) 1 ok dL_undo_0 rfl rfl ?_
  refine j_iconst (pc := 1) ok dL_undo_1 ?_
  refine j_aload_n (pc := 2) 0 ok dL_undo_2 rfl rfl ?_
  obtain ⟨r1, hr1, h⟩ := bd_inv h
  unfold tg1 at h
  refine j_callXG (pc := 3) ok kx (k_X7_undo (a0 := a0) (a0_now := a0_now) (a0_trial := a0_trial) (a0_firstKeep := a0_firstKeep) (a0_secondKeep := a0_secondKeep) (a0_history := a0_history) (a0_clipboard := a0_clipboard) (a0_reader := a0_reader) (a0_writer := a0_writer) (a0_picture := a0_picture) (a0_history_ring := a0_history_ring) (a0_now_marks := a0_now_marks) (a0_history_ringQ := a0_history_ringQ) (a0_history_ringM0 := a0_history_ringM0) (a0_history_oldest := a0_history_oldest) (a0_history_count := a0_history_count) (a0_now_size := a0_now_size) (a0_now_caret := a0_now_caret) (a0_now_from := a0_now_from) (a0_now_marksF := a0_now_marksF) (a0_history_ringS := a0_history_ringS) (a0_history_ringC := a0_history_ringC) (a0_history_ringM := a0_history_ringM) (a0_history_ringF := a0_history_ringF) hr1) gV_L_67 ⟨rfl, hd_X7_undo⟩ [0, 1, 2, 3, 4] (by decide) rfl rfl (q_ring_fst ..) 0 rfl rfl rfl rfl ⟨Nat.le_of_ble_eq_true rfl, Nat.le_of_ble_eq_true rfl⟩ (Nat.le_of_ble_eq_true rfl) dL_undo_3 rfl [(a0, .inr (7, [.ref a0_now, .ref a0_trial, .ref a0_firstKeep, .ref a0_secondKeep, .ref a0_history, .ref a0_clipboard, .ref a0_reader, .ref a0_writer, .ref a0_picture])), (a0_history, .inr (1, [.ref a0_history_ring, .int (iI a0_history_oldest), .int (iI r1.2.2.1)])), (a0_now, .inr (0, [.ref a0_now_marks, .int (iI r1.2.2.2.1), .int (iI r1.2.2.2.2.1), .int (iI r1.2.2.2.2.2.1)])), (a0_history_ring, .inl (cs.2.2.1, 14, .inr (.inr (.inr (.inr (fun j => some (a0_history_ringQ j))))))), (a0_now_marks, .inl (cs.1, 180, .inl (aI r1.2.2.2.2.2.2))), (a1, .inl (cs.2.2.2, a1N, .inr (.inl (aL a1F))))] rfl (fun ht => ?_) (fun E hE => ?_)
  · rw [if_pos ht] at h
    refine j_i2l (pc := 6) ok dL_undo_6 h (fun h => ?_)
    refine j_lastw (pc := 7) 5 ok rfl dL_undo_7 h ([(a0, .inr (7, [.ref a0_now, .ref a0_trial, .ref a0_firstKeep, .ref a0_secondKeep, .ref a0_history, .ref a0_clipboard, .ref a0_reader, .ref a0_writer, .ref a0_picture])), (a0_history, .inr (1, [.ref a0_history_ring, .int (iI a0_history_oldest), .int (iI r1.2.2.1)])), (a0_now, .inr (0, [.ref a0_now_marks, .int (iI r1.2.2.2.1), .int (iI r1.2.2.2.2.1), .int (iI r1.2.2.2.2.2.1)])), (a0_history_ring, .inl (cs.2.2.1, 14, .inr (.inr (.inr (.inr (fun j => some (a0_history_ringQ j))))))), (a0_now_marks, .inl (cs.1, 180, .inl (aI r1.2.2.2.2.2.2))), (a1, .inl (cs.2.2.2, a1N, .inr (.inl (aL (va_up a1F (0 : Int).toNat r1.2.1)))))] ++ q_ring cs a0_history_ringQ a0_history_ringM0 a0_history_ringS a0_history_ringC a0_history_ringM a0_history_ringF) rfl (fun h => ?_)
    refine j_goto (pc := 8) 14 ok dL_undo_8 (by decide) ?_
    refine j_iconst (pc := 14) ok dL_undo_14 ?_
    obtain rfl := Option.some.inj h
    exact fin _ 15 dL_undo_15
  · have hn0 : ¬ r1.1 = 0 := fun z => by rw [z] at hE; cases hE
    rw [if_neg hn0] at h
    by_cases ht0 : r1.1 = 2
    · rw [if_pos ht0] at h
      rw [ht0] at hE
      obtain rfl := Option.some.inj hE
      refine ⟨[], ⟨0, 8, 11, 15⟩, [], rfl, fun z hz => absurd hz List.not_mem_nil, by decide, by decide, q_in 525 (by decide +kernel) (by decide +kernel), by decide, fun q9 => ?_⟩
      refine j_eq (pc' := 11) rfl rfl rfl rfl ?_
      refine j_astore_n (pc := 11) (lv' := [(2, .ref q9), (0, .ref a0), (1, .ref a1)]) ok dL_undo_11 rfl (by decide) rfl ?_
      refine j_iconst (pc := 12) ok dL_undo_12 ?_
      obtain rfl := Option.some.inj h
      exact fin _ 13 dL_undo_13
    · rw [if_neg ht0] at h
      cases h
def f_L_drawing (a2N : Nat) (a0_now_size : Int) (a0_now_marksF : (Nat → Int)) (a0_picture_abovesF : (Nat → Int)) (a0_picture_belowsF : (Nat → Int)) (a0_picture_widthsF : (Nat → Int)) (a2F : (Nat → Int)) (x1 : Int) : Option (Int × (Nat → Int) × (Nat → Int) × (Nat → Int) × (Nat → Int)) := bd (f_X7_drawing a0_now_size a0_now_marksF a0_picture_abovesF a0_picture_belowsF a0_picture_widthsF x1) (fun r1 => tg1 r1.1 1 (gR r1.2.1 (gIn 0 a2N (some (0, r1.2.2.1, r1.2.2.2.1, r1.2.2.2.2, va_up a2F (0 : Int).toNat r1.2.1)))) (some (1, r1.2.2.1, r1.2.2.2.1, r1.2.2.2.2, a2F)))
set_option maxRecDepth 100000 in
set_option maxHeartbeats 4000000 in
theorem k_L_drawing {D : va_G} {cs : q_CS} {a0 a0_now a0_trial a0_firstKeep a0_secondKeep a0_history a0_clipboard a0_reader a0_writer a0_picture a0_now_marks a0_picture_widths a0_picture_aboves a0_picture_belows a2 : Nat} {a2N : Nat} {a0_now_size a0_now_caret a0_now_from a0_picture_row a0_picture_column a0_picture_height : Int} {a0_now_marksF a0_picture_abovesF a0_picture_belowsF a0_picture_widthsF a2F : (Nat → Int)} {x1 : Int} {r : (Int × (Nat → Int) × (Nat → Int) × (Nat → Int) × (Nat → Int))} (h : f_L_drawing a2N a0_now_size a0_now_marksF a0_picture_abovesF a0_picture_belowsF a0_picture_widthsF a2F x1 = some r) : q_Mh D cs yL_drawing cL_drawing 4 [(0, 9, 12, 13)] 7 140 [.ref a0, .int (iI x1), .ref a2] [(a0, .inr (7, [.ref a0_now, .ref a0_trial, .ref a0_firstKeep, .ref a0_secondKeep, .ref a0_history, .ref a0_clipboard, .ref a0_reader, .ref a0_writer, .ref a0_picture])), (a0_now, .inr (0, [.ref a0_now_marks, .int (iI a0_now_size), .int (iI a0_now_caret), .int (iI a0_now_from)])), (a0_picture, .inr (4, [.ref a0_picture_widths, .ref a0_picture_aboves, .ref a0_picture_belows, .int (iI a0_picture_row), .int (iI a0_picture_column), .int (iI a0_picture_height)])), (a0_now_marks, .inl (cs.1, 180, .inl (aI a0_now_marksF))), (a0_picture_aboves, .inl (cs.1, 181, .inl (aI a0_picture_abovesF))), (a0_picture_belows, .inl (cs.1, 181, .inl (aI a0_picture_belowsF))), (a0_picture_widths, .inl (cs.1, 181, .inl (aI a0_picture_widthsF))), (a2, .inl (cs.2.2.2, a2N, .inr (.inl (aL a2F))))] r.1 [(a0, .inr (7, [.ref a0_now, .ref a0_trial, .ref a0_firstKeep, .ref a0_secondKeep, .ref a0_history, .ref a0_clipboard, .ref a0_reader, .ref a0_writer, .ref a0_picture])), (a0_now, .inr (0, [.ref a0_now_marks, .int (iI a0_now_size), .int (iI a0_now_caret), .int (iI a0_now_from)])), (a0_picture, .inr (4, [.ref a0_picture_widths, .ref a0_picture_aboves, .ref a0_picture_belows, .int (iI a0_picture_row), .int (iI a0_picture_column), .int (iI a0_picture_height)])), (a0_now_marks, .inl (cs.1, 180, .inl (aI a0_now_marksF))), (a0_picture_aboves, .inl (cs.1, 181, .inl (aI r.2.1))), (a0_picture_belows, .inl (cs.1, 181, .inl (aI r.2.2.1))), (a0_picture_widths, .inl (cs.1, 181, .inl (aI r.2.2.2.1))), (a2, .inl (cs.2.2.2, a2N, .inr (.inl (aL r.2.2.2.2))))] := by
  refine q_starth [⟨0, 9, 12, 13⟩] [(0, .ref a0), (1, .int (iI x1)), (2, .ref a2)] RL rfl (by decide +kernel) rfl rfl (Nat.le_of_ble_eq_true rfl) (q_in 983 (by decide +kernel) (by decide +kernel)) (fun κ ok kx fin => ?_)
  unfold f_L_drawing at h
  refine j_aload_n (pc := 0) 2 ok dL_drawing_0 rfl rfl ?_
  refine j_iconst (pc := 1) ok dL_drawing_1 ?_
  refine j_aload_n (pc := 2) 0 ok dL_drawing_2 rfl rfl ?_
  refine j_iload_n (pc := 3) 1 ok dL_drawing_3 rfl rfl ?_
  obtain ⟨r1, hr1, h⟩ := bd_inv h
  unfold tg1 at h
  refine j_callX (pc := 4) ok kx (k_X7_drawing (a0 := a0) (a0_now := a0_now) (a0_trial := a0_trial) (a0_firstKeep := a0_firstKeep) (a0_secondKeep := a0_secondKeep) (a0_history := a0_history) (a0_clipboard := a0_clipboard) (a0_reader := a0_reader) (a0_writer := a0_writer) (a0_picture := a0_picture) (a0_now_marks := a0_now_marks) (a0_picture_widths := a0_picture_widths) (a0_picture_aboves := a0_picture_aboves) (a0_picture_belows := a0_picture_belows) (a0_now_size := a0_now_size) (a0_now_caret := a0_now_caret) (a0_now_from := a0_now_from) (a0_picture_row := a0_picture_row) (a0_picture_column := a0_picture_column) (a0_picture_height := a0_picture_height) (a0_now_marksF := a0_now_marksF) (a0_picture_abovesF := a0_picture_abovesF) (a0_picture_belowsF := a0_picture_belowsF) (a0_picture_widthsF := a0_picture_widthsF) (x1 := x1) hr1) gV_L_70 ⟨rfl, hd_X7_drawing⟩ [0, 1, 2, 3, 4, 5, 6] (by decide) rfl rfl 0 rfl rfl rfl rfl ⟨Nat.le_of_ble_eq_true rfl, Nat.le_of_ble_eq_true rfl⟩ (Nat.le_of_ble_eq_true rfl) dL_drawing_4 rfl [(a0, .inr (7, [.ref a0_now, .ref a0_trial, .ref a0_firstKeep, .ref a0_secondKeep, .ref a0_history, .ref a0_clipboard, .ref a0_reader, .ref a0_writer, .ref a0_picture])), (a0_now, .inr (0, [.ref a0_now_marks, .int (iI a0_now_size), .int (iI a0_now_caret), .int (iI a0_now_from)])), (a0_picture, .inr (4, [.ref a0_picture_widths, .ref a0_picture_aboves, .ref a0_picture_belows, .int (iI a0_picture_row), .int (iI a0_picture_column), .int (iI a0_picture_height)])), (a0_now_marks, .inl (cs.1, 180, .inl (aI a0_now_marksF))), (a0_picture_aboves, .inl (cs.1, 181, .inl (aI r1.2.2.1))), (a0_picture_belows, .inl (cs.1, 181, .inl (aI r1.2.2.2.1))), (a0_picture_widths, .inl (cs.1, 181, .inl (aI r1.2.2.2.2))), (a2, .inl (cs.2.2.2, a2N, .inr (.inl (aL a2F))))] rfl (fun ht => ?_) (fun E hE => ?_)
  · rw [if_pos ht] at h
    refine j_i2l (pc := 7) ok dL_drawing_7 h (fun h => ?_)
    refine j_lastw (pc := 8) 7 ok rfl dL_drawing_8 h [(a0, .inr (7, [.ref a0_now, .ref a0_trial, .ref a0_firstKeep, .ref a0_secondKeep, .ref a0_history, .ref a0_clipboard, .ref a0_reader, .ref a0_writer, .ref a0_picture])), (a0_now, .inr (0, [.ref a0_now_marks, .int (iI a0_now_size), .int (iI a0_now_caret), .int (iI a0_now_from)])), (a0_picture, .inr (4, [.ref a0_picture_widths, .ref a0_picture_aboves, .ref a0_picture_belows, .int (iI a0_picture_row), .int (iI a0_picture_column), .int (iI a0_picture_height)])), (a0_now_marks, .inl (cs.1, 180, .inl (aI a0_now_marksF))), (a0_picture_aboves, .inl (cs.1, 181, .inl (aI r1.2.2.1))), (a0_picture_belows, .inl (cs.1, 181, .inl (aI r1.2.2.2.1))), (a0_picture_widths, .inl (cs.1, 181, .inl (aI r1.2.2.2.2))), (a2, .inl (cs.2.2.2, a2N, .inr (.inl (aL (va_up a2F (0 : Int).toNat r1.2.1)))))] rfl (fun h => ?_)
    refine j_goto (pc := 9) 15 ok dL_drawing_9 (by decide) ?_
    refine j_iconst (pc := 15) ok dL_drawing_15 ?_
    obtain rfl := Option.some.inj h
    exact fin _ 16 dL_drawing_16
  · have hn0 : ¬ r1.1 = 0 := fun z => by rw [z] at hE; cases hE
    rw [if_neg hn0] at h
    by_cases ht0 : r1.1 = 1
    · rw [if_pos ht0] at h
      rw [ht0] at hE
      obtain rfl := Option.some.inj hE
      refine ⟨[], ⟨0, 9, 12, 13⟩, [], rfl, fun z hz => absurd hz List.not_mem_nil, by decide, by decide, q_in 524 (by decide +kernel) (by decide +kernel), by decide, fun q9 => ?_⟩
      refine j_eq (pc' := 12) rfl rfl rfl rfl ?_
      refine j_astore_n (pc := 12) (lv' := [(3, .ref q9), (0, .ref a0), (1, .int (iI x1)), (2, .ref a2)]) ok dL_drawing_12 rfl (by decide) rfl ?_
      refine j_iconst (pc := 13) ok dL_drawing_13 ?_
      obtain rfl := Option.some.inj h
      exact fin _ 14 dL_drawing_14
    · rw [if_neg ht0] at h
      cases h
def f_L_drawn (a3N : Nat) (a0_now_size : Int) (a0_picture_row : Int) (a0_picture_column : Int) (a0_picture_height : Int) (a0_now_marksF : (Nat → Int)) (a0_picture_abovesF : (Nat → Int)) (a0_picture_belowsF : (Nat → Int)) (a0_picture_widthsF : (Nat → Int)) (a3F : (Nat → Int)) (x1 : Int) (x2 : Int) : Option (Int × Int × Int × Int × (Nat → Int) × (Nat → Int) × (Nat → Int) × (Nat → Int)) := bd (f_X7_drawn a0_now_size a0_picture_row a0_picture_column a0_picture_height a0_now_marksF a0_picture_abovesF a0_picture_belowsF a0_picture_widthsF x1 x2) (fun r1 => tg1 r1.1 3 (gR r1.2.1 (gIn 0 a3N (some (0, r1.2.2.1, r1.2.2.2.1, r1.2.2.2.2.1, r1.2.2.2.2.2.1, r1.2.2.2.2.2.2.1, r1.2.2.2.2.2.2.2, va_up a3F (0 : Int).toNat r1.2.1)))) (some (1, r1.2.2.1, r1.2.2.2.1, r1.2.2.2.2.1, r1.2.2.2.2.2.1, r1.2.2.2.2.2.2.1, r1.2.2.2.2.2.2.2, a3F)))
set_option maxRecDepth 100000 in
set_option maxHeartbeats 4000000 in
theorem k_L_drawn {D : va_G} {cs : q_CS} {a0 a0_now a0_trial a0_firstKeep a0_secondKeep a0_history a0_clipboard a0_reader a0_writer a0_picture a0_now_marks a0_picture_widths a0_picture_aboves a0_picture_belows a3 : Nat} {a3N : Nat} {a0_now_size a0_now_caret a0_now_from a0_picture_row a0_picture_column a0_picture_height : Int} {a0_now_marksF a0_picture_abovesF a0_picture_belowsF a0_picture_widthsF a3F : (Nat → Int)} {x1 x2 : Int} {r : (Int × Int × Int × Int × (Nat → Int) × (Nat → Int) × (Nat → Int) × (Nat → Int))} (h : f_L_drawn a3N a0_now_size a0_picture_row a0_picture_column a0_picture_height a0_now_marksF a0_picture_abovesF a0_picture_belowsF a0_picture_widthsF a3F x1 x2 = some r) : q_Mh D cs yL_drawn cL_drawn 5 [(0, 10, 13, 28)] 7 161 [.ref a0, .int (iI x1), .int (iI x2), .ref a3] [(a0, .inr (7, [.ref a0_now, .ref a0_trial, .ref a0_firstKeep, .ref a0_secondKeep, .ref a0_history, .ref a0_clipboard, .ref a0_reader, .ref a0_writer, .ref a0_picture])), (a0_now, .inr (0, [.ref a0_now_marks, .int (iI a0_now_size), .int (iI a0_now_caret), .int (iI a0_now_from)])), (a0_picture, .inr (4, [.ref a0_picture_widths, .ref a0_picture_aboves, .ref a0_picture_belows, .int (iI a0_picture_row), .int (iI a0_picture_column), .int (iI a0_picture_height)])), (a0_now_marks, .inl (cs.1, 180, .inl (aI a0_now_marksF))), (a0_picture_aboves, .inl (cs.1, 181, .inl (aI a0_picture_abovesF))), (a0_picture_belows, .inl (cs.1, 181, .inl (aI a0_picture_belowsF))), (a0_picture_widths, .inl (cs.1, 181, .inl (aI a0_picture_widthsF))), (a3, .inl (cs.2.2.2, a3N, .inr (.inl (aL a3F))))] r.1 [(a0, .inr (7, [.ref a0_now, .ref a0_trial, .ref a0_firstKeep, .ref a0_secondKeep, .ref a0_history, .ref a0_clipboard, .ref a0_reader, .ref a0_writer, .ref a0_picture])), (a0_now, .inr (0, [.ref a0_now_marks, .int (iI a0_now_size), .int (iI a0_now_caret), .int (iI a0_now_from)])), (a0_picture, .inr (4, [.ref a0_picture_widths, .ref a0_picture_aboves, .ref a0_picture_belows, .int (iI r.2.1), .int (iI r.2.2.1), .int (iI r.2.2.2.1)])), (a0_now_marks, .inl (cs.1, 180, .inl (aI a0_now_marksF))), (a0_picture_aboves, .inl (cs.1, 181, .inl (aI r.2.2.2.2.1))), (a0_picture_belows, .inl (cs.1, 181, .inl (aI r.2.2.2.2.2.1))), (a0_picture_widths, .inl (cs.1, 181, .inl (aI r.2.2.2.2.2.2.1))), (a3, .inl (cs.2.2.2, a3N, .inr (.inl (aL r.2.2.2.2.2.2.2))))] := by
  refine q_starth [⟨0, 10, 13, 28⟩] [(0, .ref a0), (1, .int (iI x1)), (2, .int (iI x2)), (3, .ref a3)] RL rfl (by decide +kernel) rfl rfl (Nat.le_of_ble_eq_true rfl) (q_in 1035 (by decide +kernel) (by decide +kernel)) (fun κ ok kx fin => ?_)
  unfold f_L_drawn at h
  refine j_aload_n (pc := 0) 3 ok dL_drawn_0 rfl rfl ?_
  refine j_iconst (pc := 1) ok dL_drawn_1 ?_
  refine j_aload_n (pc := 2) 0 ok dL_drawn_2 rfl rfl ?_
  refine j_iload_n (pc := 3) 1 ok dL_drawn_3 rfl rfl ?_
  refine j_iload_n (pc := 4) 2 ok dL_drawn_4 rfl rfl ?_
  obtain ⟨r1, hr1, h⟩ := bd_inv h
  unfold tg1 at h
  refine j_callX (pc := 5) ok kx (k_X7_drawn (a0 := a0) (a0_now := a0_now) (a0_trial := a0_trial) (a0_firstKeep := a0_firstKeep) (a0_secondKeep := a0_secondKeep) (a0_history := a0_history) (a0_clipboard := a0_clipboard) (a0_reader := a0_reader) (a0_writer := a0_writer) (a0_picture := a0_picture) (a0_now_marks := a0_now_marks) (a0_picture_widths := a0_picture_widths) (a0_picture_aboves := a0_picture_aboves) (a0_picture_belows := a0_picture_belows) (a0_now_size := a0_now_size) (a0_now_caret := a0_now_caret) (a0_now_from := a0_now_from) (a0_picture_row := a0_picture_row) (a0_picture_column := a0_picture_column) (a0_picture_height := a0_picture_height) (a0_now_marksF := a0_now_marksF) (a0_picture_abovesF := a0_picture_abovesF) (a0_picture_belowsF := a0_picture_belowsF) (a0_picture_widthsF := a0_picture_widthsF) (x1 := x1) (x2 := x2) hr1) gV_L_73 ⟨rfl, hd_X7_drawn⟩ [0, 1, 2, 3, 4, 5, 6] (by decide) rfl rfl 0 rfl rfl rfl rfl ⟨Nat.le_of_ble_eq_true rfl, Nat.le_of_ble_eq_true rfl⟩ (Nat.le_of_ble_eq_true rfl) dL_drawn_5 rfl [(a0, .inr (7, [.ref a0_now, .ref a0_trial, .ref a0_firstKeep, .ref a0_secondKeep, .ref a0_history, .ref a0_clipboard, .ref a0_reader, .ref a0_writer, .ref a0_picture])), (a0_now, .inr (0, [.ref a0_now_marks, .int (iI a0_now_size), .int (iI a0_now_caret), .int (iI a0_now_from)])), (a0_picture, .inr (4, [.ref a0_picture_widths, .ref a0_picture_aboves, .ref a0_picture_belows, .int (iI r1.2.2.1), .int (iI r1.2.2.2.1), .int (iI r1.2.2.2.2.1)])), (a0_now_marks, .inl (cs.1, 180, .inl (aI a0_now_marksF))), (a0_picture_aboves, .inl (cs.1, 181, .inl (aI r1.2.2.2.2.2.1))), (a0_picture_belows, .inl (cs.1, 181, .inl (aI r1.2.2.2.2.2.2.1))), (a0_picture_widths, .inl (cs.1, 181, .inl (aI r1.2.2.2.2.2.2.2))), (a3, .inl (cs.2.2.2, a3N, .inr (.inl (aL a3F))))] rfl (fun ht => ?_) (fun E hE => ?_)
  · rw [if_pos ht] at h
    refine j_i2l (pc := 8) ok dL_drawn_8 h (fun h => ?_)
    refine j_lastw (pc := 9) 7 ok rfl dL_drawn_9 h [(a0, .inr (7, [.ref a0_now, .ref a0_trial, .ref a0_firstKeep, .ref a0_secondKeep, .ref a0_history, .ref a0_clipboard, .ref a0_reader, .ref a0_writer, .ref a0_picture])), (a0_now, .inr (0, [.ref a0_now_marks, .int (iI a0_now_size), .int (iI a0_now_caret), .int (iI a0_now_from)])), (a0_picture, .inr (4, [.ref a0_picture_widths, .ref a0_picture_aboves, .ref a0_picture_belows, .int (iI r1.2.2.1), .int (iI r1.2.2.2.1), .int (iI r1.2.2.2.2.1)])), (a0_now_marks, .inl (cs.1, 180, .inl (aI a0_now_marksF))), (a0_picture_aboves, .inl (cs.1, 181, .inl (aI r1.2.2.2.2.2.1))), (a0_picture_belows, .inl (cs.1, 181, .inl (aI r1.2.2.2.2.2.2.1))), (a0_picture_widths, .inl (cs.1, 181, .inl (aI r1.2.2.2.2.2.2.2))), (a3, .inl (cs.2.2.2, a3N, .inr (.inl (aL (va_up a3F (0 : Int).toNat r1.2.1)))))] rfl (fun h => ?_)
    refine j_goto (pc := 10) 17 ok dL_drawn_10 (by decide) ?_
    refine j_iconst (pc := 17) ok dL_drawn_17 ?_
    obtain rfl := Option.some.inj h
    exact fin _ 18 dL_drawn_18
  · have hn0 : ¬ r1.1 = 0 := fun z => by rw [z] at hE; cases hE
    rw [if_neg hn0] at h
    by_cases ht0 : r1.1 = 3
    · rw [if_pos ht0] at h
      rw [ht0] at hE
      obtain rfl := Option.some.inj hE
      refine ⟨[], ⟨0, 10, 13, 28⟩, [], rfl, fun z hz => absurd hz List.not_mem_nil, by decide, by decide, q_in 681 (by decide +kernel) (by decide +kernel), by decide, fun q9 => ?_⟩
      refine j_eq (pc' := 13) rfl rfl rfl rfl ?_
      refine j_astore (pc := 13) (lv' := [(4, .ref q9), (0, .ref a0), (1, .int (iI x1)), (2, .int (iI x2)), (3, .ref a3)]) ok dL_drawn_13 (by decide) rfl ?_
      refine j_iconst (pc := 15) ok dL_drawn_15 ?_
      obtain rfl := Option.some.inj h
      exact fin _ 16 dL_drawn_16
    · rw [if_neg ht0] at h
      cases h
def f_L_runScript (a3N : Nat) (a0_now_size : Int) (a0_now_caret : Int) (a0_now_from : Int) (a0_trial_size : Int) (a0_trial_caret : Int) (a0_trial_from : Int) (a0_now_marksF : (Nat → Int)) (a0_picture_abovesF : (Nat → Int)) (a0_picture_belowsF : (Nat → Int)) (a0_picture_widthsF : (Nat → Int)) (a0_trial_marksF : (Nat → Int)) (a3F : (Nat → Int)) (x1 : Int) (x2 : Int) : Option (Int × Int × Int × Int × (Nat → Int) × (Nat → Int) × (Nat → Int) × (Nat → Int) × (Nat → Int)) := bd (f_X7_runScript a0_now_size a0_now_caret a0_now_from a0_trial_size a0_trial_caret a0_trial_from a0_now_marksF a0_picture_abovesF a0_picture_belowsF a0_picture_widthsF a0_trial_marksF x1 x2) (fun r1 => tg1 r1.1 1 (gR r1.2.1 (gIn 0 a3N (some (0, r1.2.2.1, r1.2.2.2.1, r1.2.2.2.2.1, r1.2.2.2.2.2.1, r1.2.2.2.2.2.2.1, r1.2.2.2.2.2.2.2.1, r1.2.2.2.2.2.2.2.2, va_up a3F (0 : Int).toNat r1.2.1)))) (some (1, r1.2.2.1, r1.2.2.2.1, r1.2.2.2.2.1, r1.2.2.2.2.2.1, r1.2.2.2.2.2.2.1, r1.2.2.2.2.2.2.2.1, r1.2.2.2.2.2.2.2.2, a3F)))
set_option maxRecDepth 100000 in
set_option maxHeartbeats 4000000 in
theorem k_L_runScript {D : va_G} {cs : q_CS} {a0 a0_now a0_trial a0_firstKeep a0_secondKeep a0_history a0_clipboard a0_reader a0_writer a0_picture a0_now_marks a0_picture_widths a0_picture_aboves a0_picture_belows a0_trial_marks a3 : Nat} {a3N : Nat} {a0_now_size a0_now_caret a0_now_from a0_picture_row a0_picture_column a0_picture_height a0_trial_size a0_trial_caret a0_trial_from : Int} {a0_now_marksF a0_picture_abovesF a0_picture_belowsF a0_picture_widthsF a0_trial_marksF a3F : (Nat → Int)} {x1 x2 : Int} {r : (Int × Int × Int × Int × (Nat → Int) × (Nat → Int) × (Nat → Int) × (Nat → Int) × (Nat → Int))} (h : f_L_runScript a3N a0_now_size a0_now_caret a0_now_from a0_trial_size a0_trial_caret a0_trial_from a0_now_marksF a0_picture_abovesF a0_picture_belowsF a0_picture_widthsF a0_trial_marksF a3F x1 x2 = some r) : q_Mh D cs yL_runScript cL_runScript 6 [(0, 11, 14, 13)] 7 166 [.ref a0, .int (iI x1), .long (iL x2), .ref a3] [(a0, .inr (7, [.ref a0_now, .ref a0_trial, .ref a0_firstKeep, .ref a0_secondKeep, .ref a0_history, .ref a0_clipboard, .ref a0_reader, .ref a0_writer, .ref a0_picture])), (a0_now, .inr (0, [.ref a0_now_marks, .int (iI a0_now_size), .int (iI a0_now_caret), .int (iI a0_now_from)])), (a0_picture, .inr (4, [.ref a0_picture_widths, .ref a0_picture_aboves, .ref a0_picture_belows, .int (iI a0_picture_row), .int (iI a0_picture_column), .int (iI a0_picture_height)])), (a0_trial, .inr (0, [.ref a0_trial_marks, .int (iI a0_trial_size), .int (iI a0_trial_caret), .int (iI a0_trial_from)])), (a0_now_marks, .inl (cs.1, 180, .inl (aI a0_now_marksF))), (a0_picture_aboves, .inl (cs.1, 181, .inl (aI a0_picture_abovesF))), (a0_picture_belows, .inl (cs.1, 181, .inl (aI a0_picture_belowsF))), (a0_picture_widths, .inl (cs.1, 181, .inl (aI a0_picture_widthsF))), (a0_trial_marks, .inl (cs.1, 180, .inl (aI a0_trial_marksF))), (a3, .inl (cs.2.2.2, a3N, .inr (.inl (aL a3F))))] r.1 [(a0, .inr (7, [.ref a0_now, .ref a0_trial, .ref a0_firstKeep, .ref a0_secondKeep, .ref a0_history, .ref a0_clipboard, .ref a0_reader, .ref a0_writer, .ref a0_picture])), (a0_now, .inr (0, [.ref a0_now_marks, .int (iI a0_now_size), .int (iI a0_now_caret), .int (iI a0_now_from)])), (a0_picture, .inr (4, [.ref a0_picture_widths, .ref a0_picture_aboves, .ref a0_picture_belows, .int (iI a0_picture_row), .int (iI a0_picture_column), .int (iI a0_picture_height)])), (a0_trial, .inr (0, [.ref a0_trial_marks, .int (iI r.2.1), .int (iI r.2.2.1), .int (iI r.2.2.2.1)])), (a0_now_marks, .inl (cs.1, 180, .inl (aI a0_now_marksF))), (a0_picture_aboves, .inl (cs.1, 181, .inl (aI r.2.2.2.2.1))), (a0_picture_belows, .inl (cs.1, 181, .inl (aI r.2.2.2.2.2.1))), (a0_picture_widths, .inl (cs.1, 181, .inl (aI r.2.2.2.2.2.2.1))), (a0_trial_marks, .inl (cs.1, 180, .inl (aI r.2.2.2.2.2.2.2.1))), (a3, .inl (cs.2.2.2, a3N, .inr (.inl (aL r.2.2.2.2.2.2.2.2))))] := by
  refine q_starth [⟨0, 11, 14, 13⟩] [(0, .ref a0), (1, .int (iI x1)), (2, .long (iL x2)), (4, .ref a3)] RL rfl (by decide +kernel) rfl rfl (Nat.le_of_ble_eq_true rfl) (q_in 1083 (by decide +kernel) (by decide +kernel)) (fun κ ok kx fin => ?_)
  unfold f_L_runScript at h
  refine j_aload (pc := 0) 3 ok dL_runScript_0 rfl ?_
  refine j_iconst (pc := 2) ok dL_runScript_2 ?_
  refine j_aload_n (pc := 3) 0 ok dL_runScript_3 rfl rfl ?_
  refine j_iload_n (pc := 4) 1 ok dL_runScript_4 rfl rfl ?_
  refine j_lload_n (pc := 5) 2 ok dL_runScript_5 rfl rfl ?_
  obtain ⟨r1, hr1, h⟩ := bd_inv h
  unfold tg1 at h
  refine j_callX (pc := 6) ok kx (k_X7_runScript (a0 := a0) (a0_now := a0_now) (a0_trial := a0_trial) (a0_firstKeep := a0_firstKeep) (a0_secondKeep := a0_secondKeep) (a0_history := a0_history) (a0_clipboard := a0_clipboard) (a0_reader := a0_reader) (a0_writer := a0_writer) (a0_picture := a0_picture) (a0_now_marks := a0_now_marks) (a0_picture_widths := a0_picture_widths) (a0_picture_aboves := a0_picture_aboves) (a0_picture_belows := a0_picture_belows) (a0_trial_marks := a0_trial_marks) (a0_now_size := a0_now_size) (a0_now_caret := a0_now_caret) (a0_now_from := a0_now_from) (a0_picture_row := a0_picture_row) (a0_picture_column := a0_picture_column) (a0_picture_height := a0_picture_height) (a0_trial_size := a0_trial_size) (a0_trial_caret := a0_trial_caret) (a0_trial_from := a0_trial_from) (a0_now_marksF := a0_now_marksF) (a0_picture_abovesF := a0_picture_abovesF) (a0_picture_belowsF := a0_picture_belowsF) (a0_picture_widthsF := a0_picture_widthsF) (a0_trial_marksF := a0_trial_marksF) (x1 := x1) (x2 := x2) hr1) gV_L_76 ⟨rfl, hd_X7_runScript⟩ [0, 1, 2, 3, 4, 5, 6, 7, 8] (by decide) rfl rfl 0 rfl rfl rfl rfl ⟨Nat.le_of_ble_eq_true rfl, Nat.le_of_ble_eq_true rfl⟩ (Nat.le_of_ble_eq_true rfl) dL_runScript_6 rfl [(a0, .inr (7, [.ref a0_now, .ref a0_trial, .ref a0_firstKeep, .ref a0_secondKeep, .ref a0_history, .ref a0_clipboard, .ref a0_reader, .ref a0_writer, .ref a0_picture])), (a0_now, .inr (0, [.ref a0_now_marks, .int (iI a0_now_size), .int (iI a0_now_caret), .int (iI a0_now_from)])), (a0_picture, .inr (4, [.ref a0_picture_widths, .ref a0_picture_aboves, .ref a0_picture_belows, .int (iI a0_picture_row), .int (iI a0_picture_column), .int (iI a0_picture_height)])), (a0_trial, .inr (0, [.ref a0_trial_marks, .int (iI r1.2.2.1), .int (iI r1.2.2.2.1), .int (iI r1.2.2.2.2.1)])), (a0_now_marks, .inl (cs.1, 180, .inl (aI a0_now_marksF))), (a0_picture_aboves, .inl (cs.1, 181, .inl (aI r1.2.2.2.2.2.1))), (a0_picture_belows, .inl (cs.1, 181, .inl (aI r1.2.2.2.2.2.2.1))), (a0_picture_widths, .inl (cs.1, 181, .inl (aI r1.2.2.2.2.2.2.2.1))), (a0_trial_marks, .inl (cs.1, 180, .inl (aI r1.2.2.2.2.2.2.2.2))), (a3, .inl (cs.2.2.2, a3N, .inr (.inl (aL a3F))))] rfl (fun ht => ?_) (fun E hE => ?_)
  · rw [if_pos ht] at h
    refine j_i2l (pc := 9) ok dL_runScript_9 h (fun h => ?_)
    refine j_lastw (pc := 10) 9 ok rfl dL_runScript_10 h [(a0, .inr (7, [.ref a0_now, .ref a0_trial, .ref a0_firstKeep, .ref a0_secondKeep, .ref a0_history, .ref a0_clipboard, .ref a0_reader, .ref a0_writer, .ref a0_picture])), (a0_now, .inr (0, [.ref a0_now_marks, .int (iI a0_now_size), .int (iI a0_now_caret), .int (iI a0_now_from)])), (a0_picture, .inr (4, [.ref a0_picture_widths, .ref a0_picture_aboves, .ref a0_picture_belows, .int (iI a0_picture_row), .int (iI a0_picture_column), .int (iI a0_picture_height)])), (a0_trial, .inr (0, [.ref a0_trial_marks, .int (iI r1.2.2.1), .int (iI r1.2.2.2.1), .int (iI r1.2.2.2.2.1)])), (a0_now_marks, .inl (cs.1, 180, .inl (aI a0_now_marksF))), (a0_picture_aboves, .inl (cs.1, 181, .inl (aI r1.2.2.2.2.2.1))), (a0_picture_belows, .inl (cs.1, 181, .inl (aI r1.2.2.2.2.2.2.1))), (a0_picture_widths, .inl (cs.1, 181, .inl (aI r1.2.2.2.2.2.2.2.1))), (a0_trial_marks, .inl (cs.1, 180, .inl (aI r1.2.2.2.2.2.2.2.2))), (a3, .inl (cs.2.2.2, a3N, .inr (.inl (aL (va_up a3F (0 : Int).toNat r1.2.1)))))] rfl (fun h => ?_)
    refine j_goto (pc := 11) 18 ok dL_runScript_11 (by decide) ?_
    refine j_iconst (pc := 18) ok dL_runScript_18 ?_
    obtain rfl := Option.some.inj h
    exact fin _ 19 dL_runScript_19
  · have hn0 : ¬ r1.1 = 0 := fun z => by rw [z] at hE; cases hE
    rw [if_neg hn0] at h
    by_cases ht0 : r1.1 = 1
    · rw [if_pos ht0] at h
      rw [ht0] at hE
      obtain rfl := Option.some.inj hE
      refine ⟨[], ⟨0, 11, 14, 13⟩, [], rfl, fun z hz => absurd hz List.not_mem_nil, by decide, by decide, q_in 524 (by decide +kernel) (by decide +kernel), by decide, fun q9 => ?_⟩
      refine j_eq (pc' := 14) rfl rfl rfl rfl ?_
      refine j_astore (pc := 14) (lv' := [(5, .ref q9), (0, .ref a0), (1, .int (iI x1)), (2, .long (iL x2)), (4, .ref a3)]) ok dL_runScript_14 (by decide) rfl ?_
      refine j_iconst (pc := 16) ok dL_runScript_16 ?_
      obtain rfl := Option.some.inj h
      exact fin _ 17 dL_runScript_17
    · rw [if_neg ht0] at h
      cases h
def f_L_simulate (a3N : Nat) (a0_now_size : Int) (a0_now_caret : Int) (a0_now_from : Int) (a0_trial_size : Int) (a0_trial_caret : Int) (a0_trial_from : Int) (a0_writer_length : Int) (a0_now_marksF : (Nat → Int)) (a0_trial_marksF : (Nat → Int)) (a0_writer_bracketedF : (Nat → Int)) (a0_writer_signsF : (Nat → Int)) (a3F : (Nat → Int)) (x1 : Int) (x2 : Int) : Option (Int × Int × Int × Int × Int × (Nat → Int) × (Nat → Int) × (Nat → Int) × (Nat → Int)) := bd (f_X7_simulate a0_now_size a0_now_caret a0_now_from a0_trial_size a0_trial_caret a0_trial_from a0_writer_length a0_now_marksF a0_trial_marksF a0_writer_bracketedF a0_writer_signsF x1 x2) (fun r1 => tg1 r1.1 1 (gR r1.2.1 (gIn 0 a3N (some (0, r1.2.2.1, r1.2.2.2.1, r1.2.2.2.2.1, r1.2.2.2.2.2.1, r1.2.2.2.2.2.2.1, r1.2.2.2.2.2.2.2.1, r1.2.2.2.2.2.2.2.2, va_up a3F (0 : Int).toNat r1.2.1)))) (some (1, r1.2.2.1, r1.2.2.2.1, r1.2.2.2.2.1, r1.2.2.2.2.2.1, r1.2.2.2.2.2.2.1, r1.2.2.2.2.2.2.2.1, r1.2.2.2.2.2.2.2.2, a3F)))
set_option maxRecDepth 100000 in
set_option maxHeartbeats 4000000 in
theorem k_L_simulate {D : va_G} {cs : q_CS} {a0 a0_now a0_trial a0_firstKeep a0_secondKeep a0_history a0_clipboard a0_reader a0_writer a0_picture a0_now_marks a0_trial_marks a0_writer_signs a0_writer_bracketed a3 : Nat} {a3N : Nat} {a0_now_size a0_now_caret a0_now_from a0_trial_size a0_trial_caret a0_trial_from a0_writer_length : Int} {a0_now_marksF a0_trial_marksF a0_writer_bracketedF a0_writer_signsF a3F : (Nat → Int)} {x1 x2 : Int} {r : (Int × Int × Int × Int × Int × (Nat → Int) × (Nat → Int) × (Nat → Int) × (Nat → Int))} (h : f_L_simulate a3N a0_now_size a0_now_caret a0_now_from a0_trial_size a0_trial_caret a0_trial_from a0_writer_length a0_now_marksF a0_trial_marksF a0_writer_bracketedF a0_writer_signsF a3F x1 x2 = some r) : q_Mh D cs yL_simulate cL_simulate 6 [(0, 11, 14, 13)] 7 157 [.ref a0, .long (iL x1), .int (iI x2), .ref a3] [(a0, .inr (7, [.ref a0_now, .ref a0_trial, .ref a0_firstKeep, .ref a0_secondKeep, .ref a0_history, .ref a0_clipboard, .ref a0_reader, .ref a0_writer, .ref a0_picture])), (a0_now, .inr (0, [.ref a0_now_marks, .int (iI a0_now_size), .int (iI a0_now_caret), .int (iI a0_now_from)])), (a0_trial, .inr (0, [.ref a0_trial_marks, .int (iI a0_trial_size), .int (iI a0_trial_caret), .int (iI a0_trial_from)])), (a0_writer, .inr (6, [.ref a0_writer_signs, .int (iI a0_writer_length), .ref a0_writer_bracketed])), (a0_now_marks, .inl (cs.1, 180, .inl (aI a0_now_marksF))), (a0_trial_marks, .inl (cs.1, 180, .inl (aI a0_trial_marksF))), (a0_writer_bracketed, .inl (cs.2.1, 6, .inl (aI a0_writer_bracketedF))), (a0_writer_signs, .inl (cs.1, 300, .inl (aI a0_writer_signsF))), (a3, .inl (cs.2.2.2, a3N, .inr (.inl (aL a3F))))] r.1 [(a0, .inr (7, [.ref a0_now, .ref a0_trial, .ref a0_firstKeep, .ref a0_secondKeep, .ref a0_history, .ref a0_clipboard, .ref a0_reader, .ref a0_writer, .ref a0_picture])), (a0_now, .inr (0, [.ref a0_now_marks, .int (iI a0_now_size), .int (iI a0_now_caret), .int (iI a0_now_from)])), (a0_trial, .inr (0, [.ref a0_trial_marks, .int (iI r.2.1), .int (iI r.2.2.1), .int (iI r.2.2.2.1)])), (a0_writer, .inr (6, [.ref a0_writer_signs, .int (iI r.2.2.2.2.1), .ref a0_writer_bracketed])), (a0_now_marks, .inl (cs.1, 180, .inl (aI a0_now_marksF))), (a0_trial_marks, .inl (cs.1, 180, .inl (aI r.2.2.2.2.2.1))), (a0_writer_bracketed, .inl (cs.2.1, 6, .inl (aI r.2.2.2.2.2.2.1))), (a0_writer_signs, .inl (cs.1, 300, .inl (aI r.2.2.2.2.2.2.2.1))), (a3, .inl (cs.2.2.2, a3N, .inr (.inl (aL r.2.2.2.2.2.2.2.2))))] := by
  refine q_starth [⟨0, 11, 14, 13⟩] [(0, .ref a0), (1, .long (iL x1)), (3, .int (iI x2)), (4, .ref a3)] RL rfl (by decide +kernel) rfl rfl (Nat.le_of_ble_eq_true rfl) (q_in 1113 (by decide +kernel) (by decide +kernel)) (fun κ ok kx fin => ?_)
  unfold f_L_simulate at h
  refine j_aload (pc := 0) 3 ok dL_simulate_0 rfl ?_
  refine j_iconst (pc := 2) ok dL_simulate_2 ?_
  refine j_aload_n (pc := 3) 0 ok dL_simulate_3 rfl rfl ?_
  refine j_lload_n (pc := 4) 1 ok dL_simulate_4 rfl rfl ?_
  refine j_iload_n (pc := 5) 2 ok dL_simulate_5 rfl rfl ?_
  obtain ⟨r1, hr1, h⟩ := bd_inv h
  unfold tg1 at h
  refine j_callX (pc := 6) ok kx (k_X7_simulate (a0 := a0) (a0_now := a0_now) (a0_trial := a0_trial) (a0_firstKeep := a0_firstKeep) (a0_secondKeep := a0_secondKeep) (a0_history := a0_history) (a0_clipboard := a0_clipboard) (a0_reader := a0_reader) (a0_writer := a0_writer) (a0_picture := a0_picture) (a0_now_marks := a0_now_marks) (a0_trial_marks := a0_trial_marks) (a0_writer_signs := a0_writer_signs) (a0_writer_bracketed := a0_writer_bracketed) (a0_now_size := a0_now_size) (a0_now_caret := a0_now_caret) (a0_now_from := a0_now_from) (a0_trial_size := a0_trial_size) (a0_trial_caret := a0_trial_caret) (a0_trial_from := a0_trial_from) (a0_writer_length := a0_writer_length) (a0_now_marksF := a0_now_marksF) (a0_trial_marksF := a0_trial_marksF) (a0_writer_bracketedF := a0_writer_bracketedF) (a0_writer_signsF := a0_writer_signsF) (x1 := x1) (x2 := x2) hr1) gV_L_80 ⟨rfl, hd_X7_simulate⟩ [0, 1, 2, 3, 4, 5, 6, 7] (by decide) rfl rfl 0 rfl rfl rfl rfl ⟨Nat.le_of_ble_eq_true rfl, Nat.le_of_ble_eq_true rfl⟩ (Nat.le_of_ble_eq_true rfl) dL_simulate_6 rfl [(a0, .inr (7, [.ref a0_now, .ref a0_trial, .ref a0_firstKeep, .ref a0_secondKeep, .ref a0_history, .ref a0_clipboard, .ref a0_reader, .ref a0_writer, .ref a0_picture])), (a0_now, .inr (0, [.ref a0_now_marks, .int (iI a0_now_size), .int (iI a0_now_caret), .int (iI a0_now_from)])), (a0_trial, .inr (0, [.ref a0_trial_marks, .int (iI r1.2.2.1), .int (iI r1.2.2.2.1), .int (iI r1.2.2.2.2.1)])), (a0_writer, .inr (6, [.ref a0_writer_signs, .int (iI r1.2.2.2.2.2.1), .ref a0_writer_bracketed])), (a0_now_marks, .inl (cs.1, 180, .inl (aI a0_now_marksF))), (a0_trial_marks, .inl (cs.1, 180, .inl (aI r1.2.2.2.2.2.2.1))), (a0_writer_bracketed, .inl (cs.2.1, 6, .inl (aI r1.2.2.2.2.2.2.2.1))), (a0_writer_signs, .inl (cs.1, 300, .inl (aI r1.2.2.2.2.2.2.2.2))), (a3, .inl (cs.2.2.2, a3N, .inr (.inl (aL a3F))))] rfl (fun ht => ?_) (fun E hE => ?_)
  · rw [if_pos ht] at h
    refine j_i2l (pc := 9) ok dL_simulate_9 h (fun h => ?_)
    refine j_lastw (pc := 10) 8 ok rfl dL_simulate_10 h [(a0, .inr (7, [.ref a0_now, .ref a0_trial, .ref a0_firstKeep, .ref a0_secondKeep, .ref a0_history, .ref a0_clipboard, .ref a0_reader, .ref a0_writer, .ref a0_picture])), (a0_now, .inr (0, [.ref a0_now_marks, .int (iI a0_now_size), .int (iI a0_now_caret), .int (iI a0_now_from)])), (a0_trial, .inr (0, [.ref a0_trial_marks, .int (iI r1.2.2.1), .int (iI r1.2.2.2.1), .int (iI r1.2.2.2.2.1)])), (a0_writer, .inr (6, [.ref a0_writer_signs, .int (iI r1.2.2.2.2.2.1), .ref a0_writer_bracketed])), (a0_now_marks, .inl (cs.1, 180, .inl (aI a0_now_marksF))), (a0_trial_marks, .inl (cs.1, 180, .inl (aI r1.2.2.2.2.2.2.1))), (a0_writer_bracketed, .inl (cs.2.1, 6, .inl (aI r1.2.2.2.2.2.2.2.1))), (a0_writer_signs, .inl (cs.1, 300, .inl (aI r1.2.2.2.2.2.2.2.2))), (a3, .inl (cs.2.2.2, a3N, .inr (.inl (aL (va_up a3F (0 : Int).toNat r1.2.1)))))] rfl (fun h => ?_)
    refine j_goto (pc := 11) 18 ok dL_simulate_11 (by decide) ?_
    refine j_iconst (pc := 18) ok dL_simulate_18 ?_
    obtain rfl := Option.some.inj h
    exact fin _ 19 dL_simulate_19
  · have hn0 : ¬ r1.1 = 0 := fun z => by rw [z] at hE; cases hE
    rw [if_neg hn0] at h
    by_cases ht0 : r1.1 = 1
    · rw [if_pos ht0] at h
      rw [ht0] at hE
      obtain rfl := Option.some.inj hE
      refine ⟨[], ⟨0, 11, 14, 13⟩, [], rfl, fun z hz => absurd hz List.not_mem_nil, by decide, by decide, q_in 524 (by decide +kernel) (by decide +kernel), by decide, fun q9 => ?_⟩
      refine j_eq (pc' := 14) rfl rfl rfl rfl ?_
      refine j_astore (pc := 14) (lv' := [(5, .ref q9), (0, .ref a0), (1, .long (iL x1)), (3, .int (iI x2)), (4, .ref a3)]) ok dL_simulate_14 (by decide) rfl ?_
      refine j_iconst (pc := 16) ok dL_simulate_16 ?_
      obtain rfl := Option.some.inj h
      exact fin _ 17 dL_simulate_17
    · rw [if_neg ht0] at h
      cases h
def f_L_save (a2N : Nat) (a0_firstKeep_filled : Int) (a0_now_size : Int) (a0_now_caret : Int) (a0_now_from : Int) (a0_secondKeep_filled : Int) (a0_firstKeep_formula_size : Int) (a0_firstKeep_formula_caret : Int) (a0_firstKeep_formula_from : Int) (a0_now_marksF : (Nat → Int)) (a0_secondKeep_formula_size : Int) (a0_secondKeep_formula_caret : Int) (a0_secondKeep_formula_from : Int) (a0_firstKeep_formula_marksF : (Nat → Int)) (a0_secondKeep_formula_marksF : (Nat → Int)) (a2F : (Nat → Int)) (x1 : Int) : Option (Int × Int × Int × Int × Int × Int × Int × Int × Int × (Nat → Int) × (Nat → Int) × (Nat → Int)) := bd (f_X7_save a0_firstKeep_filled a0_now_size a0_now_caret a0_now_from a0_secondKeep_filled a0_firstKeep_formula_size a0_firstKeep_formula_caret a0_firstKeep_formula_from a0_now_marksF a0_secondKeep_formula_size a0_secondKeep_formula_caret a0_secondKeep_formula_from a0_firstKeep_formula_marksF a0_secondKeep_formula_marksF x1) (fun r1 => tg1 r1.1 3 (gR r1.2.1 (gIn 0 a2N (some (0, r1.2.2.1, r1.2.2.2.1, r1.2.2.2.2.1, r1.2.2.2.2.2.1, r1.2.2.2.2.2.2.1, r1.2.2.2.2.2.2.2.1, r1.2.2.2.2.2.2.2.2.1, r1.2.2.2.2.2.2.2.2.2.1, r1.2.2.2.2.2.2.2.2.2.2.1, r1.2.2.2.2.2.2.2.2.2.2.2, va_up a2F (0 : Int).toNat r1.2.1)))) (some (1, r1.2.2.1, r1.2.2.2.1, r1.2.2.2.2.1, r1.2.2.2.2.2.1, r1.2.2.2.2.2.2.1, r1.2.2.2.2.2.2.2.1, r1.2.2.2.2.2.2.2.2.1, r1.2.2.2.2.2.2.2.2.2.1, r1.2.2.2.2.2.2.2.2.2.2.1, r1.2.2.2.2.2.2.2.2.2.2.2, a2F)))
set_option maxRecDepth 100000 in
set_option maxHeartbeats 4000000 in
theorem k_L_save {D : va_G} {cs : q_CS} {a0 a0_now a0_trial a0_firstKeep a0_secondKeep a0_history a0_clipboard a0_reader a0_writer a0_picture a0_firstKeep_formula a0_now_marks a0_secondKeep_formula a0_firstKeep_formula_marks a0_secondKeep_formula_marks a2 : Nat} {a2N : Nat} {a0_firstKeep_filled a0_now_size a0_now_caret a0_now_from a0_secondKeep_filled a0_firstKeep_formula_size a0_firstKeep_formula_caret a0_firstKeep_formula_from a0_secondKeep_formula_size a0_secondKeep_formula_caret a0_secondKeep_formula_from : Int} {a0_now_marksF a0_firstKeep_formula_marksF a0_secondKeep_formula_marksF a2F : (Nat → Int)} {x1 : Int} {r : (Int × Int × Int × Int × Int × Int × Int × Int × Int × (Nat → Int) × (Nat → Int) × (Nat → Int))} (h : f_L_save a2N a0_firstKeep_filled a0_now_size a0_now_caret a0_now_from a0_secondKeep_filled a0_firstKeep_formula_size a0_firstKeep_formula_caret a0_firstKeep_formula_from a0_now_marksF a0_secondKeep_formula_size a0_secondKeep_formula_caret a0_secondKeep_formula_from a0_firstKeep_formula_marksF a0_secondKeep_formula_marksF a2F x1 = some r) : q_Mh D cs yL_save cL_save 4 [(0, 9, 12, 28)] 7 104 [.ref a0, .int (iI x1), .ref a2] [(a0, .inr (7, [.ref a0_now, .ref a0_trial, .ref a0_firstKeep, .ref a0_secondKeep, .ref a0_history, .ref a0_clipboard, .ref a0_reader, .ref a0_writer, .ref a0_picture])), (a0_firstKeep, .inr (2, [.ref a0_firstKeep_formula, .int (iI a0_firstKeep_filled)])), (a0_now, .inr (0, [.ref a0_now_marks, .int (iI a0_now_size), .int (iI a0_now_caret), .int (iI a0_now_from)])), (a0_secondKeep, .inr (2, [.ref a0_secondKeep_formula, .int (iI a0_secondKeep_filled)])), (a0_firstKeep_formula, .inr (0, [.ref a0_firstKeep_formula_marks, .int (iI a0_firstKeep_formula_size), .int (iI a0_firstKeep_formula_caret), .int (iI a0_firstKeep_formula_from)])), (a0_now_marks, .inl (cs.1, 180, .inl (aI a0_now_marksF))), (a0_secondKeep_formula, .inr (0, [.ref a0_secondKeep_formula_marks, .int (iI a0_secondKeep_formula_size), .int (iI a0_secondKeep_formula_caret), .int (iI a0_secondKeep_formula_from)])), (a0_firstKeep_formula_marks, .inl (cs.1, 180, .inl (aI a0_firstKeep_formula_marksF))), (a0_secondKeep_formula_marks, .inl (cs.1, 180, .inl (aI a0_secondKeep_formula_marksF))), (a2, .inl (cs.2.2.2, a2N, .inr (.inl (aL a2F))))] r.1 [(a0, .inr (7, [.ref a0_now, .ref a0_trial, .ref a0_firstKeep, .ref a0_secondKeep, .ref a0_history, .ref a0_clipboard, .ref a0_reader, .ref a0_writer, .ref a0_picture])), (a0_firstKeep, .inr (2, [.ref a0_firstKeep_formula, .int (iI r.2.1)])), (a0_now, .inr (0, [.ref a0_now_marks, .int (iI a0_now_size), .int (iI a0_now_caret), .int (iI a0_now_from)])), (a0_secondKeep, .inr (2, [.ref a0_secondKeep_formula, .int (iI r.2.2.1)])), (a0_firstKeep_formula, .inr (0, [.ref a0_firstKeep_formula_marks, .int (iI r.2.2.2.1), .int (iI r.2.2.2.2.1), .int (iI r.2.2.2.2.2.1)])), (a0_now_marks, .inl (cs.1, 180, .inl (aI a0_now_marksF))), (a0_secondKeep_formula, .inr (0, [.ref a0_secondKeep_formula_marks, .int (iI r.2.2.2.2.2.2.1), .int (iI r.2.2.2.2.2.2.2.1), .int (iI r.2.2.2.2.2.2.2.2.1)])), (a0_firstKeep_formula_marks, .inl (cs.1, 180, .inl (aI r.2.2.2.2.2.2.2.2.2.1))), (a0_secondKeep_formula_marks, .inl (cs.1, 180, .inl (aI r.2.2.2.2.2.2.2.2.2.2.1))), (a2, .inl (cs.2.2.2, a2N, .inr (.inl (aL r.2.2.2.2.2.2.2.2.2.2.2))))] := by
  refine q_starth [⟨0, 9, 12, 28⟩] [(0, .ref a0), (1, .int (iI x1)), (2, .ref a2)] RL rfl (by decide +kernel) rfl rfl (Nat.le_of_ble_eq_true rfl) (q_in 1127 (by decide +kernel) (by decide +kernel)) (fun κ ok kx fin => ?_)
  unfold f_L_save at h
  refine j_aload_n (pc := 0) 2 ok dL_save_0 rfl rfl ?_
  refine j_iconst (pc := 1) ok dL_save_1 ?_
  refine j_aload_n (pc := 2) 0 ok dL_save_2 rfl rfl ?_
  refine j_iload_n (pc := 3) 1 ok dL_save_3 rfl rfl ?_
  obtain ⟨r1, hr1, h⟩ := bd_inv h
  unfold tg1 at h
  refine j_callX (pc := 4) ok kx (k_X7_save (a0 := a0) (a0_now := a0_now) (a0_trial := a0_trial) (a0_firstKeep := a0_firstKeep) (a0_secondKeep := a0_secondKeep) (a0_history := a0_history) (a0_clipboard := a0_clipboard) (a0_reader := a0_reader) (a0_writer := a0_writer) (a0_picture := a0_picture) (a0_firstKeep_formula := a0_firstKeep_formula) (a0_now_marks := a0_now_marks) (a0_secondKeep_formula := a0_secondKeep_formula) (a0_firstKeep_formula_marks := a0_firstKeep_formula_marks) (a0_secondKeep_formula_marks := a0_secondKeep_formula_marks) (a0_firstKeep_filled := a0_firstKeep_filled) (a0_now_size := a0_now_size) (a0_now_caret := a0_now_caret) (a0_now_from := a0_now_from) (a0_secondKeep_filled := a0_secondKeep_filled) (a0_firstKeep_formula_size := a0_firstKeep_formula_size) (a0_firstKeep_formula_caret := a0_firstKeep_formula_caret) (a0_firstKeep_formula_from := a0_firstKeep_formula_from) (a0_now_marksF := a0_now_marksF) (a0_secondKeep_formula_size := a0_secondKeep_formula_size) (a0_secondKeep_formula_caret := a0_secondKeep_formula_caret) (a0_secondKeep_formula_from := a0_secondKeep_formula_from) (a0_firstKeep_formula_marksF := a0_firstKeep_formula_marksF) (a0_secondKeep_formula_marksF := a0_secondKeep_formula_marksF) (x1 := x1) hr1) gV_L_84 ⟨rfl, hd_X7_save⟩ [0, 1, 2, 3, 4, 5, 6, 7, 8] (by decide) rfl rfl 0 rfl rfl rfl rfl ⟨Nat.le_of_ble_eq_true rfl, Nat.le_of_ble_eq_true rfl⟩ (Nat.le_of_ble_eq_true rfl) dL_save_4 rfl [(a0, .inr (7, [.ref a0_now, .ref a0_trial, .ref a0_firstKeep, .ref a0_secondKeep, .ref a0_history, .ref a0_clipboard, .ref a0_reader, .ref a0_writer, .ref a0_picture])), (a0_firstKeep, .inr (2, [.ref a0_firstKeep_formula, .int (iI r1.2.2.1)])), (a0_now, .inr (0, [.ref a0_now_marks, .int (iI a0_now_size), .int (iI a0_now_caret), .int (iI a0_now_from)])), (a0_secondKeep, .inr (2, [.ref a0_secondKeep_formula, .int (iI r1.2.2.2.1)])), (a0_firstKeep_formula, .inr (0, [.ref a0_firstKeep_formula_marks, .int (iI r1.2.2.2.2.1), .int (iI r1.2.2.2.2.2.1), .int (iI r1.2.2.2.2.2.2.1)])), (a0_now_marks, .inl (cs.1, 180, .inl (aI a0_now_marksF))), (a0_secondKeep_formula, .inr (0, [.ref a0_secondKeep_formula_marks, .int (iI r1.2.2.2.2.2.2.2.1), .int (iI r1.2.2.2.2.2.2.2.2.1), .int (iI r1.2.2.2.2.2.2.2.2.2.1)])), (a0_firstKeep_formula_marks, .inl (cs.1, 180, .inl (aI r1.2.2.2.2.2.2.2.2.2.2.1))), (a0_secondKeep_formula_marks, .inl (cs.1, 180, .inl (aI r1.2.2.2.2.2.2.2.2.2.2.2))), (a2, .inl (cs.2.2.2, a2N, .inr (.inl (aL a2F))))] rfl (fun ht => ?_) (fun E hE => ?_)
  · rw [if_pos ht] at h
    refine j_i2l (pc := 7) ok dL_save_7 h (fun h => ?_)
    refine j_lastw (pc := 8) 9 ok rfl dL_save_8 h [(a0, .inr (7, [.ref a0_now, .ref a0_trial, .ref a0_firstKeep, .ref a0_secondKeep, .ref a0_history, .ref a0_clipboard, .ref a0_reader, .ref a0_writer, .ref a0_picture])), (a0_firstKeep, .inr (2, [.ref a0_firstKeep_formula, .int (iI r1.2.2.1)])), (a0_now, .inr (0, [.ref a0_now_marks, .int (iI a0_now_size), .int (iI a0_now_caret), .int (iI a0_now_from)])), (a0_secondKeep, .inr (2, [.ref a0_secondKeep_formula, .int (iI r1.2.2.2.1)])), (a0_firstKeep_formula, .inr (0, [.ref a0_firstKeep_formula_marks, .int (iI r1.2.2.2.2.1), .int (iI r1.2.2.2.2.2.1), .int (iI r1.2.2.2.2.2.2.1)])), (a0_now_marks, .inl (cs.1, 180, .inl (aI a0_now_marksF))), (a0_secondKeep_formula, .inr (0, [.ref a0_secondKeep_formula_marks, .int (iI r1.2.2.2.2.2.2.2.1), .int (iI r1.2.2.2.2.2.2.2.2.1), .int (iI r1.2.2.2.2.2.2.2.2.2.1)])), (a0_firstKeep_formula_marks, .inl (cs.1, 180, .inl (aI r1.2.2.2.2.2.2.2.2.2.2.1))), (a0_secondKeep_formula_marks, .inl (cs.1, 180, .inl (aI r1.2.2.2.2.2.2.2.2.2.2.2))), (a2, .inl (cs.2.2.2, a2N, .inr (.inl (aL (va_up a2F (0 : Int).toNat r1.2.1)))))] rfl (fun h => ?_)
    refine j_goto (pc := 9) 15 ok dL_save_9 (by decide) ?_
    refine j_iconst (pc := 15) ok dL_save_15 ?_
    obtain rfl := Option.some.inj h
    exact fin _ 16 dL_save_16
  · have hn0 : ¬ r1.1 = 0 := fun z => by rw [z] at hE; cases hE
    rw [if_neg hn0] at h
    by_cases ht0 : r1.1 = 3
    · rw [if_pos ht0] at h
      rw [ht0] at hE
      obtain rfl := Option.some.inj hE
      refine ⟨[], ⟨0, 9, 12, 28⟩, [], rfl, fun z hz => absurd hz List.not_mem_nil, by decide, by decide, q_in 681 (by decide +kernel) (by decide +kernel), by decide, fun q9 => ?_⟩
      refine j_eq (pc' := 12) rfl rfl rfl rfl ?_
      refine j_astore_n (pc := 12) (lv' := [(3, .ref q9), (0, .ref a0), (1, .int (iI x1)), (2, .ref a2)]) ok dL_save_12 rfl (by decide) rfl ?_
      refine j_iconst (pc := 13) ok dL_save_13 ?_
      obtain rfl := Option.some.inj h
      exact fin _ 14 dL_save_14
    · rw [if_neg ht0] at h
      cases h
def f_L_restore (a2N : Nat) (a0_firstKeep_filled : Int) (a0_history_count : Int) (a0_now_size : Int) (a0_now_caret : Int) (a0_now_from : Int) (a0_secondKeep_filled : Int) (a0_firstKeep_formula_size : Int) (a0_firstKeep_formula_caret : Int) (a0_firstKeep_formula_from : Int) (a0_now_marksF : (Nat → Int)) (a0_secondKeep_formula_size : Int) (a0_secondKeep_formula_caret : Int) (a0_secondKeep_formula_from : Int) (a0_firstKeep_formula_marksF : (Nat → Int)) (a0_secondKeep_formula_marksF : (Nat → Int)) (a2F : (Nat → Int)) (x1 : Int) : Option (Int × Int × Int × Int × Int × (Nat → Int) × (Nat → Int)) := bd (f_X7_restore a0_firstKeep_filled a0_history_count a0_now_size a0_now_caret a0_now_from a0_secondKeep_filled a0_firstKeep_formula_size a0_firstKeep_formula_caret a0_firstKeep_formula_from a0_now_marksF a0_secondKeep_formula_size a0_secondKeep_formula_caret a0_secondKeep_formula_from a0_firstKeep_formula_marksF a0_secondKeep_formula_marksF x1) (fun r1 => tg2 r1.1 3 2 (gR r1.2.1 (gIn 0 a2N (some (0, r1.2.2.1, r1.2.2.2.1, r1.2.2.2.2.1, r1.2.2.2.2.2.1, r1.2.2.2.2.2.2, va_up a2F (0 : Int).toNat r1.2.1)))) (some (1, r1.2.2.1, r1.2.2.2.1, r1.2.2.2.2.1, r1.2.2.2.2.2.1, r1.2.2.2.2.2.2, a2F)) (some (2, r1.2.2.1, r1.2.2.2.1, r1.2.2.2.2.1, r1.2.2.2.2.2.1, r1.2.2.2.2.2.2, a2F)))
set_option maxRecDepth 100000 in
set_option maxHeartbeats 4000000 in
theorem k_L_restore {D : va_G} {cs : q_CS} {a0 a0_now a0_trial a0_firstKeep a0_secondKeep a0_history a0_clipboard a0_reader a0_writer a0_picture a0_firstKeep_formula a0_history_ring a0_now_marks a0_secondKeep_formula a0_firstKeep_formula_marks a0_secondKeep_formula_marks a2 : Nat} {a2N : Nat} {a0_firstKeep_filled a0_history_oldest a0_history_count a0_now_size a0_now_caret a0_now_from a0_secondKeep_filled a0_firstKeep_formula_size a0_firstKeep_formula_caret a0_firstKeep_formula_from a0_secondKeep_formula_size a0_secondKeep_formula_caret a0_secondKeep_formula_from : Int} {a0_now_marksF a0_firstKeep_formula_marksF a0_secondKeep_formula_marksF a2F : (Nat → Int)} {x1 : Int} {r : (Int × Int × Int × Int × Int × (Nat → Int) × (Nat → Int))} (h : f_L_restore a2N a0_firstKeep_filled a0_history_count a0_now_size a0_now_caret a0_now_from a0_secondKeep_filled a0_firstKeep_formula_size a0_firstKeep_formula_caret a0_firstKeep_formula_from a0_now_marksF a0_secondKeep_formula_size a0_secondKeep_formula_caret a0_secondKeep_formula_from a0_firstKeep_formula_marksF a0_secondKeep_formula_marksF a2F x1 = some r) : q_Mh D cs yL_restore cL_restore 4 [(0, 9, 12, 28), (0, 9, 15, 15)] 7 104 [.ref a0, .int (iI x1), .ref a2] [(a0, .inr (7, [.ref a0_now, .ref a0_trial, .ref a0_firstKeep, .ref a0_secondKeep, .ref a0_history, .ref a0_clipboard, .ref a0_reader, .ref a0_writer, .ref a0_picture])), (a0_firstKeep, .inr (2, [.ref a0_firstKeep_formula, .int (iI a0_firstKeep_filled)])), (a0_history, .inr (1, [.ref a0_history_ring, .int (iI a0_history_oldest), .int (iI a0_history_count)])), (a0_now, .inr (0, [.ref a0_now_marks, .int (iI a0_now_size), .int (iI a0_now_caret), .int (iI a0_now_from)])), (a0_secondKeep, .inr (2, [.ref a0_secondKeep_formula, .int (iI a0_secondKeep_filled)])), (a0_firstKeep_formula, .inr (0, [.ref a0_firstKeep_formula_marks, .int (iI a0_firstKeep_formula_size), .int (iI a0_firstKeep_formula_caret), .int (iI a0_firstKeep_formula_from)])), (a0_now_marks, .inl (cs.1, 180, .inl (aI a0_now_marksF))), (a0_secondKeep_formula, .inr (0, [.ref a0_secondKeep_formula_marks, .int (iI a0_secondKeep_formula_size), .int (iI a0_secondKeep_formula_caret), .int (iI a0_secondKeep_formula_from)])), (a0_firstKeep_formula_marks, .inl (cs.1, 180, .inl (aI a0_firstKeep_formula_marksF))), (a0_secondKeep_formula_marks, .inl (cs.1, 180, .inl (aI a0_secondKeep_formula_marksF))), (a2, .inl (cs.2.2.2, a2N, .inr (.inl (aL a2F))))] r.1 [(a0, .inr (7, [.ref a0_now, .ref a0_trial, .ref a0_firstKeep, .ref a0_secondKeep, .ref a0_history, .ref a0_clipboard, .ref a0_reader, .ref a0_writer, .ref a0_picture])), (a0_firstKeep, .inr (2, [.ref a0_firstKeep_formula, .int (iI a0_firstKeep_filled)])), (a0_history, .inr (1, [.ref a0_history_ring, .int (iI a0_history_oldest), .int (iI r.2.1)])), (a0_now, .inr (0, [.ref a0_now_marks, .int (iI r.2.2.1), .int (iI r.2.2.2.1), .int (iI r.2.2.2.2.1)])), (a0_secondKeep, .inr (2, [.ref a0_secondKeep_formula, .int (iI a0_secondKeep_filled)])), (a0_firstKeep_formula, .inr (0, [.ref a0_firstKeep_formula_marks, .int (iI a0_firstKeep_formula_size), .int (iI a0_firstKeep_formula_caret), .int (iI a0_firstKeep_formula_from)])), (a0_now_marks, .inl (cs.1, 180, .inl (aI r.2.2.2.2.2.1))), (a0_secondKeep_formula, .inr (0, [.ref a0_secondKeep_formula_marks, .int (iI a0_secondKeep_formula_size), .int (iI a0_secondKeep_formula_caret), .int (iI a0_secondKeep_formula_from)])), (a0_firstKeep_formula_marks, .inl (cs.1, 180, .inl (aI a0_firstKeep_formula_marksF))), (a0_secondKeep_formula_marks, .inl (cs.1, 180, .inl (aI a0_secondKeep_formula_marksF))), (a2, .inl (cs.2.2.2, a2N, .inr (.inl (aL r.2.2.2.2.2.2))))] := by
  refine q_starth [⟨0, 9, 12, 28⟩, ⟨0, 9, 15, 15⟩] [(0, .ref a0), (1, .int (iI x1)), (2, .ref a2)] RL rfl (by decide +kernel) rfl rfl (Nat.le_of_ble_eq_true rfl) (q_in 1135 (by decide +kernel) (by decide +kernel)) (fun κ ok kx fin => ?_)
  unfold f_L_restore at h
  refine j_aload_n (pc := 0) 2 ok dL_restore_0 rfl rfl ?_
  refine j_iconst (pc := 1) ok dL_restore_1 ?_
  refine j_aload_n (pc := 2) 0 ok dL_restore_2 rfl rfl ?_
  refine j_iload_n (pc := 3) 1 ok dL_restore_3 rfl rfl ?_
  obtain ⟨r1, hr1, h⟩ := bd_inv h
  unfold tg2 at h
  refine j_callX (pc := 4) ok kx (k_X7_restore (a0 := a0) (a0_now := a0_now) (a0_trial := a0_trial) (a0_firstKeep := a0_firstKeep) (a0_secondKeep := a0_secondKeep) (a0_history := a0_history) (a0_clipboard := a0_clipboard) (a0_reader := a0_reader) (a0_writer := a0_writer) (a0_picture := a0_picture) (a0_firstKeep_formula := a0_firstKeep_formula) (a0_history_ring := a0_history_ring) (a0_now_marks := a0_now_marks) (a0_secondKeep_formula := a0_secondKeep_formula) (a0_firstKeep_formula_marks := a0_firstKeep_formula_marks) (a0_secondKeep_formula_marks := a0_secondKeep_formula_marks) (a0_firstKeep_filled := a0_firstKeep_filled) (a0_history_oldest := a0_history_oldest) (a0_history_count := a0_history_count) (a0_now_size := a0_now_size) (a0_now_caret := a0_now_caret) (a0_now_from := a0_now_from) (a0_secondKeep_filled := a0_secondKeep_filled) (a0_firstKeep_formula_size := a0_firstKeep_formula_size) (a0_firstKeep_formula_caret := a0_firstKeep_formula_caret) (a0_firstKeep_formula_from := a0_firstKeep_formula_from) (a0_now_marksF := a0_now_marksF) (a0_secondKeep_formula_size := a0_secondKeep_formula_size) (a0_secondKeep_formula_caret := a0_secondKeep_formula_caret) (a0_secondKeep_formula_from := a0_secondKeep_formula_from) (a0_firstKeep_formula_marksF := a0_firstKeep_formula_marksF) (a0_secondKeep_formula_marksF := a0_secondKeep_formula_marksF) (x1 := x1) hr1) gV_L_87 ⟨rfl, hd_X7_restore⟩ [0, 1, 2, 3, 4, 5, 6, 7, 8, 9] (by decide) rfl rfl 0 rfl rfl rfl rfl ⟨Nat.le_of_ble_eq_true rfl, Nat.le_of_ble_eq_true rfl⟩ (Nat.le_of_ble_eq_true rfl) dL_restore_4 rfl [(a0, .inr (7, [.ref a0_now, .ref a0_trial, .ref a0_firstKeep, .ref a0_secondKeep, .ref a0_history, .ref a0_clipboard, .ref a0_reader, .ref a0_writer, .ref a0_picture])), (a0_firstKeep, .inr (2, [.ref a0_firstKeep_formula, .int (iI a0_firstKeep_filled)])), (a0_history, .inr (1, [.ref a0_history_ring, .int (iI a0_history_oldest), .int (iI r1.2.2.1)])), (a0_now, .inr (0, [.ref a0_now_marks, .int (iI r1.2.2.2.1), .int (iI r1.2.2.2.2.1), .int (iI r1.2.2.2.2.2.1)])), (a0_secondKeep, .inr (2, [.ref a0_secondKeep_formula, .int (iI a0_secondKeep_filled)])), (a0_firstKeep_formula, .inr (0, [.ref a0_firstKeep_formula_marks, .int (iI a0_firstKeep_formula_size), .int (iI a0_firstKeep_formula_caret), .int (iI a0_firstKeep_formula_from)])), (a0_now_marks, .inl (cs.1, 180, .inl (aI r1.2.2.2.2.2.2))), (a0_secondKeep_formula, .inr (0, [.ref a0_secondKeep_formula_marks, .int (iI a0_secondKeep_formula_size), .int (iI a0_secondKeep_formula_caret), .int (iI a0_secondKeep_formula_from)])), (a0_firstKeep_formula_marks, .inl (cs.1, 180, .inl (aI a0_firstKeep_formula_marksF))), (a0_secondKeep_formula_marks, .inl (cs.1, 180, .inl (aI a0_secondKeep_formula_marksF))), (a2, .inl (cs.2.2.2, a2N, .inr (.inl (aL a2F))))] rfl (fun ht => ?_) (fun E hE => ?_)
  · rw [if_pos ht] at h
    refine j_i2l (pc := 7) ok dL_restore_7 h (fun h => ?_)
    refine j_lastw (pc := 8) 10 ok rfl dL_restore_8 h [(a0, .inr (7, [.ref a0_now, .ref a0_trial, .ref a0_firstKeep, .ref a0_secondKeep, .ref a0_history, .ref a0_clipboard, .ref a0_reader, .ref a0_writer, .ref a0_picture])), (a0_firstKeep, .inr (2, [.ref a0_firstKeep_formula, .int (iI a0_firstKeep_filled)])), (a0_history, .inr (1, [.ref a0_history_ring, .int (iI a0_history_oldest), .int (iI r1.2.2.1)])), (a0_now, .inr (0, [.ref a0_now_marks, .int (iI r1.2.2.2.1), .int (iI r1.2.2.2.2.1), .int (iI r1.2.2.2.2.2.1)])), (a0_secondKeep, .inr (2, [.ref a0_secondKeep_formula, .int (iI a0_secondKeep_filled)])), (a0_firstKeep_formula, .inr (0, [.ref a0_firstKeep_formula_marks, .int (iI a0_firstKeep_formula_size), .int (iI a0_firstKeep_formula_caret), .int (iI a0_firstKeep_formula_from)])), (a0_now_marks, .inl (cs.1, 180, .inl (aI r1.2.2.2.2.2.2))), (a0_secondKeep_formula, .inr (0, [.ref a0_secondKeep_formula_marks, .int (iI a0_secondKeep_formula_size), .int (iI a0_secondKeep_formula_caret), .int (iI a0_secondKeep_formula_from)])), (a0_firstKeep_formula_marks, .inl (cs.1, 180, .inl (aI a0_firstKeep_formula_marksF))), (a0_secondKeep_formula_marks, .inl (cs.1, 180, .inl (aI a0_secondKeep_formula_marksF))), (a2, .inl (cs.2.2.2, a2N, .inr (.inl (aL (va_up a2F (0 : Int).toNat r1.2.1)))))] rfl (fun h => ?_)
    refine j_goto (pc := 9) 18 ok dL_restore_9 (by decide) ?_
    refine j_iconst (pc := 18) ok dL_restore_18 ?_
    obtain rfl := Option.some.inj h
    exact fin _ 19 dL_restore_19
  · have hn0 : ¬ r1.1 = 0 := fun z => by rw [z] at hE; cases hE
    rw [if_neg hn0] at h
    by_cases ht0 : r1.1 = 3
    · rw [if_pos ht0] at h
      rw [ht0] at hE
      obtain rfl := Option.some.inj hE
      refine ⟨[], ⟨0, 9, 12, 28⟩, [⟨0, 9, 15, 15⟩], rfl, fun z hz => absurd hz List.not_mem_nil, by decide, by decide, q_in 681 (by decide +kernel) (by decide +kernel), by decide, fun q9 => ?_⟩
      refine j_eq (pc' := 12) rfl rfl rfl rfl ?_
      refine j_astore_n (pc := 12) (lv' := [(3, .ref q9), (0, .ref a0), (1, .int (iI x1)), (2, .ref a2)]) ok dL_restore_12 rfl (by decide) rfl ?_
      refine j_iconst (pc := 13) ok dL_restore_13 ?_
      obtain rfl := Option.some.inj h
      exact fin _ 14 dL_restore_14
    · rw [if_neg ht0] at h
      by_cases ht1 : r1.1 = 2
      · rw [if_pos ht1] at h
        rw [ht1] at hE
        obtain rfl := Option.some.inj hE
        refine ⟨[⟨0, 9, 12, 28⟩], ⟨0, 9, 15, 15⟩, [], rfl, fun z hz => Or.inr (by obtain rfl := List.mem_singleton.mp hz; exact ⟨by decide, "java/lang/IndexOutOfBoundsException", q_in 681 (by decide +kernel) (by decide +kernel), by decide⟩), by decide, by decide, q_in 525 (by decide +kernel) (by decide +kernel), by decide, fun q9 => ?_⟩
        refine j_eq (pc' := 15) rfl rfl rfl rfl ?_
        refine j_astore_n (pc := 15) (lv' := [(3, .ref q9), (0, .ref a0), (1, .int (iI x1)), (2, .ref a2)]) ok dL_restore_15 rfl (by decide) rfl ?_
        refine j_iconst (pc := 16) ok dL_restore_16 ?_
        obtain rfl := Option.some.inj h
        exact fin _ 17 dL_restore_17
      · rw [if_neg ht1] at h
        cases h
