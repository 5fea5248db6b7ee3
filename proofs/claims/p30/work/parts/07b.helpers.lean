def f_L_tryAppend (a0_reader_length : Int) (a0_reader_signsF : (Nat → Int)) (x1 : Int) : Option (Int × Int × (Nat → Int)) := bd (f_X7_append a0_reader_length a0_reader_signsF x1) (fun r1 => tg2 r1.1 1 2 (some (r1.2.1, r1.2.2.1, r1.2.2.2)) (some ((-1002), r1.2.2.1, r1.2.2.2)) (some ((-1003), r1.2.2.1, r1.2.2.2)))
set_option maxRecDepth 100000 in
set_option maxHeartbeats 4000000 in
theorem k_L_tryAppend {D : va_G} {cs : q_CS} {a0 a0_now a0_trial a0_firstKeep a0_secondKeep a0_history a0_clipboard a0_reader a0_writer a0_picture a0_reader_signs a0_reader_result a0_reader_stack : Nat} {a0_reader_length a0_reader_top a0_reader_state a0_reader_bracket a0_reader_chain a0_reader_factor a0_reader_isUnder a0_reader_isPlain a0_reader_script a0_reader_isBound : Int} {a0_reader_signsF : (Nat → Int)} {x1 : Int} {r : (Int × Int × (Nat → Int))} (h : f_L_tryAppend a0_reader_length a0_reader_signsF x1 = some r) : q_Mh D cs yL_tryAppend cL_tryAppend 3 [(0, 5, 6, 13), (0, 5, 11, 15)] 7 103 1 6 [.ref a0, .int (iI x1)] [(a0, .inr (7, [.ref a0_now, .ref a0_trial, .ref a0_firstKeep, .ref a0_secondKeep, .ref a0_history, .ref a0_clipboard, .ref a0_reader, .ref a0_writer, .ref a0_picture])), (a0_reader, .inr (5, [.ref a0_reader_signs, .int (iI a0_reader_length), .ref a0_reader_result, .ref a0_reader_stack, .int (iI a0_reader_top), .int (iI a0_reader_state), .int (iI a0_reader_bracket), .int (iI a0_reader_chain), .int (iI a0_reader_factor), .int (iI a0_reader_isUnder), .int (iI a0_reader_isPlain), .int (iI a0_reader_script), .int (iI a0_reader_isBound)])), (a0_reader_signs, .inl (cs.1, 120, .inl (aI a0_reader_signsF)))] r.1 [(a0, .inr (7, [.ref a0_now, .ref a0_trial, .ref a0_firstKeep, .ref a0_secondKeep, .ref a0_history, .ref a0_clipboard, .ref a0_reader, .ref a0_writer, .ref a0_picture])), (a0_reader, .inr (5, [.ref a0_reader_signs, .int (iI r.2.1), .ref a0_reader_result, .ref a0_reader_stack, .int (iI a0_reader_top), .int (iI a0_reader_state), .int (iI a0_reader_bracket), .int (iI a0_reader_chain), .int (iI a0_reader_factor), .int (iI a0_reader_isUnder), .int (iI a0_reader_isPlain), .int (iI a0_reader_script), .int (iI a0_reader_isBound)])), (a0_reader_signs, .inl (cs.1, 120, .inl (aI r.2.2)))] := by
  refine q_starth [⟨0, 5, 6, 13⟩, ⟨0, 5, 11, 15⟩] [(0, .ref a0), (1, .int (iI x1))] RL rfl (by decide +kernel) rfl rfl (Nat.le_of_ble_eq_true rfl) (q_in 1114 (by decide +kernel) (by decide +kernel)) (fun κ ok kx fin => ?_)
  unfold f_L_tryAppend at h
  refine j_aload_n (pc := 0) 0 ok dL_tryAppend_0 rfl rfl ?_
  refine j_iload_n (pc := 1) 1 ok dL_tryAppend_1 rfl rfl ?_
  obtain ⟨r1, hr1, h⟩ := bd_inv h
  unfold tg2 at h
  refine j_callX (pc := 2) ok kx (k_X7_append (a0 := a0) (a0_now := a0_now) (a0_trial := a0_trial) (a0_firstKeep := a0_firstKeep) (a0_secondKeep := a0_secondKeep) (a0_history := a0_history) (a0_clipboard := a0_clipboard) (a0_reader := a0_reader) (a0_writer := a0_writer) (a0_picture := a0_picture) (a0_reader_signs := a0_reader_signs) (a0_reader_result := a0_reader_result) (a0_reader_stack := a0_reader_stack) (a0_reader_length := a0_reader_length) (a0_reader_top := a0_reader_top) (a0_reader_state := a0_reader_state) (a0_reader_bracket := a0_reader_bracket) (a0_reader_chain := a0_reader_chain) (a0_reader_factor := a0_reader_factor) (a0_reader_isUnder := a0_reader_isUnder) (a0_reader_isPlain := a0_reader_isPlain) (a0_reader_script := a0_reader_script) (a0_reader_isBound := a0_reader_isBound) (a0_reader_signsF := a0_reader_signsF) (x1 := x1) hr1) gV_L_7 ⟨rfl, hd_X7_append⟩ [0, 1, 2] (by decide) rfl rfl 0 rfl rfl rfl rfl (q_hc1 r1.1) (Nat.le_of_ble_eq_true rfl) dL_tryAppend_2 rfl [(a0, .inr (7, [.ref a0_now, .ref a0_trial, .ref a0_firstKeep, .ref a0_secondKeep, .ref a0_history, .ref a0_clipboard, .ref a0_reader, .ref a0_writer, .ref a0_picture])), (a0_reader, .inr (5, [.ref a0_reader_signs, .int (iI r1.2.2.1), .ref a0_reader_result, .ref a0_reader_stack, .int (iI a0_reader_top), .int (iI a0_reader_state), .int (iI a0_reader_bracket), .int (iI a0_reader_chain), .int (iI a0_reader_factor), .int (iI a0_reader_isUnder), .int (iI a0_reader_isPlain), .int (iI a0_reader_script), .int (iI a0_reader_isBound)])), (a0_reader_signs, .inl (cs.1, 120, .inl (aI r1.2.2.2)))] rfl (fun ht => ?_) (fun E hE => ?_)
  · rw [if_pos ht] at h
    obtain rfl := Option.some.inj h
    exact fin _ _ _ 5 (Nat.le_of_ble_eq_true rfl) (Nat.le_of_ble_eq_true rfl) dL_tryAppend_5
  · have hn0 : ¬ r1.1 = 0 := fun z => by rw [z] at hE; cases hE
    rw [if_neg hn0] at h
    by_cases ht0 : r1.1 = 1
    · rw [if_pos ht0] at h
      rw [ht0] at hE
      obtain rfl := Option.some.inj hE
      refine ⟨[], ⟨0, 5, 6, 13⟩, [⟨0, 5, 11, 15⟩], rfl, fun z hz => absurd hz List.not_mem_nil, by decide, by decide, q_in 814 (by decide +kernel) (by decide +kernel), by decide, fun q9 => ?_⟩
      refine j_eq (pc' := 6) rfl rfl rfl rfl ?_
      refine j_astore_n (pc := 6) (lv' := [(2, .ref q9), (0, .ref a0), (1, .int (iI x1))]) ok dL_tryAppend_6 rfl (by decide) rfl ?_
      refine j_sipush (pc := 7) ok dL_tryAppend_7 (by decide) ?_
      obtain rfl := Option.some.inj h
      exact fin _ _ _ 10 (Nat.le_of_ble_eq_true rfl) (Nat.le_of_ble_eq_true rfl) dL_tryAppend_10
    · rw [if_neg ht0] at h
      by_cases ht1 : r1.1 = 2
      · rw [if_pos ht1] at h
        rw [ht1] at hE
        obtain rfl := Option.some.inj hE
        refine ⟨[⟨0, 5, 6, 13⟩], ⟨0, 5, 11, 15⟩, [], rfl, fun z hz => Or.inr (by obtain rfl := List.mem_singleton.mp hz; exact ⟨by decide, "java/lang/IllegalArgumentException", q_in 814 (by decide +kernel) (by decide +kernel), by decide⟩), by decide, by decide, q_in 457 (by decide +kernel) (by decide +kernel), by decide, fun q9 => ?_⟩
        refine j_eq (pc' := 11) rfl rfl rfl rfl ?_
        refine j_astore_n (pc := 11) (lv' := [(2, .ref q9), (0, .ref a0), (1, .int (iI x1))]) ok dL_tryAppend_11 rfl (by decide) rfl ?_
        refine j_sipush (pc := 12) ok dL_tryAppend_12 (by decide) ?_
        obtain rfl := Option.some.inj h
        exact fin _ _ _ 15 (Nat.le_of_ble_eq_true rfl) (Nat.le_of_ble_eq_true rfl) dL_tryAppend_15
      · rw [if_neg ht1] at h
        cases h
def f_L_tryAppend0 (a0_reader_length : Int) (a0_reader_signsF : (Nat → Int)) (x1 : Int) : Option (Int × Int × (Nat → Int)) := bd (f_X7_append a0_reader_length a0_reader_signsF x1) (fun r1 => tg2 r1.1 1 2 (some (r1.2.1, r1.2.2.1, r1.2.2.2)) (none) (none))
set_option maxRecDepth 100000 in
set_option maxHeartbeats 4000000 in
theorem k_L_tryAppend0 {D : va_G} {cs : q_CS} {a0 a0_now a0_trial a0_firstKeep a0_secondKeep a0_history a0_clipboard a0_reader a0_writer a0_picture a0_reader_signs a0_reader_result a0_reader_stack : Nat} {a0_reader_length a0_reader_top a0_reader_state a0_reader_bracket a0_reader_chain a0_reader_factor a0_reader_isUnder a0_reader_isPlain a0_reader_script a0_reader_isBound : Int} {a0_reader_signsF : (Nat → Int)} {x1 : Int} {r : (Int × Int × (Nat → Int))} (h : f_L_tryAppend0 a0_reader_length a0_reader_signsF x1 = some r) : q_Mh D cs yL_tryAppend cL_tryAppend 3 [(0, 5, 6, 13), (0, 5, 11, 15)] 7 103 0 0 [.ref a0, .int (iI x1)] [(a0, .inr (7, [.ref a0_now, .ref a0_trial, .ref a0_firstKeep, .ref a0_secondKeep, .ref a0_history, .ref a0_clipboard, .ref a0_reader, .ref a0_writer, .ref a0_picture])), (a0_reader, .inr (5, [.ref a0_reader_signs, .int (iI a0_reader_length), .ref a0_reader_result, .ref a0_reader_stack, .int (iI a0_reader_top), .int (iI a0_reader_state), .int (iI a0_reader_bracket), .int (iI a0_reader_chain), .int (iI a0_reader_factor), .int (iI a0_reader_isUnder), .int (iI a0_reader_isPlain), .int (iI a0_reader_script), .int (iI a0_reader_isBound)])), (a0_reader_signs, .inl (cs.1, 120, .inl (aI a0_reader_signsF)))] r.1 [(a0, .inr (7, [.ref a0_now, .ref a0_trial, .ref a0_firstKeep, .ref a0_secondKeep, .ref a0_history, .ref a0_clipboard, .ref a0_reader, .ref a0_writer, .ref a0_picture])), (a0_reader, .inr (5, [.ref a0_reader_signs, .int (iI r.2.1), .ref a0_reader_result, .ref a0_reader_stack, .int (iI a0_reader_top), .int (iI a0_reader_state), .int (iI a0_reader_bracket), .int (iI a0_reader_chain), .int (iI a0_reader_factor), .int (iI a0_reader_isUnder), .int (iI a0_reader_isPlain), .int (iI a0_reader_script), .int (iI a0_reader_isBound)])), (a0_reader_signs, .inl (cs.1, 120, .inl (aI r.2.2)))] := by
  refine q_starth [⟨0, 5, 6, 13⟩, ⟨0, 5, 11, 15⟩] [(0, .ref a0), (1, .int (iI x1))] RL rfl (by decide +kernel) rfl rfl (Nat.le_of_ble_eq_true rfl) (q_in 1114 (by decide +kernel) (by decide +kernel)) (fun κ ok kx fin => ?_)
  unfold f_L_tryAppend0 at h
  refine j_aload_n (pc := 0) 0 ok dL_tryAppend_0 rfl rfl ?_
  refine j_iload_n (pc := 1) 1 ok dL_tryAppend_1 rfl rfl ?_
  obtain ⟨r1, hr1, h⟩ := bd_inv h
  have hz9 : r1.1 = 0 := z_tg2_0 h
  unfold tg2 at h
  refine j_callX (pc := 2) ok kx (k_X7_append (a0 := a0) (a0_now := a0_now) (a0_trial := a0_trial) (a0_firstKeep := a0_firstKeep) (a0_secondKeep := a0_secondKeep) (a0_history := a0_history) (a0_clipboard := a0_clipboard) (a0_reader := a0_reader) (a0_writer := a0_writer) (a0_picture := a0_picture) (a0_reader_signs := a0_reader_signs) (a0_reader_result := a0_reader_result) (a0_reader_stack := a0_reader_stack) (a0_reader_length := a0_reader_length) (a0_reader_top := a0_reader_top) (a0_reader_state := a0_reader_state) (a0_reader_bracket := a0_reader_bracket) (a0_reader_chain := a0_reader_chain) (a0_reader_factor := a0_reader_factor) (a0_reader_isUnder := a0_reader_isUnder) (a0_reader_isPlain := a0_reader_isPlain) (a0_reader_script := a0_reader_script) (a0_reader_isBound := a0_reader_isBound) (a0_reader_signsF := a0_reader_signsF) (x1 := x1) hr1) gV_L_7 ⟨rfl, hd_X7_append⟩ [0, 1, 2] (by decide) rfl rfl 0 rfl rfl rfl rfl ⟨by rw [hz9]; exact Nat.le_of_ble_eq_true rfl, by rw [hz9]; exact Nat.le_of_ble_eq_true rfl⟩ (Nat.le_of_ble_eq_true rfl) dL_tryAppend_2 rfl [(a0, .inr (7, [.ref a0_now, .ref a0_trial, .ref a0_firstKeep, .ref a0_secondKeep, .ref a0_history, .ref a0_clipboard, .ref a0_reader, .ref a0_writer, .ref a0_picture])), (a0_reader, .inr (5, [.ref a0_reader_signs, .int (iI r1.2.2.1), .ref a0_reader_result, .ref a0_reader_stack, .int (iI a0_reader_top), .int (iI a0_reader_state), .int (iI a0_reader_bracket), .int (iI a0_reader_chain), .int (iI a0_reader_factor), .int (iI a0_reader_isUnder), .int (iI a0_reader_isPlain), .int (iI a0_reader_script), .int (iI a0_reader_isBound)])), (a0_reader_signs, .inl (cs.1, 120, .inl (aI r1.2.2.2)))] rfl (fun ht => ?_) (fun E hE => ?_)
  · rw [if_pos ht] at h
    obtain rfl := Option.some.inj h
    exact fin _ _ _ 5 (Nat.le_of_ble_eq_true rfl) (Nat.le_of_ble_eq_true rfl) dL_tryAppend_5
  · have hn0 : ¬ r1.1 = 0 := fun z => by rw [z] at hE; cases hE
    rw [if_neg hn0] at h
    by_cases ht0 : r1.1 = 1
    · rw [if_pos ht0] at h
      rw [ht0] at hE
      obtain rfl := Option.some.inj hE
      refine ⟨[], ⟨0, 5, 6, 13⟩, [⟨0, 5, 11, 15⟩], rfl, fun z hz => absurd hz List.not_mem_nil, by decide, by decide, q_in 814 (by decide +kernel) (by decide +kernel), by decide, fun q9 => ?_⟩
      refine j_eq (pc' := 6) rfl rfl rfl rfl ?_
      cases h
    · rw [if_neg ht0] at h
      by_cases ht1 : r1.1 = 2
      · rw [if_pos ht1] at h
        rw [ht1] at hE
        obtain rfl := Option.some.inj hE
        refine ⟨[⟨0, 5, 6, 13⟩], ⟨0, 5, 11, 15⟩, [], rfl, fun z hz => Or.inr (by obtain rfl := List.mem_singleton.mp hz; exact ⟨by decide, "java/lang/IllegalArgumentException", q_in 814 (by decide +kernel) (by decide +kernel), by decide⟩), by decide, by decide, q_in 457 (by decide +kernel) (by decide +kernel), by decide, fun q9 => ?_⟩
        refine j_eq (pc' := 11) rfl rfl rfl rfl ?_
        cases h
      · rw [if_neg ht1] at h
        cases h
def f_L_tryLoad (a0_firstKeep_filled : Int) (a0_history_count : Int) (a0_now_size : Int) (a0_now_caret : Int) (a0_now_from : Int) (a0_reader_length : Int) (a0_reader_top : Int) (a0_reader_state : Int) (a0_reader_bracket : Int) (a0_reader_chain : Int) (a0_reader_factor : Int) (a0_reader_isUnder : Int) (a0_reader_isPlain : Int) (a0_reader_script : Int) (a0_reader_isBound : Int) (a0_secondKeep_filled : Int) (a0_now_marksF : (Nat → Int)) (a0_reader_result_size : Int) (a0_reader_signsF : (Nat → Int)) (a0_reader_stackF : (Nat → Int)) (a0_reader_result_marksF : (Nat → Int)) : Option (Int × Int × Int × Int × Int × Int × Int × Int × Int × Int × Int × Int × Int × Int × Int × Int × (Nat → Int) × Int × (Nat → Int) × (Nat → Int)) := bd (f_X7_load a0_firstKeep_filled a0_history_count a0_now_size a0_now_caret a0_now_from a0_reader_length a0_reader_top a0_reader_state a0_reader_bracket a0_reader_chain a0_reader_factor a0_reader_isUnder a0_reader_isPlain a0_reader_script a0_reader_isBound a0_secondKeep_filled a0_now_marksF a0_reader_result_size a0_reader_signsF a0_reader_stackF a0_reader_result_marksF) (fun r1 => tg1 r1.1 2 (some (r1.2.1, r1.2.2.1, r1.2.2.2.1, r1.2.2.2.2.1, r1.2.2.2.2.2.1, r1.2.2.2.2.2.2.1, r1.2.2.2.2.2.2.2.1, r1.2.2.2.2.2.2.2.2.1, r1.2.2.2.2.2.2.2.2.2.1, r1.2.2.2.2.2.2.2.2.2.2.1, r1.2.2.2.2.2.2.2.2.2.2.2.1, r1.2.2.2.2.2.2.2.2.2.2.2.2.1, r1.2.2.2.2.2.2.2.2.2.2.2.2.2.1, r1.2.2.2.2.2.2.2.2.2.2.2.2.2.2.1, r1.2.2.2.2.2.2.2.2.2.2.2.2.2.2.2.1, r1.2.2.2.2.2.2.2.2.2.2.2.2.2.2.2.2.1, r1.2.2.2.2.2.2.2.2.2.2.2.2.2.2.2.2.2.1, r1.2.2.2.2.2.2.2.2.2.2.2.2.2.2.2.2.2.2.1, r1.2.2.2.2.2.2.2.2.2.2.2.2.2.2.2.2.2.2.2.1, r1.2.2.2.2.2.2.2.2.2.2.2.2.2.2.2.2.2.2.2.2)) (some ((-1003), r1.2.2.1, r1.2.2.2.1, r1.2.2.2.2.1, r1.2.2.2.2.2.1, r1.2.2.2.2.2.2.1, r1.2.2.2.2.2.2.2.1, r1.2.2.2.2.2.2.2.2.1, r1.2.2.2.2.2.2.2.2.2.1, r1.2.2.2.2.2.2.2.2.2.2.1, r1.2.2.2.2.2.2.2.2.2.2.2.1, r1.2.2.2.2.2.2.2.2.2.2.2.2.1, r1.2.2.2.2.2.2.2.2.2.2.2.2.2.1, r1.2.2.2.2.2.2.2.2.2.2.2.2.2.2.1, r1.2.2.2.2.2.2.2.2.2.2.2.2.2.2.2.1, r1.2.2.2.2.2.2.2.2.2.2.2.2.2.2.2.2.1, r1.2.2.2.2.2.2.2.2.2.2.2.2.2.2.2.2.2.1, r1.2.2.2.2.2.2.2.2.2.2.2.2.2.2.2.2.2.2.1, r1.2.2.2.2.2.2.2.2.2.2.2.2.2.2.2.2.2.2.2.1, r1.2.2.2.2.2.2.2.2.2.2.2.2.2.2.2.2.2.2.2.2)))
set_option maxRecDepth 100000 in
set_option maxHeartbeats 4000000 in
theorem k_L_tryLoad {D : va_G} {cs : q_CS} {a0 a0_now a0_trial a0_firstKeep a0_secondKeep a0_history a0_clipboard a0_reader a0_writer a0_picture a0_firstKeep_formula a0_history_ring a0_now_marks a0_reader_signs a0_reader_result a0_reader_stack a0_secondKeep_formula a0_reader_result_marks : Nat} {a0_firstKeep_filled a0_history_oldest a0_history_count a0_now_size a0_now_caret a0_now_from a0_reader_length a0_reader_top a0_reader_state a0_reader_bracket a0_reader_chain a0_reader_factor a0_reader_isUnder a0_reader_isPlain a0_reader_script a0_reader_isBound a0_secondKeep_filled a0_reader_result_size : Int} {a0_now_marksF a0_reader_signsF a0_reader_stackF a0_reader_result_marksF : (Nat → Int)} {r : (Int × Int × Int × Int × Int × Int × Int × Int × Int × Int × Int × Int × Int × Int × Int × Int × (Nat → Int) × Int × (Nat → Int) × (Nat → Int))} (h : f_L_tryLoad a0_firstKeep_filled a0_history_count a0_now_size a0_now_caret a0_now_from a0_reader_length a0_reader_top a0_reader_state a0_reader_bracket a0_reader_chain a0_reader_factor a0_reader_isUnder a0_reader_isPlain a0_reader_script a0_reader_isBound a0_secondKeep_filled a0_now_marksF a0_reader_result_size a0_reader_signsF a0_reader_stackF a0_reader_result_marksF = some r) : q_Mh D cs yL_tryLoad cL_tryLoad 2 [(0, 4, 5, 15)] 7 147 1 6 [.ref a0] [(a0, .inr (7, [.ref a0_now, .ref a0_trial, .ref a0_firstKeep, .ref a0_secondKeep, .ref a0_history, .ref a0_clipboard, .ref a0_reader, .ref a0_writer, .ref a0_picture])), (a0_firstKeep, .inr (2, [.ref a0_firstKeep_formula, .int (iI a0_firstKeep_filled)])), (a0_history, .inr (1, [.ref a0_history_ring, .int (iI a0_history_oldest), .int (iI a0_history_count)])), (a0_now, .inr (0, [.ref a0_now_marks, .int (iI a0_now_size), .int (iI a0_now_caret), .int (iI a0_now_from)])), (a0_reader, .inr (5, [.ref a0_reader_signs, .int (iI a0_reader_length), .ref a0_reader_result, .ref a0_reader_stack, .int (iI a0_reader_top), .int (iI a0_reader_state), .int (iI a0_reader_bracket), .int (iI a0_reader_chain), .int (iI a0_reader_factor), .int (iI a0_reader_isUnder), .int (iI a0_reader_isPlain), .int (iI a0_reader_script), .int (iI a0_reader_isBound)])), (a0_secondKeep, .inr (2, [.ref a0_secondKeep_formula, .int (iI a0_secondKeep_filled)])), (a0_now_marks, .inl (cs.1, 180, .inl (aI a0_now_marksF))), (a0_reader_result, .inr (3, [.ref a0_reader_result_marks, .int (iI a0_reader_result_size)])), (a0_reader_signs, .inl (cs.1, 120, .inl (aI a0_reader_signsF))), (a0_reader_stack, .inl (cs.1, 720, .inl (aI a0_reader_stackF))), (a0_reader_result_marks, .inl (cs.1, 360, .inl (aI a0_reader_result_marksF)))] r.1 [(a0, .inr (7, [.ref a0_now, .ref a0_trial, .ref a0_firstKeep, .ref a0_secondKeep, .ref a0_history, .ref a0_clipboard, .ref a0_reader, .ref a0_writer, .ref a0_picture])), (a0_firstKeep, .inr (2, [.ref a0_firstKeep_formula, .int (iI r.2.1)])), (a0_history, .inr (1, [.ref a0_history_ring, .int (iI a0_history_oldest), .int (iI r.2.2.1)])), (a0_now, .inr (0, [.ref a0_now_marks, .int (iI r.2.2.2.1), .int (iI r.2.2.2.2.1), .int (iI r.2.2.2.2.2.1)])), (a0_reader, .inr (5, [.ref a0_reader_signs, .int (iI a0_reader_length), .ref a0_reader_result, .ref a0_reader_stack, .int (iI r.2.2.2.2.2.2.1), .int (iI r.2.2.2.2.2.2.2.1), .int (iI r.2.2.2.2.2.2.2.2.1), .int (iI r.2.2.2.2.2.2.2.2.2.1), .int (iI r.2.2.2.2.2.2.2.2.2.2.1), .int (iI r.2.2.2.2.2.2.2.2.2.2.2.1), .int (iI r.2.2.2.2.2.2.2.2.2.2.2.2.1), .int (iI r.2.2.2.2.2.2.2.2.2.2.2.2.2.1), .int (iI r.2.2.2.2.2.2.2.2.2.2.2.2.2.2.1)])), (a0_secondKeep, .inr (2, [.ref a0_secondKeep_formula, .int (iI r.2.2.2.2.2.2.2.2.2.2.2.2.2.2.2.1)])), (a0_now_marks, .inl (cs.1, 180, .inl (aI r.2.2.2.2.2.2.2.2.2.2.2.2.2.2.2.2.1))), (a0_reader_result, .inr (3, [.ref a0_reader_result_marks, .int (iI r.2.2.2.2.2.2.2.2.2.2.2.2.2.2.2.2.2.1)])), (a0_reader_signs, .inl (cs.1, 120, .inl (aI a0_reader_signsF))), (a0_reader_stack, .inl (cs.1, 720, .inl (aI r.2.2.2.2.2.2.2.2.2.2.2.2.2.2.2.2.2.2.1))), (a0_reader_result_marks, .inl (cs.1, 360, .inl (aI r.2.2.2.2.2.2.2.2.2.2.2.2.2.2.2.2.2.2.2)))] := by
  refine q_starth [⟨0, 4, 5, 15⟩] [(0, .ref a0)] RL rfl (by decide +kernel) rfl rfl (Nat.le_of_ble_eq_true rfl) (q_in 456 (by decide +kernel) (by decide +kernel)) (fun κ ok kx fin => ?_)
  unfold f_L_tryLoad at h
  refine j_aload_n (pc := 0) 0 ok dL_tryLoad_0 rfl rfl ?_
  obtain ⟨r1, hr1, h⟩ := bd_inv h
  unfold tg1 at h
  refine j_callX (pc := 1) ok kx (k_X7_load (a0 := a0) (a0_now := a0_now) (a0_trial := a0_trial) (a0_firstKeep := a0_firstKeep) (a0_secondKeep := a0_secondKeep) (a0_history := a0_history) (a0_clipboard := a0_clipboard) (a0_reader := a0_reader) (a0_writer := a0_writer) (a0_picture := a0_picture) (a0_firstKeep_formula := a0_firstKeep_formula) (a0_history_ring := a0_history_ring) (a0_now_marks := a0_now_marks) (a0_reader_signs := a0_reader_signs) (a0_reader_result := a0_reader_result) (a0_reader_stack := a0_reader_stack) (a0_secondKeep_formula := a0_secondKeep_formula) (a0_reader_result_marks := a0_reader_result_marks) (a0_firstKeep_filled := a0_firstKeep_filled) (a0_history_oldest := a0_history_oldest) (a0_history_count := a0_history_count) (a0_now_size := a0_now_size) (a0_now_caret := a0_now_caret) (a0_now_from := a0_now_from) (a0_reader_length := a0_reader_length) (a0_reader_top := a0_reader_top) (a0_reader_state := a0_reader_state) (a0_reader_bracket := a0_reader_bracket) (a0_reader_chain := a0_reader_chain) (a0_reader_factor := a0_reader_factor) (a0_reader_isUnder := a0_reader_isUnder) (a0_reader_isPlain := a0_reader_isPlain) (a0_reader_script := a0_reader_script) (a0_reader_isBound := a0_reader_isBound) (a0_secondKeep_filled := a0_secondKeep_filled) (a0_now_marksF := a0_now_marksF) (a0_reader_result_size := a0_reader_result_size) (a0_reader_signsF := a0_reader_signsF) (a0_reader_stackF := a0_reader_stackF) (a0_reader_result_marksF := a0_reader_result_marksF) hr1) gV_L_17 ⟨rfl, hd_X7_load⟩ [0, 1, 2, 3, 4, 5, 6, 7, 8, 9, 10] (by decide) rfl rfl 0 rfl rfl rfl rfl (q_hc1 r1.1) (Nat.le_of_ble_eq_true rfl) dL_tryLoad_1 rfl [(a0, .inr (7, [.ref a0_now, .ref a0_trial, .ref a0_firstKeep, .ref a0_secondKeep, .ref a0_history, .ref a0_clipboard, .ref a0_reader, .ref a0_writer, .ref a0_picture])), (a0_firstKeep, .inr (2, [.ref a0_firstKeep_formula, .int (iI r1.2.2.1)])), (a0_history, .inr (1, [.ref a0_history_ring, .int (iI a0_history_oldest), .int (iI r1.2.2.2.1)])), (a0_now, .inr (0, [.ref a0_now_marks, .int (iI r1.2.2.2.2.1), .int (iI r1.2.2.2.2.2.1), .int (iI r1.2.2.2.2.2.2.1)])), (a0_reader, .inr (5, [.ref a0_reader_signs, .int (iI a0_reader_length), .ref a0_reader_result, .ref a0_reader_stack, .int (iI r1.2.2.2.2.2.2.2.1), .int (iI r1.2.2.2.2.2.2.2.2.1), .int (iI r1.2.2.2.2.2.2.2.2.2.1), .int (iI r1.2.2.2.2.2.2.2.2.2.2.1), .int (iI r1.2.2.2.2.2.2.2.2.2.2.2.1), .int (iI r1.2.2.2.2.2.2.2.2.2.2.2.2.1), .int (iI r1.2.2.2.2.2.2.2.2.2.2.2.2.2.1), .int (iI r1.2.2.2.2.2.2.2.2.2.2.2.2.2.2.1), .int (iI r1.2.2.2.2.2.2.2.2.2.2.2.2.2.2.2.1)])), (a0_secondKeep, .inr (2, [.ref a0_secondKeep_formula, .int (iI r1.2.2.2.2.2.2.2.2.2.2.2.2.2.2.2.2.1)])), (a0_now_marks, .inl (cs.1, 180, .inl (aI r1.2.2.2.2.2.2.2.2.2.2.2.2.2.2.2.2.2.1))), (a0_reader_result, .inr (3, [.ref a0_reader_result_marks, .int (iI r1.2.2.2.2.2.2.2.2.2.2.2.2.2.2.2.2.2.2.1)])), (a0_reader_signs, .inl (cs.1, 120, .inl (aI a0_reader_signsF))), (a0_reader_stack, .inl (cs.1, 720, .inl (aI r1.2.2.2.2.2.2.2.2.2.2.2.2.2.2.2.2.2.2.2.1))), (a0_reader_result_marks, .inl (cs.1, 360, .inl (aI r1.2.2.2.2.2.2.2.2.2.2.2.2.2.2.2.2.2.2.2.2)))] rfl (fun ht => ?_) (fun E hE => ?_)
  · rw [if_pos ht] at h
    obtain rfl := Option.some.inj h
    exact fin _ _ _ 4 (Nat.le_of_ble_eq_true rfl) (Nat.le_of_ble_eq_true rfl) dL_tryLoad_4
  · have hn0 : ¬ r1.1 = 0 := fun z => by rw [z] at hE; cases hE
    rw [if_neg hn0] at h
    by_cases ht0 : r1.1 = 2
    · rw [if_pos ht0] at h
      rw [ht0] at hE
      obtain rfl := Option.some.inj hE
      refine ⟨[], ⟨0, 4, 5, 15⟩, [], rfl, fun z hz => absurd hz List.not_mem_nil, by decide, by decide, q_in 457 (by decide +kernel) (by decide +kernel), by decide, fun q9 => ?_⟩
      refine j_eq (pc' := 5) rfl rfl rfl rfl ?_
      refine j_astore_n (pc := 5) (lv' := [(1, .ref q9), (0, .ref a0)]) ok dL_tryLoad_5 rfl (by decide) rfl ?_
      refine j_sipush (pc := 6) ok dL_tryLoad_6 (by decide) ?_
      obtain rfl := Option.some.inj h
      exact fin _ _ _ 9 (Nat.le_of_ble_eq_true rfl) (Nat.le_of_ble_eq_true rfl) dL_tryLoad_9
    · rw [if_neg ht0] at h
      cases h
def f_L_tryLoad0 (a0_firstKeep_filled : Int) (a0_history_count : Int) (a0_now_size : Int) (a0_now_caret : Int) (a0_now_from : Int) (a0_reader_length : Int) (a0_reader_top : Int) (a0_reader_state : Int) (a0_reader_bracket : Int) (a0_reader_chain : Int) (a0_reader_factor : Int) (a0_reader_isUnder : Int) (a0_reader_isPlain : Int) (a0_reader_script : Int) (a0_reader_isBound : Int) (a0_secondKeep_filled : Int) (a0_now_marksF : (Nat → Int)) (a0_reader_result_size : Int) (a0_reader_signsF : (Nat → Int)) (a0_reader_stackF : (Nat → Int)) (a0_reader_result_marksF : (Nat → Int)) : Option (Int × Int × Int × Int × Int × Int × Int × Int × Int × Int × Int × Int × Int × Int × Int × Int × (Nat → Int) × Int × (Nat → Int) × (Nat → Int)) := bd (f_X7_load a0_firstKeep_filled a0_history_count a0_now_size a0_now_caret a0_now_from a0_reader_length a0_reader_top a0_reader_state a0_reader_bracket a0_reader_chain a0_reader_factor a0_reader_isUnder a0_reader_isPlain a0_reader_script a0_reader_isBound a0_secondKeep_filled a0_now_marksF a0_reader_result_size a0_reader_signsF a0_reader_stackF a0_reader_result_marksF) (fun r1 => tg1 r1.1 2 (some (r1.2.1, r1.2.2.1, r1.2.2.2.1, r1.2.2.2.2.1, r1.2.2.2.2.2.1, r1.2.2.2.2.2.2.1, r1.2.2.2.2.2.2.2.1, r1.2.2.2.2.2.2.2.2.1, r1.2.2.2.2.2.2.2.2.2.1, r1.2.2.2.2.2.2.2.2.2.2.1, r1.2.2.2.2.2.2.2.2.2.2.2.1, r1.2.2.2.2.2.2.2.2.2.2.2.2.1, r1.2.2.2.2.2.2.2.2.2.2.2.2.2.1, r1.2.2.2.2.2.2.2.2.2.2.2.2.2.2.1, r1.2.2.2.2.2.2.2.2.2.2.2.2.2.2.2.1, r1.2.2.2.2.2.2.2.2.2.2.2.2.2.2.2.2.1, r1.2.2.2.2.2.2.2.2.2.2.2.2.2.2.2.2.2.1, r1.2.2.2.2.2.2.2.2.2.2.2.2.2.2.2.2.2.2.1, r1.2.2.2.2.2.2.2.2.2.2.2.2.2.2.2.2.2.2.2.1, r1.2.2.2.2.2.2.2.2.2.2.2.2.2.2.2.2.2.2.2.2)) (none))
set_option maxRecDepth 100000 in
set_option maxHeartbeats 4000000 in
theorem k_L_tryLoad0 {D : va_G} {cs : q_CS} {a0 a0_now a0_trial a0_firstKeep a0_secondKeep a0_history a0_clipboard a0_reader a0_writer a0_picture a0_firstKeep_formula a0_history_ring a0_now_marks a0_reader_signs a0_reader_result a0_reader_stack a0_secondKeep_formula a0_reader_result_marks : Nat} {a0_firstKeep_filled a0_history_oldest a0_history_count a0_now_size a0_now_caret a0_now_from a0_reader_length a0_reader_top a0_reader_state a0_reader_bracket a0_reader_chain a0_reader_factor a0_reader_isUnder a0_reader_isPlain a0_reader_script a0_reader_isBound a0_secondKeep_filled a0_reader_result_size : Int} {a0_now_marksF a0_reader_signsF a0_reader_stackF a0_reader_result_marksF : (Nat → Int)} {r : (Int × Int × Int × Int × Int × Int × Int × Int × Int × Int × Int × Int × Int × Int × Int × Int × (Nat → Int) × Int × (Nat → Int) × (Nat → Int))} (h : f_L_tryLoad0 a0_firstKeep_filled a0_history_count a0_now_size a0_now_caret a0_now_from a0_reader_length a0_reader_top a0_reader_state a0_reader_bracket a0_reader_chain a0_reader_factor a0_reader_isUnder a0_reader_isPlain a0_reader_script a0_reader_isBound a0_secondKeep_filled a0_now_marksF a0_reader_result_size a0_reader_signsF a0_reader_stackF a0_reader_result_marksF = some r) : q_Mh D cs yL_tryLoad cL_tryLoad 2 [(0, 4, 5, 15)] 7 147 0 0 [.ref a0] [(a0, .inr (7, [.ref a0_now, .ref a0_trial, .ref a0_firstKeep, .ref a0_secondKeep, .ref a0_history, .ref a0_clipboard, .ref a0_reader, .ref a0_writer, .ref a0_picture])), (a0_firstKeep, .inr (2, [.ref a0_firstKeep_formula, .int (iI a0_firstKeep_filled)])), (a0_history, .inr (1, [.ref a0_history_ring, .int (iI a0_history_oldest), .int (iI a0_history_count)])), (a0_now, .inr (0, [.ref a0_now_marks, .int (iI a0_now_size), .int (iI a0_now_caret), .int (iI a0_now_from)])), (a0_reader, .inr (5, [.ref a0_reader_signs, .int (iI a0_reader_length), .ref a0_reader_result, .ref a0_reader_stack, .int (iI a0_reader_top), .int (iI a0_reader_state), .int (iI a0_reader_bracket), .int (iI a0_reader_chain), .int (iI a0_reader_factor), .int (iI a0_reader_isUnder), .int (iI a0_reader_isPlain), .int (iI a0_reader_script), .int (iI a0_reader_isBound)])), (a0_secondKeep, .inr (2, [.ref a0_secondKeep_formula, .int (iI a0_secondKeep_filled)])), (a0_now_marks, .inl (cs.1, 180, .inl (aI a0_now_marksF))), (a0_reader_result, .inr (3, [.ref a0_reader_result_marks, .int (iI a0_reader_result_size)])), (a0_reader_signs, .inl (cs.1, 120, .inl (aI a0_reader_signsF))), (a0_reader_stack, .inl (cs.1, 720, .inl (aI a0_reader_stackF))), (a0_reader_result_marks, .inl (cs.1, 360, .inl (aI a0_reader_result_marksF)))] r.1 [(a0, .inr (7, [.ref a0_now, .ref a0_trial, .ref a0_firstKeep, .ref a0_secondKeep, .ref a0_history, .ref a0_clipboard, .ref a0_reader, .ref a0_writer, .ref a0_picture])), (a0_firstKeep, .inr (2, [.ref a0_firstKeep_formula, .int (iI r.2.1)])), (a0_history, .inr (1, [.ref a0_history_ring, .int (iI a0_history_oldest), .int (iI r.2.2.1)])), (a0_now, .inr (0, [.ref a0_now_marks, .int (iI r.2.2.2.1), .int (iI r.2.2.2.2.1), .int (iI r.2.2.2.2.2.1)])), (a0_reader, .inr (5, [.ref a0_reader_signs, .int (iI a0_reader_length), .ref a0_reader_result, .ref a0_reader_stack, .int (iI r.2.2.2.2.2.2.1), .int (iI r.2.2.2.2.2.2.2.1), .int (iI r.2.2.2.2.2.2.2.2.1), .int (iI r.2.2.2.2.2.2.2.2.2.1), .int (iI r.2.2.2.2.2.2.2.2.2.2.1), .int (iI r.2.2.2.2.2.2.2.2.2.2.2.1), .int (iI r.2.2.2.2.2.2.2.2.2.2.2.2.1), .int (iI r.2.2.2.2.2.2.2.2.2.2.2.2.2.1), .int (iI r.2.2.2.2.2.2.2.2.2.2.2.2.2.2.1)])), (a0_secondKeep, .inr (2, [.ref a0_secondKeep_formula, .int (iI r.2.2.2.2.2.2.2.2.2.2.2.2.2.2.2.1)])), (a0_now_marks, .inl (cs.1, 180, .inl (aI r.2.2.2.2.2.2.2.2.2.2.2.2.2.2.2.2.1))), (a0_reader_result, .inr (3, [.ref a0_reader_result_marks, .int (iI r.2.2.2.2.2.2.2.2.2.2.2.2.2.2.2.2.2.1)])), (a0_reader_signs, .inl (cs.1, 120, .inl (aI a0_reader_signsF))), (a0_reader_stack, .inl (cs.1, 720, .inl (aI r.2.2.2.2.2.2.2.2.2.2.2.2.2.2.2.2.2.2.1))), (a0_reader_result_marks, .inl (cs.1, 360, .inl (aI r.2.2.2.2.2.2.2.2.2.2.2.2.2.2.2.2.2.2.2)))] := by
  refine q_starth [⟨0, 4, 5, 15⟩] [(0, .ref a0)] RL rfl (by decide +kernel) rfl rfl (Nat.le_of_ble_eq_true rfl) (q_in 456 (by decide +kernel) (by decide +kernel)) (fun κ ok kx fin => ?_)
  unfold f_L_tryLoad0 at h
  refine j_aload_n (pc := 0) 0 ok dL_tryLoad_0 rfl rfl ?_
  obtain ⟨r1, hr1, h⟩ := bd_inv h
  have hz9 : r1.1 = 0 := z_tg1_0 h
  unfold tg1 at h
  refine j_callX (pc := 1) ok kx (k_X7_load (a0 := a0) (a0_now := a0_now) (a0_trial := a0_trial) (a0_firstKeep := a0_firstKeep) (a0_secondKeep := a0_secondKeep) (a0_history := a0_history) (a0_clipboard := a0_clipboard) (a0_reader := a0_reader) (a0_writer := a0_writer) (a0_picture := a0_picture) (a0_firstKeep_formula := a0_firstKeep_formula) (a0_history_ring := a0_history_ring) (a0_now_marks := a0_now_marks) (a0_reader_signs := a0_reader_signs) (a0_reader_result := a0_reader_result) (a0_reader_stack := a0_reader_stack) (a0_secondKeep_formula := a0_secondKeep_formula) (a0_reader_result_marks := a0_reader_result_marks) (a0_firstKeep_filled := a0_firstKeep_filled) (a0_history_oldest := a0_history_oldest) (a0_history_count := a0_history_count) (a0_now_size := a0_now_size) (a0_now_caret := a0_now_caret) (a0_now_from := a0_now_from) (a0_reader_length := a0_reader_length) (a0_reader_top := a0_reader_top) (a0_reader_state := a0_reader_state) (a0_reader_bracket := a0_reader_bracket) (a0_reader_chain := a0_reader_chain) (a0_reader_factor := a0_reader_factor) (a0_reader_isUnder := a0_reader_isUnder) (a0_reader_isPlain := a0_reader_isPlain) (a0_reader_script := a0_reader_script) (a0_reader_isBound := a0_reader_isBound) (a0_secondKeep_filled := a0_secondKeep_filled) (a0_now_marksF := a0_now_marksF) (a0_reader_result_size := a0_reader_result_size) (a0_reader_signsF := a0_reader_signsF) (a0_reader_stackF := a0_reader_stackF) (a0_reader_result_marksF := a0_reader_result_marksF) hr1) gV_L_17 ⟨rfl, hd_X7_load⟩ [0, 1, 2, 3, 4, 5, 6, 7, 8, 9, 10] (by decide) rfl rfl 0 rfl rfl rfl rfl ⟨by rw [hz9]; exact Nat.le_of_ble_eq_true rfl, by rw [hz9]; exact Nat.le_of_ble_eq_true rfl⟩ (Nat.le_of_ble_eq_true rfl) dL_tryLoad_1 rfl [(a0, .inr (7, [.ref a0_now, .ref a0_trial, .ref a0_firstKeep, .ref a0_secondKeep, .ref a0_history, .ref a0_clipboard, .ref a0_reader, .ref a0_writer, .ref a0_picture])), (a0_firstKeep, .inr (2, [.ref a0_firstKeep_formula, .int (iI r1.2.2.1)])), (a0_history, .inr (1, [.ref a0_history_ring, .int (iI a0_history_oldest), .int (iI r1.2.2.2.1)])), (a0_now, .inr (0, [.ref a0_now_marks, .int (iI r1.2.2.2.2.1), .int (iI r1.2.2.2.2.2.1), .int (iI r1.2.2.2.2.2.2.1)])), (a0_reader, .inr (5, [.ref a0_reader_signs, .int (iI a0_reader_length), .ref a0_reader_result, .ref a0_reader_stack, .int (iI r1.2.2.2.2.2.2.2.1), .int (iI r1.2.2.2.2.2.2.2.2.1), .int (iI r1.2.2.2.2.2.2.2.2.2.1), .int (iI r1.2.2.2.2.2.2.2.2.2.2.1), .int (iI r1.2.2.2.2.2.2.2.2.2.2.2.1), .int (iI r1.2.2.2.2.2.2.2.2.2.2.2.2.1), .int (iI r1.2.2.2.2.2.2.2.2.2.2.2.2.2.1), .int (iI r1.2.2.2.2.2.2.2.2.2.2.2.2.2.2.1), .int (iI r1.2.2.2.2.2.2.2.2.2.2.2.2.2.2.2.1)])), (a0_secondKeep, .inr (2, [.ref a0_secondKeep_formula, .int (iI r1.2.2.2.2.2.2.2.2.2.2.2.2.2.2.2.2.1)])), (a0_now_marks, .inl (cs.1, 180, .inl (aI r1.2.2.2.2.2.2.2.2.2.2.2.2.2.2.2.2.2.1))), (a0_reader_result, .inr (3, [.ref a0_reader_result_marks, .int (iI r1.2.2.2.2.2.2.2.2.2.2.2.2.2.2.2.2.2.2.1)])), (a0_reader_signs, .inl (cs.1, 120, .inl (aI a0_reader_signsF))), (a0_reader_stack, .inl (cs.1, 720, .inl (aI r1.2.2.2.2.2.2.2.2.2.2.2.2.2.2.2.2.2.2.2.1))), (a0_reader_result_marks, .inl (cs.1, 360, .inl (aI r1.2.2.2.2.2.2.2.2.2.2.2.2.2.2.2.2.2.2.2.2)))] rfl (fun ht => ?_) (fun E hE => ?_)
  · rw [if_pos ht] at h
    obtain rfl := Option.some.inj h
    exact fin _ _ _ 4 (Nat.le_of_ble_eq_true rfl) (Nat.le_of_ble_eq_true rfl) dL_tryLoad_4
  · have hn0 : ¬ r1.1 = 0 := fun z => by rw [z] at hE; cases hE
    rw [if_neg hn0] at h
    by_cases ht0 : r1.1 = 2
    · rw [if_pos ht0] at h
      rw [ht0] at hE
      obtain rfl := Option.some.inj hE
      refine ⟨[], ⟨0, 4, 5, 15⟩, [], rfl, fun z hz => absurd hz List.not_mem_nil, by decide, by decide, q_in 457 (by decide +kernel) (by decide +kernel), by decide, fun q9 => ?_⟩
      refine j_eq (pc' := 5) rfl rfl rfl rfl ?_
      cases h
    · rw [if_neg ht0] at h
      cases h
def f_L_tryAbout (a0_clipboard_size : Int) (a0_now_size : Int) (a0_now_caret : Int) (a0_clipboard_marksF : (Nat → Int)) (a0_now_marksF : (Nat → Int)) (x1 : Int) : Option (Int) := bd (f_X7_about a0_clipboard_size a0_now_size a0_now_caret a0_clipboard_marksF a0_now_marksF x1) (fun r1 => tg1 r1.1 1 (some r1.2) (some ((-1002))))
set_option maxRecDepth 100000 in
set_option maxHeartbeats 4000000 in
theorem k_L_tryAbout {D : va_G} {cs : q_CS} {a0 a0_now a0_trial a0_firstKeep a0_secondKeep a0_history a0_clipboard a0_reader a0_writer a0_picture a0_clipboard_marks a0_now_marks : Nat} {a0_clipboard_size a0_now_size a0_now_caret a0_now_from : Int} {a0_clipboard_marksF a0_now_marksF : (Nat → Int)} {x1 : Int} {r : (Int)} (h : f_L_tryAbout a0_clipboard_size a0_now_size a0_now_caret a0_clipboard_marksF a0_now_marksF x1 = some r) : q_Mh D cs yL_tryAbout cL_tryAbout 3 [(0, 5, 6, 13)] 7 103 1 6 [.ref a0, .int (iI x1)] [(a0, .inr (7, [.ref a0_now, .ref a0_trial, .ref a0_firstKeep, .ref a0_secondKeep, .ref a0_history, .ref a0_clipboard, .ref a0_reader, .ref a0_writer, .ref a0_picture])), (a0_clipboard, .inr (3, [.ref a0_clipboard_marks, .int (iI a0_clipboard_size)])), (a0_now, .inr (0, [.ref a0_now_marks, .int (iI a0_now_size), .int (iI a0_now_caret), .int (iI a0_now_from)])), (a0_clipboard_marks, .inl (cs.1, 180, .inl (aI a0_clipboard_marksF))), (a0_now_marks, .inl (cs.1, 180, .inl (aI a0_now_marksF)))] r [(a0, .inr (7, [.ref a0_now, .ref a0_trial, .ref a0_firstKeep, .ref a0_secondKeep, .ref a0_history, .ref a0_clipboard, .ref a0_reader, .ref a0_writer, .ref a0_picture])), (a0_clipboard, .inr (3, [.ref a0_clipboard_marks, .int (iI a0_clipboard_size)])), (a0_now, .inr (0, [.ref a0_now_marks, .int (iI a0_now_size), .int (iI a0_now_caret), .int (iI a0_now_from)])), (a0_clipboard_marks, .inl (cs.1, 180, .inl (aI a0_clipboard_marksF))), (a0_now_marks, .inl (cs.1, 180, .inl (aI a0_now_marksF)))] := by
  refine q_starth [⟨0, 5, 6, 13⟩] [(0, .ref a0), (1, .int (iI x1))] RL rfl (by decide +kernel) rfl rfl (Nat.le_of_ble_eq_true rfl) (q_in 813 (by decide +kernel) (by decide +kernel)) (fun κ ok kx fin => ?_)
  unfold f_L_tryAbout at h
  refine j_aload_n (pc := 0) 0 ok dL_tryAbout_0 rfl rfl ?_
  refine j_iload_n (pc := 1) 1 ok dL_tryAbout_1 rfl rfl ?_
  obtain ⟨r1, hr1, h⟩ := bd_inv h
  unfold tg1 at h
  refine j_callX (pc := 2) ok kx (k_X7_about (a0 := a0) (a0_now := a0_now) (a0_trial := a0_trial) (a0_firstKeep := a0_firstKeep) (a0_secondKeep := a0_secondKeep) (a0_history := a0_history) (a0_clipboard := a0_clipboard) (a0_reader := a0_reader) (a0_writer := a0_writer) (a0_picture := a0_picture) (a0_clipboard_marks := a0_clipboard_marks) (a0_now_marks := a0_now_marks) (a0_clipboard_size := a0_clipboard_size) (a0_now_size := a0_now_size) (a0_now_caret := a0_now_caret) (a0_now_from := a0_now_from) (a0_clipboard_marksF := a0_clipboard_marksF) (a0_now_marksF := a0_now_marksF) (x1 := x1) hr1) gV_L_21 ⟨rfl, hd_X7_about⟩ [0, 1, 2, 3, 4] (by decide) rfl rfl 0 rfl rfl rfl rfl (q_hc1 r1.1) (Nat.le_of_ble_eq_true rfl) dL_tryAbout_2 rfl [(a0, .inr (7, [.ref a0_now, .ref a0_trial, .ref a0_firstKeep, .ref a0_secondKeep, .ref a0_history, .ref a0_clipboard, .ref a0_reader, .ref a0_writer, .ref a0_picture])), (a0_clipboard, .inr (3, [.ref a0_clipboard_marks, .int (iI a0_clipboard_size)])), (a0_now, .inr (0, [.ref a0_now_marks, .int (iI a0_now_size), .int (iI a0_now_caret), .int (iI a0_now_from)])), (a0_clipboard_marks, .inl (cs.1, 180, .inl (aI a0_clipboard_marksF))), (a0_now_marks, .inl (cs.1, 180, .inl (aI a0_now_marksF)))] rfl (fun ht => ?_) (fun E hE => ?_)
  · rw [if_pos ht] at h
    obtain rfl := Option.some.inj h
    exact fin _ _ _ 5 (Nat.le_of_ble_eq_true rfl) (Nat.le_of_ble_eq_true rfl) dL_tryAbout_5
  · have hn0 : ¬ r1.1 = 0 := fun z => by rw [z] at hE; cases hE
    rw [if_neg hn0] at h
    by_cases ht0 : r1.1 = 1
    · rw [if_pos ht0] at h
      rw [ht0] at hE
      obtain rfl := Option.some.inj hE
      refine ⟨[], ⟨0, 5, 6, 13⟩, [], rfl, fun z hz => absurd hz List.not_mem_nil, by decide, by decide, q_in 814 (by decide +kernel) (by decide +kernel), by decide, fun q9 => ?_⟩
      refine j_eq (pc' := 6) rfl rfl rfl rfl ?_
      refine j_astore_n (pc := 6) (lv' := [(2, .ref q9), (0, .ref a0), (1, .int (iI x1))]) ok dL_tryAbout_6 rfl (by decide) rfl ?_
      refine j_sipush (pc := 7) ok dL_tryAbout_7 (by decide) ?_
      obtain rfl := Option.some.inj h
      exact fin _ _ _ 10 (Nat.le_of_ble_eq_true rfl) (Nat.le_of_ble_eq_true rfl) dL_tryAbout_10
    · rw [if_neg ht0] at h
      cases h
def f_L_tryAbout0 (a0_clipboard_size : Int) (a0_now_size : Int) (a0_now_caret : Int) (a0_clipboard_marksF : (Nat → Int)) (a0_now_marksF : (Nat → Int)) (x1 : Int) : Option (Int) := bd (f_X7_about a0_clipboard_size a0_now_size a0_now_caret a0_clipboard_marksF a0_now_marksF x1) (fun r1 => tg1 r1.1 1 (some r1.2) (none))
set_option maxRecDepth 100000 in
set_option maxHeartbeats 4000000 in
theorem k_L_tryAbout0 {D : va_G} {cs : q_CS} {a0 a0_now a0_trial a0_firstKeep a0_secondKeep a0_history a0_clipboard a0_reader a0_writer a0_picture a0_clipboard_marks a0_now_marks : Nat} {a0_clipboard_size a0_now_size a0_now_caret a0_now_from : Int} {a0_clipboard_marksF a0_now_marksF : (Nat → Int)} {x1 : Int} {r : (Int)} (h : f_L_tryAbout0 a0_clipboard_size a0_now_size a0_now_caret a0_clipboard_marksF a0_now_marksF x1 = some r) : q_Mh D cs yL_tryAbout cL_tryAbout 3 [(0, 5, 6, 13)] 7 103 0 0 [.ref a0, .int (iI x1)] [(a0, .inr (7, [.ref a0_now, .ref a0_trial, .ref a0_firstKeep, .ref a0_secondKeep, .ref a0_history, .ref a0_clipboard, .ref a0_reader, .ref a0_writer, .ref a0_picture])), (a0_clipboard, .inr (3, [.ref a0_clipboard_marks, .int (iI a0_clipboard_size)])), (a0_now, .inr (0, [.ref a0_now_marks, .int (iI a0_now_size), .int (iI a0_now_caret), .int (iI a0_now_from)])), (a0_clipboard_marks, .inl (cs.1, 180, .inl (aI a0_clipboard_marksF))), (a0_now_marks, .inl (cs.1, 180, .inl (aI a0_now_marksF)))] r [(a0, .inr (7, [.ref a0_now, .ref a0_trial, .ref a0_firstKeep, .ref a0_secondKeep, .ref a0_history, .ref a0_clipboard, .ref a0_reader, .ref a0_writer, .ref a0_picture])), (a0_clipboard, .inr (3, [.ref a0_clipboard_marks, .int (iI a0_clipboard_size)])), (a0_now, .inr (0, [.ref a0_now_marks, .int (iI a0_now_size), .int (iI a0_now_caret), .int (iI a0_now_from)])), (a0_clipboard_marks, .inl (cs.1, 180, .inl (aI a0_clipboard_marksF))), (a0_now_marks, .inl (cs.1, 180, .inl (aI a0_now_marksF)))] := by
  refine q_starth [⟨0, 5, 6, 13⟩] [(0, .ref a0), (1, .int (iI x1))] RL rfl (by decide +kernel) rfl rfl (Nat.le_of_ble_eq_true rfl) (q_in 813 (by decide +kernel) (by decide +kernel)) (fun κ ok kx fin => ?_)
  unfold f_L_tryAbout0 at h
  refine j_aload_n (pc := 0) 0 ok dL_tryAbout_0 rfl rfl ?_
  refine j_iload_n (pc := 1) 1 ok dL_tryAbout_1 rfl rfl ?_
  obtain ⟨r1, hr1, h⟩ := bd_inv h
  have hz9 : r1.1 = 0 := z_tg1_0 h
  unfold tg1 at h
  refine j_callX (pc := 2) ok kx (k_X7_about (a0 := a0) (a0_now := a0_now) (a0_trial := a0_trial) (a0_firstKeep := a0_firstKeep) (a0_secondKeep := a0_secondKeep) (a0_history := a0_history) (a0_clipboard := a0_clipboard) (a0_reader := a0_reader) (a0_writer := a0_writer) (a0_picture := a0_picture) (a0_clipboard_marks := a0_clipboard_marks) (a0_now_marks := a0_now_marks) (a0_clipboard_size := a0_clipboard_size) (a0_now_size := a0_now_size) (a0_now_caret := a0_now_caret) (a0_now_from := a0_now_from) (a0_clipboard_marksF := a0_clipboard_marksF) (a0_now_marksF := a0_now_marksF) (x1 := x1) hr1) gV_L_21 ⟨rfl, hd_X7_about⟩ [0, 1, 2, 3, 4] (by decide) rfl rfl 0 rfl rfl rfl rfl ⟨by rw [hz9]; exact Nat.le_of_ble_eq_true rfl, by rw [hz9]; exact Nat.le_of_ble_eq_true rfl⟩ (Nat.le_of_ble_eq_true rfl) dL_tryAbout_2 rfl [(a0, .inr (7, [.ref a0_now, .ref a0_trial, .ref a0_firstKeep, .ref a0_secondKeep, .ref a0_history, .ref a0_clipboard, .ref a0_reader, .ref a0_writer, .ref a0_picture])), (a0_clipboard, .inr (3, [.ref a0_clipboard_marks, .int (iI a0_clipboard_size)])), (a0_now, .inr (0, [.ref a0_now_marks, .int (iI a0_now_size), .int (iI a0_now_caret), .int (iI a0_now_from)])), (a0_clipboard_marks, .inl (cs.1, 180, .inl (aI a0_clipboard_marksF))), (a0_now_marks, .inl (cs.1, 180, .inl (aI a0_now_marksF)))] rfl (fun ht => ?_) (fun E hE => ?_)
  · rw [if_pos ht] at h
    obtain rfl := Option.some.inj h
    exact fin _ _ _ 5 (Nat.le_of_ble_eq_true rfl) (Nat.le_of_ble_eq_true rfl) dL_tryAbout_5
  · have hn0 : ¬ r1.1 = 0 := fun z => by rw [z] at hE; cases hE
    rw [if_neg hn0] at h
    by_cases ht0 : r1.1 = 1
    · rw [if_pos ht0] at h
      rw [ht0] at hE
      obtain rfl := Option.some.inj hE
      refine ⟨[], ⟨0, 5, 6, 13⟩, [], rfl, fun z hz => absurd hz List.not_mem_nil, by decide, by decide, q_in 814 (by decide +kernel) (by decide +kernel), by decide, fun q9 => ?_⟩
      refine j_eq (pc' := 6) rfl rfl rfl rfl ?_
      cases h
    · rw [if_neg ht0] at h
      cases h
def f_L_tryPlace (a0_now_size : Int) (a0_now_marksF : (Nat → Int)) (x1 : Int) (x2 : Int) : Option (Int) := bd (f_X7_place a0_now_size a0_now_marksF x1 x2) (fun r1 => tg2 r1.1 3 1 (some r1.2) (some ((-1001))) (some ((-1002))))
set_option maxRecDepth 100000 in
set_option maxHeartbeats 4000000 in
theorem k_L_tryPlace {D : va_G} {cs : q_CS} {a0 a0_now a0_trial a0_firstKeep a0_secondKeep a0_history a0_clipboard a0_reader a0_writer a0_picture a0_now_marks : Nat} {a0_now_size a0_now_caret a0_now_from : Int} {a0_now_marksF : (Nat → Int)} {x1 x2 : Int} {r : (Int)} (h : f_L_tryPlace a0_now_size a0_now_marksF x1 x2 = some r) : q_Mh D cs yL_tryPlace cL_tryPlace 4 [(0, 6, 7, 28), (0, 6, 12, 13)] 7 110 1 6 [.ref a0, .int (iI x1), .int (iI x2)] [(a0, .inr (7, [.ref a0_now, .ref a0_trial, .ref a0_firstKeep, .ref a0_secondKeep, .ref a0_history, .ref a0_clipboard, .ref a0_reader, .ref a0_writer, .ref a0_picture])), (a0_now, .inr (0, [.ref a0_now_marks, .int (iI a0_now_size), .int (iI a0_now_caret), .int (iI a0_now_from)])), (a0_now_marks, .inl (cs.1, 180, .inl (aI a0_now_marksF)))] r [(a0, .inr (7, [.ref a0_now, .ref a0_trial, .ref a0_firstKeep, .ref a0_secondKeep, .ref a0_history, .ref a0_clipboard, .ref a0_reader, .ref a0_writer, .ref a0_picture])), (a0_now, .inr (0, [.ref a0_now_marks, .int (iI a0_now_size), .int (iI a0_now_caret), .int (iI a0_now_from)])), (a0_now_marks, .inl (cs.1, 180, .inl (aI a0_now_marksF)))] := by
  refine q_starth [⟨0, 6, 7, 28⟩, ⟨0, 6, 12, 13⟩] [(0, .ref a0), (1, .int (iI x1)), (2, .int (iI x2))] RL rfl (by decide +kernel) rfl rfl (Nat.le_of_ble_eq_true rfl) (q_in 847 (by decide +kernel) (by decide +kernel)) (fun κ ok kx fin => ?_)
  unfold f_L_tryPlace at h
  refine j_aload_n (pc := 0) 0 ok dL_tryPlace_0 rfl rfl ?_
  refine j_iload_n (pc := 1) 1 ok dL_tryPlace_1 rfl rfl ?_
  refine j_iload_n (pc := 2) 2 ok dL_tryPlace_2 rfl rfl ?_
  obtain ⟨r1, hr1, h⟩ := bd_inv h
  unfold tg2 at h
  refine j_callX (pc := 3) ok kx (k_X7_place (a0 := a0) (a0_now := a0_now) (a0_trial := a0_trial) (a0_firstKeep := a0_firstKeep) (a0_secondKeep := a0_secondKeep) (a0_history := a0_history) (a0_clipboard := a0_clipboard) (a0_reader := a0_reader) (a0_writer := a0_writer) (a0_picture := a0_picture) (a0_now_marks := a0_now_marks) (a0_now_size := a0_now_size) (a0_now_caret := a0_now_caret) (a0_now_from := a0_now_from) (a0_now_marksF := a0_now_marksF) (x1 := x1) (x2 := x2) hr1) gV_L_24 ⟨rfl, hd_X7_place⟩ [0, 1, 2] (by decide) rfl rfl 0 rfl rfl rfl rfl (q_hc1 r1.1) (Nat.le_of_ble_eq_true rfl) dL_tryPlace_3 rfl [(a0, .inr (7, [.ref a0_now, .ref a0_trial, .ref a0_firstKeep, .ref a0_secondKeep, .ref a0_history, .ref a0_clipboard, .ref a0_reader, .ref a0_writer, .ref a0_picture])), (a0_now, .inr (0, [.ref a0_now_marks, .int (iI a0_now_size), .int (iI a0_now_caret), .int (iI a0_now_from)])), (a0_now_marks, .inl (cs.1, 180, .inl (aI a0_now_marksF)))] rfl (fun ht => ?_) (fun E hE => ?_)
  · rw [if_pos ht] at h
    obtain rfl := Option.some.inj h
    exact fin _ _ _ 6 (Nat.le_of_ble_eq_true rfl) (Nat.le_of_ble_eq_true rfl) dL_tryPlace_6
  · have hn0 : ¬ r1.1 = 0 := fun z => by rw [z] at hE; cases hE
    rw [if_neg hn0] at h
    by_cases ht0 : r1.1 = 3
    · rw [if_pos ht0] at h
      rw [ht0] at hE
      obtain rfl := Option.some.inj hE
      refine ⟨[], ⟨0, 6, 7, 28⟩, [⟨0, 6, 12, 13⟩], rfl, fun z hz => absurd hz List.not_mem_nil, by decide, by decide, q_in 681 (by decide +kernel) (by decide +kernel), by decide, fun q9 => ?_⟩
      refine j_eq (pc' := 7) rfl rfl rfl rfl ?_
      refine j_astore_n (pc := 7) (lv' := [(3, .ref q9), (0, .ref a0), (1, .int (iI x1)), (2, .int (iI x2))]) ok dL_tryPlace_7 rfl (by decide) rfl ?_
      refine j_sipush (pc := 8) ok dL_tryPlace_8 (by decide) ?_
      obtain rfl := Option.some.inj h
      exact fin _ _ _ 11 (Nat.le_of_ble_eq_true rfl) (Nat.le_of_ble_eq_true rfl) dL_tryPlace_11
    · rw [if_neg ht0] at h
      by_cases ht1 : r1.1 = 1
      · rw [if_pos ht1] at h
        rw [ht1] at hE
        obtain rfl := Option.some.inj hE
        refine ⟨[⟨0, 6, 7, 28⟩], ⟨0, 6, 12, 13⟩, [], rfl, fun z hz => Or.inr (by obtain rfl := List.mem_singleton.mp hz; exact ⟨by decide, "java/lang/IndexOutOfBoundsException", q_in 681 (by decide +kernel) (by decide +kernel), by decide⟩), by decide, by decide, q_in 814 (by decide +kernel) (by decide +kernel), by decide, fun q9 => ?_⟩
        refine j_eq (pc' := 12) rfl rfl rfl rfl ?_
        refine j_astore_n (pc := 12) (lv' := [(3, .ref q9), (0, .ref a0), (1, .int (iI x1)), (2, .int (iI x2))]) ok dL_tryPlace_12 rfl (by decide) rfl ?_
        refine j_sipush (pc := 13) ok dL_tryPlace_13 (by decide) ?_
        obtain rfl := Option.some.inj h
        exact fin _ _ _ 16 (Nat.le_of_ble_eq_true rfl) (Nat.le_of_ble_eq_true rfl) dL_tryPlace_16
      · rw [if_neg ht1] at h
        cases h
def f_L_tryPlace0 (a0_now_size : Int) (a0_now_marksF : (Nat → Int)) (x1 : Int) (x2 : Int) : Option (Int) := bd (f_X7_place a0_now_size a0_now_marksF x1 x2) (fun r1 => tg2 r1.1 3 1 (some r1.2) (none) (none))
set_option maxRecDepth 100000 in
set_option maxHeartbeats 4000000 in
theorem k_L_tryPlace0 {D : va_G} {cs : q_CS} {a0 a0_now a0_trial a0_firstKeep a0_secondKeep a0_history a0_clipboard a0_reader a0_writer a0_picture a0_now_marks : Nat} {a0_now_size a0_now_caret a0_now_from : Int} {a0_now_marksF : (Nat → Int)} {x1 x2 : Int} {r : (Int)} (h : f_L_tryPlace0 a0_now_size a0_now_marksF x1 x2 = some r) : q_Mh D cs yL_tryPlace cL_tryPlace 4 [(0, 6, 7, 28), (0, 6, 12, 13)] 7 110 0 0 [.ref a0, .int (iI x1), .int (iI x2)] [(a0, .inr (7, [.ref a0_now, .ref a0_trial, .ref a0_firstKeep, .ref a0_secondKeep, .ref a0_history, .ref a0_clipboard, .ref a0_reader, .ref a0_writer, .ref a0_picture])), (a0_now, .inr (0, [.ref a0_now_marks, .int (iI a0_now_size), .int (iI a0_now_caret), .int (iI a0_now_from)])), (a0_now_marks, .inl (cs.1, 180, .inl (aI a0_now_marksF)))] r [(a0, .inr (7, [.ref a0_now, .ref a0_trial, .ref a0_firstKeep, .ref a0_secondKeep, .ref a0_history, .ref a0_clipboard, .ref a0_reader, .ref a0_writer, .ref a0_picture])), (a0_now, .inr (0, [.ref a0_now_marks, .int (iI a0_now_size), .int (iI a0_now_caret), .int (iI a0_now_from)])), (a0_now_marks, .inl (cs.1, 180, .inl (aI a0_now_marksF)))] := by
  refine q_starth [⟨0, 6, 7, 28⟩, ⟨0, 6, 12, 13⟩] [(0, .ref a0), (1, .int (iI x1)), (2, .int (iI x2))] RL rfl (by decide +kernel) rfl rfl (Nat.le_of_ble_eq_true rfl) (q_in 847 (by decide +kernel) (by decide +kernel)) (fun κ ok kx fin => ?_)
  unfold f_L_tryPlace0 at h
  refine j_aload_n (pc := 0) 0 ok dL_tryPlace_0 rfl rfl ?_
  refine j_iload_n (pc := 1) 1 ok dL_tryPlace_1 rfl rfl ?_
  refine j_iload_n (pc := 2) 2 ok dL_tryPlace_2 rfl rfl ?_
  obtain ⟨r1, hr1, h⟩ := bd_inv h
  have hz9 : r1.1 = 0 := z_tg2_0 h
  unfold tg2 at h
  refine j_callX (pc := 3) ok kx (k_X7_place (a0 := a0) (a0_now := a0_now) (a0_trial := a0_trial) (a0_firstKeep := a0_firstKeep) (a0_secondKeep := a0_secondKeep) (a0_history := a0_history) (a0_clipboard := a0_clipboard) (a0_reader := a0_reader) (a0_writer := a0_writer) (a0_picture := a0_picture) (a0_now_marks := a0_now_marks) (a0_now_size := a0_now_size) (a0_now_caret := a0_now_caret) (a0_now_from := a0_now_from) (a0_now_marksF := a0_now_marksF) (x1 := x1) (x2 := x2) hr1) gV_L_24 ⟨rfl, hd_X7_place⟩ [0, 1, 2] (by decide) rfl rfl 0 rfl rfl rfl rfl ⟨by rw [hz9]; exact Nat.le_of_ble_eq_true rfl, by rw [hz9]; exact Nat.le_of_ble_eq_true rfl⟩ (Nat.le_of_ble_eq_true rfl) dL_tryPlace_3 rfl [(a0, .inr (7, [.ref a0_now, .ref a0_trial, .ref a0_firstKeep, .ref a0_secondKeep, .ref a0_history, .ref a0_clipboard, .ref a0_reader, .ref a0_writer, .ref a0_picture])), (a0_now, .inr (0, [.ref a0_now_marks, .int (iI a0_now_size), .int (iI a0_now_caret), .int (iI a0_now_from)])), (a0_now_marks, .inl (cs.1, 180, .inl (aI a0_now_marksF)))] rfl (fun ht => ?_) (fun E hE => ?_)
  · rw [if_pos ht] at h
    obtain rfl := Option.some.inj h
    exact fin _ _ _ 6 (Nat.le_of_ble_eq_true rfl) (Nat.le_of_ble_eq_true rfl) dL_tryPlace_6
  · have hn0 : ¬ r1.1 = 0 := fun z => by rw [z] at hE; cases hE
    rw [if_neg hn0] at h
    by_cases ht0 : r1.1 = 3
    · rw [if_pos ht0] at h
      rw [ht0] at hE
      obtain rfl := Option.some.inj hE
      refine ⟨[], ⟨0, 6, 7, 28⟩, [⟨0, 6, 12, 13⟩], rfl, fun z hz => absurd hz List.not_mem_nil, by decide, by decide, q_in 681 (by decide +kernel) (by decide +kernel), by decide, fun q9 => ?_⟩
      refine j_eq (pc' := 7) rfl rfl rfl rfl ?_
      cases h
    · rw [if_neg ht0] at h
      by_cases ht1 : r1.1 = 1
      · rw [if_pos ht1] at h
        rw [ht1] at hE
        obtain rfl := Option.some.inj hE
        refine ⟨[⟨0, 6, 7, 28⟩], ⟨0, 6, 12, 13⟩, [], rfl, fun z hz => Or.inr (by obtain rfl := List.mem_singleton.mp hz; exact ⟨by decide, "java/lang/IndexOutOfBoundsException", q_in 681 (by decide +kernel) (by decide +kernel), by decide⟩), by decide, by decide, q_in 814 (by decide +kernel) (by decide +kernel), by decide, fun q9 => ?_⟩
        refine j_eq (pc' := 12) rfl rfl rfl rfl ?_
        cases h
      · rw [if_neg ht1] at h
        cases h
def f_L_trySelection (a0_now_size : Int) (a0_now_caret : Int) (a0_now_from : Int) (a0_now_marksF : (Nat → Int)) (x1 : Int) : Option (Int) := bd (f_X7_selection a0_now_size a0_now_caret a0_now_from a0_now_marksF x1) (fun r1 => tg1 r1.1 1 (some r1.2) (some ((-1002))))
set_option maxRecDepth 100000 in
set_option maxHeartbeats 4000000 in
theorem k_L_trySelection {D : va_G} {cs : q_CS} {a0 a0_now a0_trial a0_firstKeep a0_secondKeep a0_history a0_clipboard a0_reader a0_writer a0_picture a0_now_marks : Nat} {a0_now_size a0_now_caret a0_now_from : Int} {a0_now_marksF : (Nat → Int)} {x1 : Int} {r : (Int)} (h : f_L_trySelection a0_now_size a0_now_caret a0_now_from a0_now_marksF x1 = some r) : q_Mh D cs yL_trySelection cL_trySelection 3 [(0, 5, 6, 13)] 7 103 1 6 [.ref a0, .int (iI x1)] [(a0, .inr (7, [.ref a0_now, .ref a0_trial, .ref a0_firstKeep, .ref a0_secondKeep, .ref a0_history, .ref a0_clipboard, .ref a0_reader, .ref a0_writer, .ref a0_picture])), (a0_now, .inr (0, [.ref a0_now_marks, .int (iI a0_now_size), .int (iI a0_now_caret), .int (iI a0_now_from)])), (a0_now_marks, .inl (cs.1, 180, .inl (aI a0_now_marksF)))] r [(a0, .inr (7, [.ref a0_now, .ref a0_trial, .ref a0_firstKeep, .ref a0_secondKeep, .ref a0_history, .ref a0_clipboard, .ref a0_reader, .ref a0_writer, .ref a0_picture])), (a0_now, .inr (0, [.ref a0_now_marks, .int (iI a0_now_size), .int (iI a0_now_caret), .int (iI a0_now_from)])), (a0_now_marks, .inl (cs.1, 180, .inl (aI a0_now_marksF)))] := by
  refine q_starth [⟨0, 5, 6, 13⟩] [(0, .ref a0), (1, .int (iI x1))] RL rfl (by decide +kernel) rfl rfl (Nat.le_of_ble_eq_true rfl) (q_in 916 (by decide +kernel) (by decide +kernel)) (fun κ ok kx fin => ?_)
  unfold f_L_trySelection at h
  refine j_aload_n (pc := 0) 0 ok dL_trySelection_0 rfl rfl ?_
  refine j_iload_n (pc := 1) 1 ok dL_trySelection_1 rfl rfl ?_
  obtain ⟨r1, hr1, h⟩ := bd_inv h
  unfold tg1 at h
  refine j_callX (pc := 2) ok kx (k_X7_selection (a0 := a0) (a0_now := a0_now) (a0_trial := a0_trial) (a0_firstKeep := a0_firstKeep) (a0_secondKeep := a0_secondKeep) (a0_history := a0_history) (a0_clipboard := a0_clipboard) (a0_reader := a0_reader) (a0_writer := a0_writer) (a0_picture := a0_picture) (a0_now_marks := a0_now_marks) (a0_now_size := a0_now_size) (a0_now_caret := a0_now_caret) (a0_now_from := a0_now_from) (a0_now_marksF := a0_now_marksF) (x1 := x1) hr1) gV_L_30 ⟨rfl, hd_X7_selection⟩ [0, 1, 2] (by decide) rfl rfl 0 rfl rfl rfl rfl (q_hc1 r1.1) (Nat.le_of_ble_eq_true rfl) dL_trySelection_2 rfl [(a0, .inr (7, [.ref a0_now, .ref a0_trial, .ref a0_firstKeep, .ref a0_secondKeep, .ref a0_history, .ref a0_clipboard, .ref a0_reader, .ref a0_writer, .ref a0_picture])), (a0_now, .inr (0, [.ref a0_now_marks, .int (iI a0_now_size), .int (iI a0_now_caret), .int (iI a0_now_from)])), (a0_now_marks, .inl (cs.1, 180, .inl (aI a0_now_marksF)))] rfl (fun ht => ?_) (fun E hE => ?_)
  · rw [if_pos ht] at h
    obtain rfl := Option.some.inj h
    exact fin _ _ _ 5 (Nat.le_of_ble_eq_true rfl) (Nat.le_of_ble_eq_true rfl) dL_trySelection_5
  · have hn0 : ¬ r1.1 = 0 := fun z => by rw [z] at hE; cases hE
    rw [if_neg hn0] at h
    by_cases ht0 : r1.1 = 1
    · rw [if_pos ht0] at h
      rw [ht0] at hE
      obtain rfl := Option.some.inj hE
      refine ⟨[], ⟨0, 5, 6, 13⟩, [], rfl, fun z hz => absurd hz List.not_mem_nil, by decide, by decide, q_in 814 (by decide +kernel) (by decide +kernel), by decide, fun q9 => ?_⟩
      refine j_eq (pc' := 6) rfl rfl rfl rfl ?_
      refine j_astore_n (pc := 6) (lv' := [(2, .ref q9), (0, .ref a0), (1, .int (iI x1))]) ok dL_trySelection_6 rfl (by decide) rfl ?_
      refine j_sipush (pc := 7) ok dL_trySelection_7 (by decide) ?_
      obtain rfl := Option.some.inj h
      exact fin _ _ _ 10 (Nat.le_of_ble_eq_true rfl) (Nat.le_of_ble_eq_true rfl) dL_trySelection_10
    · rw [if_neg ht0] at h
      cases h
def f_L_trySelection0 (a0_now_size : Int) (a0_now_caret : Int) (a0_now_from : Int) (a0_now_marksF : (Nat → Int)) (x1 : Int) : Option (Int) := bd (f_X7_selection a0_now_size a0_now_caret a0_now_from a0_now_marksF x1) (fun r1 => tg1 r1.1 1 (some r1.2) (none))
set_option maxRecDepth 100000 in
set_option maxHeartbeats 4000000 in
theorem k_L_trySelection0 {D : va_G} {cs : q_CS} {a0 a0_now a0_trial a0_firstKeep a0_secondKeep a0_history a0_clipboard a0_reader a0_writer a0_picture a0_now_marks : Nat} {a0_now_size a0_now_caret a0_now_from : Int} {a0_now_marksF : (Nat → Int)} {x1 : Int} {r : (Int)} (h : f_L_trySelection0 a0_now_size a0_now_caret a0_now_from a0_now_marksF x1 = some r) : q_Mh D cs yL_trySelection cL_trySelection 3 [(0, 5, 6, 13)] 7 103 0 0 [.ref a0, .int (iI x1)] [(a0, .inr (7, [.ref a0_now, .ref a0_trial, .ref a0_firstKeep, .ref a0_secondKeep, .ref a0_history, .ref a0_clipboard, .ref a0_reader, .ref a0_writer, .ref a0_picture])), (a0_now, .inr (0, [.ref a0_now_marks, .int (iI a0_now_size), .int (iI a0_now_caret), .int (iI a0_now_from)])), (a0_now_marks, .inl (cs.1, 180, .inl (aI a0_now_marksF)))] r [(a0, .inr (7, [.ref a0_now, .ref a0_trial, .ref a0_firstKeep, .ref a0_secondKeep, .ref a0_history, .ref a0_clipboard, .ref a0_reader, .ref a0_writer, .ref a0_picture])), (a0_now, .inr (0, [.ref a0_now_marks, .int (iI a0_now_size), .int (iI a0_now_caret), .int (iI a0_now_from)])), (a0_now_marks, .inl (cs.1, 180, .inl (aI a0_now_marksF)))] := by
  refine q_starth [⟨0, 5, 6, 13⟩] [(0, .ref a0), (1, .int (iI x1))] RL rfl (by decide +kernel) rfl rfl (Nat.le_of_ble_eq_true rfl) (q_in 916 (by decide +kernel) (by decide +kernel)) (fun κ ok kx fin => ?_)
  unfold f_L_trySelection0 at h
  refine j_aload_n (pc := 0) 0 ok dL_trySelection_0 rfl rfl ?_
  refine j_iload_n (pc := 1) 1 ok dL_trySelection_1 rfl rfl ?_
  obtain ⟨r1, hr1, h⟩ := bd_inv h
  have hz9 : r1.1 = 0 := z_tg1_0 h
  unfold tg1 at h
  refine j_callX (pc := 2) ok kx (k_X7_selection (a0 := a0) (a0_now := a0_now) (a0_trial := a0_trial) (a0_firstKeep := a0_firstKeep) (a0_secondKeep := a0_secondKeep) (a0_history := a0_history) (a0_clipboard := a0_clipboard) (a0_reader := a0_reader) (a0_writer := a0_writer) (a0_picture := a0_picture) (a0_now_marks := a0_now_marks) (a0_now_size := a0_now_size) (a0_now_caret := a0_now_caret) (a0_now_from := a0_now_from) (a0_now_marksF := a0_now_marksF) (x1 := x1) hr1) gV_L_30 ⟨rfl, hd_X7_selection⟩ [0, 1, 2] (by decide) rfl rfl 0 rfl rfl rfl rfl ⟨by rw [hz9]; exact Nat.le_of_ble_eq_true rfl, by rw [hz9]; exact Nat.le_of_ble_eq_true rfl⟩ (Nat.le_of_ble_eq_true rfl) dL_trySelection_2 rfl [(a0, .inr (7, [.ref a0_now, .ref a0_trial, .ref a0_firstKeep, .ref a0_secondKeep, .ref a0_history, .ref a0_clipboard, .ref a0_reader, .ref a0_writer, .ref a0_picture])), (a0_now, .inr (0, [.ref a0_now_marks, .int (iI a0_now_size), .int (iI a0_now_caret), .int (iI a0_now_from)])), (a0_now_marks, .inl (cs.1, 180, .inl (aI a0_now_marksF)))] rfl (fun ht => ?_) (fun E hE => ?_)
  · rw [if_pos ht] at h
    obtain rfl := Option.some.inj h
    exact fin _ _ _ 5 (Nat.le_of_ble_eq_true rfl) (Nat.le_of_ble_eq_true rfl) dL_trySelection_5
  · have hn0 : ¬ r1.1 = 0 := fun z => by rw [z] at hE; cases hE
    rw [if_neg hn0] at h
    by_cases ht0 : r1.1 = 1
    · rw [if_pos ht0] at h
      rw [ht0] at hE
      obtain rfl := Option.some.inj hE
      refine ⟨[], ⟨0, 5, 6, 13⟩, [], rfl, fun z hz => absurd hz List.not_mem_nil, by decide, by decide, q_in 814 (by decide +kernel) (by decide +kernel), by decide, fun q9 => ?_⟩
      refine j_eq (pc' := 6) rfl rfl rfl rfl ?_
      cases h
    · rw [if_neg ht0] at h
      cases h
def f_L_tryLinearAt (a0_now_size : Int) (a0_writer_length : Int) (a0_now_marksF : (Nat → Int)) (a0_writer_bracketedF : (Nat → Int)) (a0_writer_signsF : (Nat → Int)) (x1 : Int) : Option (Int × Int × (Nat → Int) × (Nat → Int)) := bd (f_X7_linearAt a0_now_size a0_writer_length a0_now_marksF a0_writer_bracketedF a0_writer_signsF x1) (fun r1 => tg1 r1.1 3 (some (r1.2.1, r1.2.2.1, r1.2.2.2.1, r1.2.2.2.2)) (some ((-1001), r1.2.2.1, r1.2.2.2.1, r1.2.2.2.2)))
set_option maxRecDepth 100000 in
set_option maxHeartbeats 4000000 in
theorem k_L_tryLinearAt {D : va_G} {cs : q_CS} {a0 a0_now a0_trial a0_firstKeep a0_secondKeep a0_history a0_clipboard a0_reader a0_writer a0_picture a0_now_marks a0_writer_signs a0_writer_bracketed : Nat} {a0_now_size a0_now_caret a0_now_from a0_writer_length : Int} {a0_now_marksF a0_writer_bracketedF a0_writer_signsF : (Nat → Int)} {x1 : Int} {r : (Int × Int × (Nat → Int) × (Nat → Int))} (h : f_L_tryLinearAt a0_now_size a0_writer_length a0_now_marksF a0_writer_bracketedF a0_writer_signsF x1 = some r) : q_Mh D cs yL_tryLinearAt cL_tryLinearAt 3 [(0, 5, 6, 28)] 7 139 1 6 [.ref a0, .int (iI x1)] [(a0, .inr (7, [.ref a0_now, .ref a0_trial, .ref a0_firstKeep, .ref a0_secondKeep, .ref a0_history, .ref a0_clipboard, .ref a0_reader, .ref a0_writer, .ref a0_picture])), (a0_now, .inr (0, [.ref a0_now_marks, .int (iI a0_now_size), .int (iI a0_now_caret), .int (iI a0_now_from)])), (a0_writer, .inr (6, [.ref a0_writer_signs, .int (iI a0_writer_length), .ref a0_writer_bracketed])), (a0_now_marks, .inl (cs.1, 180, .inl (aI a0_now_marksF))), (a0_writer_bracketed, .inl (cs.2.1, 6, .inl (aI a0_writer_bracketedF))), (a0_writer_signs, .inl (cs.1, 300, .inl (aI a0_writer_signsF)))] r.1 [(a0, .inr (7, [.ref a0_now, .ref a0_trial, .ref a0_firstKeep, .ref a0_secondKeep, .ref a0_history, .ref a0_clipboard, .ref a0_reader, .ref a0_writer, .ref a0_picture])), (a0_now, .inr (0, [.ref a0_now_marks, .int (iI a0_now_size), .int (iI a0_now_caret), .int (iI a0_now_from)])), (a0_writer, .inr (6, [.ref a0_writer_signs, .int (iI r.2.1), .ref a0_writer_bracketed])), (a0_now_marks, .inl (cs.1, 180, .inl (aI a0_now_marksF))), (a0_writer_bracketed, .inl (cs.2.1, 6, .inl (aI r.2.2.1))), (a0_writer_signs, .inl (cs.1, 300, .inl (aI r.2.2.2)))] := by
  refine q_starth [⟨0, 5, 6, 28⟩] [(0, .ref a0), (1, .int (iI x1))] RL rfl (by decide +kernel) rfl rfl (Nat.le_of_ble_eq_true rfl) (q_in 939 (by decide +kernel) (by decide +kernel)) (fun κ ok kx fin => ?_)
  unfold f_L_tryLinearAt at h
  refine j_aload_n (pc := 0) 0 ok dL_tryLinearAt_0 rfl rfl ?_
  refine j_iload_n (pc := 1) 1 ok dL_tryLinearAt_1 rfl rfl ?_
  obtain ⟨r1, hr1, h⟩ := bd_inv h
  unfold tg1 at h
  refine j_callX (pc := 2) ok kx (k_X7_linearAt (a0 := a0) (a0_now := a0_now) (a0_trial := a0_trial) (a0_firstKeep := a0_firstKeep) (a0_secondKeep := a0_secondKeep) (a0_history := a0_history) (a0_clipboard := a0_clipboard) (a0_reader := a0_reader) (a0_writer := a0_writer) (a0_picture := a0_picture) (a0_now_marks := a0_now_marks) (a0_writer_signs := a0_writer_signs) (a0_writer_bracketed := a0_writer_bracketed) (a0_now_size := a0_now_size) (a0_now_caret := a0_now_caret) (a0_now_from := a0_now_from) (a0_writer_length := a0_writer_length) (a0_now_marksF := a0_now_marksF) (a0_writer_bracketedF := a0_writer_bracketedF) (a0_writer_signsF := a0_writer_signsF) (x1 := x1) hr1) gV_L_33 ⟨rfl, hd_X7_linearAt⟩ [0, 1, 2, 3, 4, 5] (by decide) rfl rfl 0 rfl rfl rfl rfl (q_hc1 r1.1) (Nat.le_of_ble_eq_true rfl) dL_tryLinearAt_2 rfl [(a0, .inr (7, [.ref a0_now, .ref a0_trial, .ref a0_firstKeep, .ref a0_secondKeep, .ref a0_history, .ref a0_clipboard, .ref a0_reader, .ref a0_writer, .ref a0_picture])), (a0_now, .inr (0, [.ref a0_now_marks, .int (iI a0_now_size), .int (iI a0_now_caret), .int (iI a0_now_from)])), (a0_writer, .inr (6, [.ref a0_writer_signs, .int (iI r1.2.2.1), .ref a0_writer_bracketed])), (a0_now_marks, .inl (cs.1, 180, .inl (aI a0_now_marksF))), (a0_writer_bracketed, .inl (cs.2.1, 6, .inl (aI r1.2.2.2.1))), (a0_writer_signs, .inl (cs.1, 300, .inl (aI r1.2.2.2.2)))] rfl (fun ht => ?_) (fun E hE => ?_)
  · rw [if_pos ht] at h
    obtain rfl := Option.some.inj h
    exact fin _ _ _ 5 (Nat.le_of_ble_eq_true rfl) (Nat.le_of_ble_eq_true rfl) dL_tryLinearAt_5
  · have hn0 : ¬ r1.1 = 0 := fun z => by rw [z] at hE; cases hE
    rw [if_neg hn0] at h
    by_cases ht0 : r1.1 = 3
    · rw [if_pos ht0] at h
      rw [ht0] at hE
      obtain rfl := Option.some.inj hE
      refine ⟨[], ⟨0, 5, 6, 28⟩, [], rfl, fun z hz => absurd hz List.not_mem_nil, by decide, by decide, q_in 681 (by decide +kernel) (by decide +kernel), by decide, fun q9 => ?_⟩
      refine j_eq (pc' := 6) rfl rfl rfl rfl ?_
      refine j_astore_n (pc := 6) (lv' := [(2, .ref q9), (0, .ref a0), (1, .int (iI x1))]) ok dL_tryLinearAt_6 rfl (by decide) rfl ?_
      refine j_sipush (pc := 7) ok dL_tryLinearAt_7 (by decide) ?_
      obtain rfl := Option.some.inj h
      exact fin _ _ _ 10 (Nat.le_of_ble_eq_true rfl) (Nat.le_of_ble_eq_true rfl) dL_tryLinearAt_10
    · rw [if_neg ht0] at h
      cases h
def f_L_tryLinearAt0 (a0_now_size : Int) (a0_writer_length : Int) (a0_now_marksF : (Nat → Int)) (a0_writer_bracketedF : (Nat → Int)) (a0_writer_signsF : (Nat → Int)) (x1 : Int) : Option (Int × Int × (Nat → Int) × (Nat → Int)) := bd (f_X7_linearAt a0_now_size a0_writer_length a0_now_marksF a0_writer_bracketedF a0_writer_signsF x1) (fun r1 => tg1 r1.1 3 (some (r1.2.1, r1.2.2.1, r1.2.2.2.1, r1.2.2.2.2)) (none))
set_option maxRecDepth 100000 in
set_option maxHeartbeats 4000000 in
theorem k_L_tryLinearAt0 {D : va_G} {cs : q_CS} {a0 a0_now a0_trial a0_firstKeep a0_secondKeep a0_history a0_clipboard a0_reader a0_writer a0_picture a0_now_marks a0_writer_signs a0_writer_bracketed : Nat} {a0_now_size a0_now_caret a0_now_from a0_writer_length : Int} {a0_now_marksF a0_writer_bracketedF a0_writer_signsF : (Nat → Int)} {x1 : Int} {r : (Int × Int × (Nat → Int) × (Nat → Int))} (h : f_L_tryLinearAt0 a0_now_size a0_writer_length a0_now_marksF a0_writer_bracketedF a0_writer_signsF x1 = some r) : q_Mh D cs yL_tryLinearAt cL_tryLinearAt 3 [(0, 5, 6, 28)] 7 139 0 0 [.ref a0, .int (iI x1)] [(a0, .inr (7, [.ref a0_now, .ref a0_trial, .ref a0_firstKeep, .ref a0_secondKeep, .ref a0_history, .ref a0_clipboard, .ref a0_reader, .ref a0_writer, .ref a0_picture])), (a0_now, .inr (0, [.ref a0_now_marks, .int (iI a0_now_size), .int (iI a0_now_caret), .int (iI a0_now_from)])), (a0_writer, .inr (6, [.ref a0_writer_signs, .int (iI a0_writer_length), .ref a0_writer_bracketed])), (a0_now_marks, .inl (cs.1, 180, .inl (aI a0_now_marksF))), (a0_writer_bracketed, .inl (cs.2.1, 6, .inl (aI a0_writer_bracketedF))), (a0_writer_signs, .inl (cs.1, 300, .inl (aI a0_writer_signsF)))] r.1 [(a0, .inr (7, [.ref a0_now, .ref a0_trial, .ref a0_firstKeep, .ref a0_secondKeep, .ref a0_history, .ref a0_clipboard, .ref a0_reader, .ref a0_writer, .ref a0_picture])), (a0_now, .inr (0, [.ref a0_now_marks, .int (iI a0_now_size), .int (iI a0_now_caret), .int (iI a0_now_from)])), (a0_writer, .inr (6, [.ref a0_writer_signs, .int (iI r.2.1), .ref a0_writer_bracketed])), (a0_now_marks, .inl (cs.1, 180, .inl (aI a0_now_marksF))), (a0_writer_bracketed, .inl (cs.2.1, 6, .inl (aI r.2.2.1))), (a0_writer_signs, .inl (cs.1, 300, .inl (aI r.2.2.2)))] := by
  refine q_starth [⟨0, 5, 6, 28⟩] [(0, .ref a0), (1, .int (iI x1))] RL rfl (by decide +kernel) rfl rfl (Nat.le_of_ble_eq_true rfl) (q_in 939 (by decide +kernel) (by decide +kernel)) (fun κ ok kx fin => ?_)
  unfold f_L_tryLinearAt0 at h
  refine j_aload_n (pc := 0) 0 ok dL_tryLinearAt_0 rfl rfl ?_
  refine j_iload_n (pc := 1) 1 ok dL_tryLinearAt_1 rfl rfl ?_
  obtain ⟨r1, hr1, h⟩ := bd_inv h
  have hz9 : r1.1 = 0 := z_tg1_0 h
  unfold tg1 at h
  refine j_callX (pc := 2) ok kx (k_X7_linearAt (a0 := a0) (a0_now := a0_now) (a0_trial := a0_trial) (a0_firstKeep := a0_firstKeep) (a0_secondKeep := a0_secondKeep) (a0_history := a0_history) (a0_clipboard := a0_clipboard) (a0_reader := a0_reader) (a0_writer := a0_writer) (a0_picture := a0_picture) (a0_now_marks := a0_now_marks) (a0_writer_signs := a0_writer_signs) (a0_writer_bracketed := a0_writer_bracketed) (a0_now_size := a0_now_size) (a0_now_caret := a0_now_caret) (a0_now_from := a0_now_from) (a0_writer_length := a0_writer_length) (a0_now_marksF := a0_now_marksF) (a0_writer_bracketedF := a0_writer_bracketedF) (a0_writer_signsF := a0_writer_signsF) (x1 := x1) hr1) gV_L_33 ⟨rfl, hd_X7_linearAt⟩ [0, 1, 2, 3, 4, 5] (by decide) rfl rfl 0 rfl rfl rfl rfl ⟨by rw [hz9]; exact Nat.le_of_ble_eq_true rfl, by rw [hz9]; exact Nat.le_of_ble_eq_true rfl⟩ (Nat.le_of_ble_eq_true rfl) dL_tryLinearAt_2 rfl [(a0, .inr (7, [.ref a0_now, .ref a0_trial, .ref a0_firstKeep, .ref a0_secondKeep, .ref a0_history, .ref a0_clipboard, .ref a0_reader, .ref a0_writer, .ref a0_picture])), (a0_now, .inr (0, [.ref a0_now_marks, .int (iI a0_now_size), .int (iI a0_now_caret), .int (iI a0_now_from)])), (a0_writer, .inr (6, [.ref a0_writer_signs, .int (iI r1.2.2.1), .ref a0_writer_bracketed])), (a0_now_marks, .inl (cs.1, 180, .inl (aI a0_now_marksF))), (a0_writer_bracketed, .inl (cs.2.1, 6, .inl (aI r1.2.2.2.1))), (a0_writer_signs, .inl (cs.1, 300, .inl (aI r1.2.2.2.2)))] rfl (fun ht => ?_) (fun E hE => ?_)
  · rw [if_pos ht] at h
    obtain rfl := Option.some.inj h
    exact fin _ _ _ 5 (Nat.le_of_ble_eq_true rfl) (Nat.le_of_ble_eq_true rfl) dL_tryLinearAt_5
  · have hn0 : ¬ r1.1 = 0 := fun z => by rw [z] at hE; cases hE
    rw [if_neg hn0] at h
    by_cases ht0 : r1.1 = 3
    · rw [if_pos ht0] at h
      rw [ht0] at hE
      obtain rfl := Option.some.inj hE
      refine ⟨[], ⟨0, 5, 6, 28⟩, [], rfl, fun z hz => absurd hz List.not_mem_nil, by decide, by decide, q_in 681 (by decide +kernel) (by decide +kernel), by decide, fun q9 => ?_⟩
      refine j_eq (pc' := 6) rfl rfl rfl rfl ?_
      cases h
    · rw [if_neg ht0] at h
      cases h
def f_L_tryMoveTo (a0_now_size : Int) (a0_now_caret : Int) (a0_now_from : Int) (x1 : Int) : Option (Int × Int × Int) := bd (f_X7_moveTo a0_now_size a0_now_caret a0_now_from x1) (fun r1 => tg1 r1.1 3 (some (r1.2.1, r1.2.2.1, r1.2.2.2)) (some ((-1001), r1.2.2.1, r1.2.2.2)))
set_option maxRecDepth 100000 in
set_option maxHeartbeats 4000000 in
theorem k_L_tryMoveTo {D : va_G} {cs : q_CS} {a0 a0_now a0_trial a0_firstKeep a0_secondKeep a0_history a0_clipboard a0_reader a0_writer a0_picture a0_now_marks : Nat} {a0_now_size a0_now_caret a0_now_from : Int} {a0_now_marksF : (Nat → Int)} {x1 : Int} {r : (Int × Int × Int)} (h : f_L_tryMoveTo a0_now_size a0_now_caret a0_now_from x1 = some r) : q_Mh D cs yL_tryMoveTo cL_tryMoveTo 3 [(0, 5, 6, 28)] 7 104 1 6 [.ref a0, .int (iI x1)] [(a0, .inr (7, [.ref a0_now, .ref a0_trial, .ref a0_firstKeep, .ref a0_secondKeep, .ref a0_history, .ref a0_clipboard, .ref a0_reader, .ref a0_writer, .ref a0_picture])), (a0_now, .inr (0, [.ref a0_now_marks, .int (iI a0_now_size), .int (iI a0_now_caret), .int (iI a0_now_from)])), (a0_now_marks, .inl (cs.1, 180, .inl (aI a0_now_marksF)))] r.1 [(a0, .inr (7, [.ref a0_now, .ref a0_trial, .ref a0_firstKeep, .ref a0_secondKeep, .ref a0_history, .ref a0_clipboard, .ref a0_reader, .ref a0_writer, .ref a0_picture])), (a0_now, .inr (0, [.ref a0_now_marks, .int (iI a0_now_size), .int (iI r.2.1), .int (iI r.2.2)])), (a0_now_marks, .inl (cs.1, 180, .inl (aI a0_now_marksF)))] := by
  refine q_starth [⟨0, 5, 6, 28⟩] [(0, .ref a0), (1, .int (iI x1))] RL rfl (by decide +kernel) rfl rfl (Nat.le_of_ble_eq_true rfl) (q_in 951 (by decide +kernel) (by decide +kernel)) (fun κ ok kx fin => ?_)
  unfold f_L_tryMoveTo at h
  refine j_aload_n (pc := 0) 0 ok dL_tryMoveTo_0 rfl rfl ?_
  refine j_iload_n (pc := 1) 1 ok dL_tryMoveTo_1 rfl rfl ?_
  obtain ⟨r1, hr1, h⟩ := bd_inv h
  unfold tg1 at h
  refine j_callX (pc := 2) ok kx (k_X7_moveTo (a0 := a0) (a0_now := a0_now) (a0_trial := a0_trial) (a0_firstKeep := a0_firstKeep) (a0_secondKeep := a0_secondKeep) (a0_history := a0_history) (a0_clipboard := a0_clipboard) (a0_reader := a0_reader) (a0_writer := a0_writer) (a0_picture := a0_picture) (a0_now_marks := a0_now_marks) (a0_now_size := a0_now_size) (a0_now_caret := a0_now_caret) (a0_now_from := a0_now_from) (a0_now_marksF := a0_now_marksF) (x1 := x1) hr1) gV_L_36 ⟨rfl, hd_X7_moveTo⟩ [0, 1, 2] (by decide) rfl rfl 0 rfl rfl rfl rfl (q_hc1 r1.1) (Nat.le_of_ble_eq_true rfl) dL_tryMoveTo_2 rfl [(a0, .inr (7, [.ref a0_now, .ref a0_trial, .ref a0_firstKeep, .ref a0_secondKeep, .ref a0_history, .ref a0_clipboard, .ref a0_reader, .ref a0_writer, .ref a0_picture])), (a0_now, .inr (0, [.ref a0_now_marks, .int (iI a0_now_size), .int (iI r1.2.2.1), .int (iI r1.2.2.2)])), (a0_now_marks, .inl (cs.1, 180, .inl (aI a0_now_marksF)))] rfl (fun ht => ?_) (fun E hE => ?_)
  · rw [if_pos ht] at h
    obtain rfl := Option.some.inj h
    exact fin _ _ _ 5 (Nat.le_of_ble_eq_true rfl) (Nat.le_of_ble_eq_true rfl) dL_tryMoveTo_5
  · have hn0 : ¬ r1.1 = 0 := fun z => by rw [z] at hE; cases hE
    rw [if_neg hn0] at h
    by_cases ht0 : r1.1 = 3
    · rw [if_pos ht0] at h
      rw [ht0] at hE
      obtain rfl := Option.some.inj hE
      refine ⟨[], ⟨0, 5, 6, 28⟩, [], rfl, fun z hz => absurd hz List.not_mem_nil, by decide, by decide, q_in 681 (by decide +kernel) (by decide +kernel), by decide, fun q9 => ?_⟩
      refine j_eq (pc' := 6) rfl rfl rfl rfl ?_
      refine j_astore_n (pc := 6) (lv' := [(2, .ref q9), (0, .ref a0), (1, .int (iI x1))]) ok dL_tryMoveTo_6 rfl (by decide) rfl ?_
      refine j_sipush (pc := 7) ok dL_tryMoveTo_7 (by decide) ?_
      obtain rfl := Option.some.inj h
      exact fin _ _ _ 10 (Nat.le_of_ble_eq_true rfl) (Nat.le_of_ble_eq_true rfl) dL_tryMoveTo_10
    · rw [if_neg ht0] at h
      cases h
def f_L_tryMoveTo0 (a0_now_size : Int) (a0_now_caret : Int) (a0_now_from : Int) (x1 : Int) : Option (Int × Int × Int) := bd (f_X7_moveTo a0_now_size a0_now_caret a0_now_from x1) (fun r1 => tg1 r1.1 3 (some (r1.2.1, r1.2.2.1, r1.2.2.2)) (none))
set_option maxRecDepth 100000 in
set_option maxHeartbeats 4000000 in
theorem k_L_tryMoveTo0 {D : va_G} {cs : q_CS} {a0 a0_now a0_trial a0_firstKeep a0_secondKeep a0_history a0_clipboard a0_reader a0_writer a0_picture a0_now_marks : Nat} {a0_now_size a0_now_caret a0_now_from : Int} {a0_now_marksF : (Nat → Int)} {x1 : Int} {r : (Int × Int × Int)} (h : f_L_tryMoveTo0 a0_now_size a0_now_caret a0_now_from x1 = some r) : q_Mh D cs yL_tryMoveTo cL_tryMoveTo 3 [(0, 5, 6, 28)] 7 104 0 0 [.ref a0, .int (iI x1)] [(a0, .inr (7, [.ref a0_now, .ref a0_trial, .ref a0_firstKeep, .ref a0_secondKeep, .ref a0_history, .ref a0_clipboard, .ref a0_reader, .ref a0_writer, .ref a0_picture])), (a0_now, .inr (0, [.ref a0_now_marks, .int (iI a0_now_size), .int (iI a0_now_caret), .int (iI a0_now_from)])), (a0_now_marks, .inl (cs.1, 180, .inl (aI a0_now_marksF)))] r.1 [(a0, .inr (7, [.ref a0_now, .ref a0_trial, .ref a0_firstKeep, .ref a0_secondKeep, .ref a0_history, .ref a0_clipboard, .ref a0_reader, .ref a0_writer, .ref a0_picture])), (a0_now, .inr (0, [.ref a0_now_marks, .int (iI a0_now_size), .int (iI r.2.1), .int (iI r.2.2)])), (a0_now_marks, .inl (cs.1, 180, .inl (aI a0_now_marksF)))] := by
  refine q_starth [⟨0, 5, 6, 28⟩] [(0, .ref a0), (1, .int (iI x1))] RL rfl (by decide +kernel) rfl rfl (Nat.le_of_ble_eq_true rfl) (q_in 951 (by decide +kernel) (by decide +kernel)) (fun κ ok kx fin => ?_)
  unfold f_L_tryMoveTo0 at h
  refine j_aload_n (pc := 0) 0 ok dL_tryMoveTo_0 rfl rfl ?_
  refine j_iload_n (pc := 1) 1 ok dL_tryMoveTo_1 rfl rfl ?_
  obtain ⟨r1, hr1, h⟩ := bd_inv h
  have hz9 : r1.1 = 0 := z_tg1_0 h
  unfold tg1 at h
  refine j_callX (pc := 2) ok kx (k_X7_moveTo (a0 := a0) (a0_now := a0_now) (a0_trial := a0_trial) (a0_firstKeep := a0_firstKeep) (a0_secondKeep := a0_secondKeep) (a0_history := a0_history) (a0_clipboard := a0_clipboard) (a0_reader := a0_reader) (a0_writer := a0_writer) (a0_picture := a0_picture) (a0_now_marks := a0_now_marks) (a0_now_size := a0_now_size) (a0_now_caret := a0_now_caret) (a0_now_from := a0_now_from) (a0_now_marksF := a0_now_marksF) (x1 := x1) hr1) gV_L_36 ⟨rfl, hd_X7_moveTo⟩ [0, 1, 2] (by decide) rfl rfl 0 rfl rfl rfl rfl ⟨by rw [hz9]; exact Nat.le_of_ble_eq_true rfl, by rw [hz9]; exact Nat.le_of_ble_eq_true rfl⟩ (Nat.le_of_ble_eq_true rfl) dL_tryMoveTo_2 rfl [(a0, .inr (7, [.ref a0_now, .ref a0_trial, .ref a0_firstKeep, .ref a0_secondKeep, .ref a0_history, .ref a0_clipboard, .ref a0_reader, .ref a0_writer, .ref a0_picture])), (a0_now, .inr (0, [.ref a0_now_marks, .int (iI a0_now_size), .int (iI r1.2.2.1), .int (iI r1.2.2.2)])), (a0_now_marks, .inl (cs.1, 180, .inl (aI a0_now_marksF)))] rfl (fun ht => ?_) (fun E hE => ?_)
  · rw [if_pos ht] at h
    obtain rfl := Option.some.inj h
    exact fin _ _ _ 5 (Nat.le_of_ble_eq_true rfl) (Nat.le_of_ble_eq_true rfl) dL_tryMoveTo_5
  · have hn0 : ¬ r1.1 = 0 := fun z => by rw [z] at hE; cases hE
    rw [if_neg hn0] at h
    by_cases ht0 : r1.1 = 3
    · rw [if_pos ht0] at h
      rw [ht0] at hE
      obtain rfl := Option.some.inj hE
      refine ⟨[], ⟨0, 5, 6, 28⟩, [], rfl, fun z hz => absurd hz List.not_mem_nil, by decide, by decide, q_in 681 (by decide +kernel) (by decide +kernel), by decide, fun q9 => ?_⟩
      refine j_eq (pc' := 6) rfl rfl rfl rfl ?_
      cases h
    · rw [if_neg ht0] at h
      cases h
def f_L_tryMoveBy (a0_now_size : Int) (a0_now_caret : Int) (a0_now_from : Int) (x1 : Int) : Option (Int × Int × Int) := bd (f_X7_moveBy a0_now_size a0_now_caret a0_now_from x1) (fun r1 => tg1 r1.1 1 (some (r1.2.1, r1.2.2.1, r1.2.2.2)) (some ((-1002), r1.2.2.1, r1.2.2.2)))
set_option maxRecDepth 100000 in
set_option maxHeartbeats 4000000 in
theorem k_L_tryMoveBy {D : va_G} {cs : q_CS} {a0 a0_now a0_trial a0_firstKeep a0_secondKeep a0_history a0_clipboard a0_reader a0_writer a0_picture a0_now_marks : Nat} {a0_now_size a0_now_caret a0_now_from : Int} {x1 : Int} {r : (Int × Int × Int)} (h : f_L_tryMoveBy a0_now_size a0_now_caret a0_now_from x1 = some r) : q_Mh D cs yL_tryMoveBy cL_tryMoveBy 3 [(0, 5, 6, 13)] 7 103 1 6 [.ref a0, .int (iI x1)] [(a0, .inr (7, [.ref a0_now, .ref a0_trial, .ref a0_firstKeep, .ref a0_secondKeep, .ref a0_history, .ref a0_clipboard, .ref a0_reader, .ref a0_writer, .ref a0_picture])), (a0_now, .inr (0, [.ref a0_now_marks, .int (iI a0_now_size), .int (iI a0_now_caret), .int (iI a0_now_from)]))] r.1 [(a0, .inr (7, [.ref a0_now, .ref a0_trial, .ref a0_firstKeep, .ref a0_secondKeep, .ref a0_history, .ref a0_clipboard, .ref a0_reader, .ref a0_writer, .ref a0_picture])), (a0_now, .inr (0, [.ref a0_now_marks, .int (iI a0_now_size), .int (iI r.2.1), .int (iI r.2.2)]))] := by
  refine q_starth [⟨0, 5, 6, 13⟩] [(0, .ref a0), (1, .int (iI x1))] RL rfl (by decide +kernel) rfl rfl (Nat.le_of_ble_eq_true rfl) (q_in 958 (by decide +kernel) (by decide +kernel)) (fun κ ok kx fin => ?_)
  unfold f_L_tryMoveBy at h
  refine j_aload_n (pc := 0) 0 ok dL_tryMoveBy_0 rfl rfl ?_
  refine j_iload_n (pc := 1) 1 ok dL_tryMoveBy_1 rfl rfl ?_
  obtain ⟨r1, hr1, h⟩ := bd_inv h
  unfold tg1 at h
  refine j_callX (pc := 2) ok kx (k_X7_moveBy (a0 := a0) (a0_now := a0_now) (a0_trial := a0_trial) (a0_firstKeep := a0_firstKeep) (a0_secondKeep := a0_secondKeep) (a0_history := a0_history) (a0_clipboard := a0_clipboard) (a0_reader := a0_reader) (a0_writer := a0_writer) (a0_picture := a0_picture) (a0_now_marks := a0_now_marks) (a0_now_size := a0_now_size) (a0_now_caret := a0_now_caret) (a0_now_from := a0_now_from) (x1 := x1) hr1) gV_L_39 ⟨rfl, hd_X7_moveBy⟩ [0, 1] (by decide) rfl rfl 0 rfl rfl rfl rfl (q_hc1 r1.1) (Nat.le_of_ble_eq_true rfl) dL_tryMoveBy_2 rfl [(a0, .inr (7, [.ref a0_now, .ref a0_trial, .ref a0_firstKeep, .ref a0_secondKeep, .ref a0_history, .ref a0_clipboard, .ref a0_reader, .ref a0_writer, .ref a0_picture])), (a0_now, .inr (0, [.ref a0_now_marks, .int (iI a0_now_size), .int (iI r1.2.2.1), .int (iI r1.2.2.2)]))] rfl (fun ht => ?_) (fun E hE => ?_)
  · rw [if_pos ht] at h
    obtain rfl := Option.some.inj h
    exact fin _ _ _ 5 (Nat.le_of_ble_eq_true rfl) (Nat.le_of_ble_eq_true rfl) dL_tryMoveBy_5
  · have hn0 : ¬ r1.1 = 0 := fun z => by rw [z] at hE; cases hE
    rw [if_neg hn0] at h
    by_cases ht0 : r1.1 = 1
    · rw [if_pos ht0] at h
      rw [ht0] at hE
      obtain rfl := Option.some.inj hE
      refine ⟨[], ⟨0, 5, 6, 13⟩, [], rfl, fun z hz => absurd hz List.not_mem_nil, by decide, by decide, q_in 814 (by decide +kernel) (by decide +kernel), by decide, fun q9 => ?_⟩
      refine j_eq (pc' := 6) rfl rfl rfl rfl ?_
      refine j_astore_n (pc := 6) (lv' := [(2, .ref q9), (0, .ref a0), (1, .int (iI x1))]) ok dL_tryMoveBy_6 rfl (by decide) rfl ?_
      refine j_sipush (pc := 7) ok dL_tryMoveBy_7 (by decide) ?_
      obtain rfl := Option.some.inj h
      exact fin _ _ _ 10 (Nat.le_of_ble_eq_true rfl) (Nat.le_of_ble_eq_true rfl) dL_tryMoveBy_10
    · rw [if_neg ht0] at h
      cases h
def f_L_tryMoveBy0 (a0_now_size : Int) (a0_now_caret : Int) (a0_now_from : Int) (x1 : Int) : Option (Int × Int × Int) := bd (f_X7_moveBy a0_now_size a0_now_caret a0_now_from x1) (fun r1 => tg1 r1.1 1 (some (r1.2.1, r1.2.2.1, r1.2.2.2)) (none))
set_option maxRecDepth 100000 in
set_option maxHeartbeats 4000000 in
theorem k_L_tryMoveBy0 {D : va_G} {cs : q_CS} {a0 a0_now a0_trial a0_firstKeep a0_secondKeep a0_history a0_clipboard a0_reader a0_writer a0_picture a0_now_marks : Nat} {a0_now_size a0_now_caret a0_now_from : Int} {x1 : Int} {r : (Int × Int × Int)} (h : f_L_tryMoveBy0 a0_now_size a0_now_caret a0_now_from x1 = some r) : q_Mh D cs yL_tryMoveBy cL_tryMoveBy 3 [(0, 5, 6, 13)] 7 103 0 0 [.ref a0, .int (iI x1)] [(a0, .inr (7, [.ref a0_now, .ref a0_trial, .ref a0_firstKeep, .ref a0_secondKeep, .ref a0_history, .ref a0_clipboard, .ref a0_reader, .ref a0_writer, .ref a0_picture])), (a0_now, .inr (0, [.ref a0_now_marks, .int (iI a0_now_size), .int (iI a0_now_caret), .int (iI a0_now_from)]))] r.1 [(a0, .inr (7, [.ref a0_now, .ref a0_trial, .ref a0_firstKeep, .ref a0_secondKeep, .ref a0_history, .ref a0_clipboard, .ref a0_reader, .ref a0_writer, .ref a0_picture])), (a0_now, .inr (0, [.ref a0_now_marks, .int (iI a0_now_size), .int (iI r.2.1), .int (iI r.2.2)]))] := by
  refine q_starth [⟨0, 5, 6, 13⟩] [(0, .ref a0), (1, .int (iI x1))] RL rfl (by decide +kernel) rfl rfl (Nat.le_of_ble_eq_true rfl) (q_in 958 (by decide +kernel) (by decide +kernel)) (fun κ ok kx fin => ?_)
  unfold f_L_tryMoveBy0 at h
  refine j_aload_n (pc := 0) 0 ok dL_tryMoveBy_0 rfl rfl ?_
  refine j_iload_n (pc := 1) 1 ok dL_tryMoveBy_1 rfl rfl ?_
  obtain ⟨r1, hr1, h⟩ := bd_inv h
  have hz9 : r1.1 = 0 := z_tg1_0 h
  unfold tg1 at h
  refine j_callX (pc := 2) ok kx (k_X7_moveBy (a0 := a0) (a0_now := a0_now) (a0_trial := a0_trial) (a0_firstKeep := a0_firstKeep) (a0_secondKeep := a0_secondKeep) (a0_history := a0_history) (a0_clipboard := a0_clipboard) (a0_reader := a0_reader) (a0_writer := a0_writer) (a0_picture := a0_picture) (a0_now_marks := a0_now_marks) (a0_now_size := a0_now_size) (a0_now_caret := a0_now_caret) (a0_now_from := a0_now_from) (x1 := x1) hr1) gV_L_39 ⟨rfl, hd_X7_moveBy⟩ [0, 1] (by decide) rfl rfl 0 rfl rfl rfl rfl ⟨by rw [hz9]; exact Nat.le_of_ble_eq_true rfl, by rw [hz9]; exact Nat.le_of_ble_eq_true rfl⟩ (Nat.le_of_ble_eq_true rfl) dL_tryMoveBy_2 rfl [(a0, .inr (7, [.ref a0_now, .ref a0_trial, .ref a0_firstKeep, .ref a0_secondKeep, .ref a0_history, .ref a0_clipboard, .ref a0_reader, .ref a0_writer, .ref a0_picture])), (a0_now, .inr (0, [.ref a0_now_marks, .int (iI a0_now_size), .int (iI r1.2.2.1), .int (iI r1.2.2.2)]))] rfl (fun ht => ?_) (fun E hE => ?_)
  · rw [if_pos ht] at h
    obtain rfl := Option.some.inj h
    exact fin _ _ _ 5 (Nat.le_of_ble_eq_true rfl) (Nat.le_of_ble_eq_true rfl) dL_tryMoveBy_5
  · have hn0 : ¬ r1.1 = 0 := fun z => by rw [z] at hE; cases hE
    rw [if_neg hn0] at h
    by_cases ht0 : r1.1 = 1
    · rw [if_pos ht0] at h
      rw [ht0] at hE
      obtain rfl := Option.some.inj hE
      refine ⟨[], ⟨0, 5, 6, 13⟩, [], rfl, fun z hz => absurd hz List.not_mem_nil, by decide, by decide, q_in 814 (by decide +kernel) (by decide +kernel), by decide, fun q9 => ?_⟩
      refine j_eq (pc' := 6) rfl rfl rfl rfl ?_
      cases h
    · rw [if_neg ht0] at h
      cases h
def f_L_tryExtend (a0_now_size : Int) (a0_now_caret : Int) (a0_now_from : Int) (a0_now_marksF : (Nat → Int)) (x1 : Int) : Option (Int × Int × Int) := bd (f_X7_extend a0_now_size a0_now_caret a0_now_from a0_now_marksF x1) (fun r1 => tg1 r1.1 2 (some (r1.2.1, r1.2.2.1, r1.2.2.2)) (some ((-1003), r1.2.2.1, r1.2.2.2)))
set_option maxRecDepth 100000 in
set_option maxHeartbeats 4000000 in
theorem k_L_tryExtend {D : va_G} {cs : q_CS} {a0 a0_now a0_trial a0_firstKeep a0_secondKeep a0_history a0_clipboard a0_reader a0_writer a0_picture a0_now_marks : Nat} {a0_now_size a0_now_caret a0_now_from : Int} {a0_now_marksF : (Nat → Int)} {x1 : Int} {r : (Int × Int × Int)} (h : f_L_tryExtend a0_now_size a0_now_caret a0_now_from a0_now_marksF x1 = some r) : q_Mh D cs yL_tryExtend cL_tryExtend 3 [(0, 5, 6, 15)] 7 104 1 6 [.ref a0, .int (iI x1)] [(a0, .inr (7, [.ref a0_now, .ref a0_trial, .ref a0_firstKeep, .ref a0_secondKeep, .ref a0_history, .ref a0_clipboard, .ref a0_reader, .ref a0_writer, .ref a0_picture])), (a0_now, .inr (0, [.ref a0_now_marks, .int (iI a0_now_size), .int (iI a0_now_caret), .int (iI a0_now_from)])), (a0_now_marks, .inl (cs.1, 180, .inl (aI a0_now_marksF)))] r.1 [(a0, .inr (7, [.ref a0_now, .ref a0_trial, .ref a0_firstKeep, .ref a0_secondKeep, .ref a0_history, .ref a0_clipboard, .ref a0_reader, .ref a0_writer, .ref a0_picture])), (a0_now, .inr (0, [.ref a0_now_marks, .int (iI a0_now_size), .int (iI r.2.1), .int (iI r.2.2)])), (a0_now_marks, .inl (cs.1, 180, .inl (aI a0_now_marksF)))] := by
  refine q_starth [⟨0, 5, 6, 15⟩] [(0, .ref a0), (1, .int (iI x1))] RL rfl (by decide +kernel) rfl rfl (Nat.le_of_ble_eq_true rfl) (q_in 562 (by decide +kernel) (by decide +kernel)) (fun κ ok kx fin => ?_)
  unfold f_L_tryExtend at h
  refine j_aload_n (pc := 0) 0 ok dL_tryExtend_0 rfl rfl ?_
  refine j_iload_n (pc := 1) 1 ok dL_tryExtend_1 rfl rfl ?_
  obtain ⟨r1, hr1, h⟩ := bd_inv h
  unfold tg1 at h
  refine j_callX (pc := 2) ok kx (k_X7_extend (a0 := a0) (a0_now := a0_now) (a0_trial := a0_trial) (a0_firstKeep := a0_firstKeep) (a0_secondKeep := a0_secondKeep) (a0_history := a0_history) (a0_clipboard := a0_clipboard) (a0_reader := a0_reader) (a0_writer := a0_writer) (a0_picture := a0_picture) (a0_now_marks := a0_now_marks) (a0_now_size := a0_now_size) (a0_now_caret := a0_now_caret) (a0_now_from := a0_now_from) (a0_now_marksF := a0_now_marksF) (x1 := x1) hr1) gV_L_42 ⟨rfl, hd_X7_extend⟩ [0, 1, 2] (by decide) rfl rfl 0 rfl rfl rfl rfl (q_hc1 r1.1) (Nat.le_of_ble_eq_true rfl) dL_tryExtend_2 rfl [(a0, .inr (7, [.ref a0_now, .ref a0_trial, .ref a0_firstKeep, .ref a0_secondKeep, .ref a0_history, .ref a0_clipboard, .ref a0_reader, .ref a0_writer, .ref a0_picture])), (a0_now, .inr (0, [.ref a0_now_marks, .int (iI a0_now_size), .int (iI r1.2.2.1), .int (iI r1.2.2.2)])), (a0_now_marks, .inl (cs.1, 180, .inl (aI a0_now_marksF)))] rfl (fun ht => ?_) (fun E hE => ?_)
  · rw [if_pos ht] at h
    obtain rfl := Option.some.inj h
    exact fin _ _ _ 5 (Nat.le_of_ble_eq_true rfl) (Nat.le_of_ble_eq_true rfl) dL_tryExtend_5
  · have hn0 : ¬ r1.1 = 0 := fun z => by rw [z] at hE; cases hE
    rw [if_neg hn0] at h
    by_cases ht0 : r1.1 = 2
    · rw [if_pos ht0] at h
      rw [ht0] at hE
      obtain rfl := Option.some.inj hE
      refine ⟨[], ⟨0, 5, 6, 15⟩, [], rfl, fun z hz => absurd hz List.not_mem_nil, by decide, by decide, q_in 457 (by decide +kernel) (by decide +kernel), by decide, fun q9 => ?_⟩
      refine j_eq (pc' := 6) rfl rfl rfl rfl ?_
      refine j_astore_n (pc := 6) (lv' := [(2, .ref q9), (0, .ref a0), (1, .int (iI x1))]) ok dL_tryExtend_6 rfl (by decide) rfl ?_
      refine j_sipush (pc := 7) ok dL_tryExtend_7 (by decide) ?_
      obtain rfl := Option.some.inj h
      exact fin _ _ _ 10 (Nat.le_of_ble_eq_true rfl) (Nat.le_of_ble_eq_true rfl) dL_tryExtend_10
    · rw [if_neg ht0] at h
      cases h
def f_L_tryExtend0 (a0_now_size : Int) (a0_now_caret : Int) (a0_now_from : Int) (a0_now_marksF : (Nat → Int)) (x1 : Int) : Option (Int × Int × Int) := bd (f_X7_extend a0_now_size a0_now_caret a0_now_from a0_now_marksF x1) (fun r1 => tg1 r1.1 2 (some (r1.2.1, r1.2.2.1, r1.2.2.2)) (none))
set_option maxRecDepth 100000 in
set_option maxHeartbeats 4000000 in
theorem k_L_tryExtend0 {D : va_G} {cs : q_CS} {a0 a0_now a0_trial a0_firstKeep a0_secondKeep a0_history a0_clipboard a0_reader a0_writer a0_picture a0_now_marks : Nat} {a0_now_size a0_now_caret a0_now_from : Int} {a0_now_marksF : (Nat → Int)} {x1 : Int} {r : (Int × Int × Int)} (h : f_L_tryExtend0 a0_now_size a0_now_caret a0_now_from a0_now_marksF x1 = some r) : q_Mh D cs yL_tryExtend cL_tryExtend 3 [(0, 5, 6, 15)] 7 104 0 0 [.ref a0, .int (iI x1)] [(a0, .inr (7, [.ref a0_now, .ref a0_trial, .ref a0_firstKeep, .ref a0_secondKeep, .ref a0_history, .ref a0_clipboard, .ref a0_reader, .ref a0_writer, .ref a0_picture])), (a0_now, .inr (0, [.ref a0_now_marks, .int (iI a0_now_size), .int (iI a0_now_caret), .int (iI a0_now_from)])), (a0_now_marks, .inl (cs.1, 180, .inl (aI a0_now_marksF)))] r.1 [(a0, .inr (7, [.ref a0_now, .ref a0_trial, .ref a0_firstKeep, .ref a0_secondKeep, .ref a0_history, .ref a0_clipboard, .ref a0_reader, .ref a0_writer, .ref a0_picture])), (a0_now, .inr (0, [.ref a0_now_marks, .int (iI a0_now_size), .int (iI r.2.1), .int (iI r.2.2)])), (a0_now_marks, .inl (cs.1, 180, .inl (aI a0_now_marksF)))] := by
  refine q_starth [⟨0, 5, 6, 15⟩] [(0, .ref a0), (1, .int (iI x1))] RL rfl (by decide +kernel) rfl rfl (Nat.le_of_ble_eq_true rfl) (q_in 562 (by decide +kernel) (by decide +kernel)) (fun κ ok kx fin => ?_)
  unfold f_L_tryExtend0 at h
  refine j_aload_n (pc := 0) 0 ok dL_tryExtend_0 rfl rfl ?_
  refine j_iload_n (pc := 1) 1 ok dL_tryExtend_1 rfl rfl ?_
  obtain ⟨r1, hr1, h⟩ := bd_inv h
  have hz9 : r1.1 = 0 := z_tg1_0 h
  unfold tg1 at h
  refine j_callX (pc := 2) ok kx (k_X7_extend (a0 := a0) (a0_now := a0_now) (a0_trial := a0_trial) (a0_firstKeep := a0_firstKeep) (a0_secondKeep := a0_secondKeep) (a0_history := a0_history) (a0_clipboard := a0_clipboard) (a0_reader := a0_reader) (a0_writer := a0_writer) (a0_picture := a0_picture) (a0_now_marks := a0_now_marks) (a0_now_size := a0_now_size) (a0_now_caret := a0_now_caret) (a0_now_from := a0_now_from) (a0_now_marksF := a0_now_marksF) (x1 := x1) hr1) gV_L_42 ⟨rfl, hd_X7_extend⟩ [0, 1, 2] (by decide) rfl rfl 0 rfl rfl rfl rfl ⟨by rw [hz9]; exact Nat.le_of_ble_eq_true rfl, by rw [hz9]; exact Nat.le_of_ble_eq_true rfl⟩ (Nat.le_of_ble_eq_true rfl) dL_tryExtend_2 rfl [(a0, .inr (7, [.ref a0_now, .ref a0_trial, .ref a0_firstKeep, .ref a0_secondKeep, .ref a0_history, .ref a0_clipboard, .ref a0_reader, .ref a0_writer, .ref a0_picture])), (a0_now, .inr (0, [.ref a0_now_marks, .int (iI a0_now_size), .int (iI r1.2.2.1), .int (iI r1.2.2.2)])), (a0_now_marks, .inl (cs.1, 180, .inl (aI a0_now_marksF)))] rfl (fun ht => ?_) (fun E hE => ?_)
  · rw [if_pos ht] at h
    obtain rfl := Option.some.inj h
    exact fin _ _ _ 5 (Nat.le_of_ble_eq_true rfl) (Nat.le_of_ble_eq_true rfl) dL_tryExtend_5
  · have hn0 : ¬ r1.1 = 0 := fun z => by rw [z] at hE; cases hE
    rw [if_neg hn0] at h
    by_cases ht0 : r1.1 = 2
    · rw [if_pos ht0] at h
      rw [ht0] at hE
      obtain rfl := Option.some.inj hE
      refine ⟨[], ⟨0, 5, 6, 15⟩, [], rfl, fun z hz => absurd hz List.not_mem_nil, by decide, by decide, q_in 457 (by decide +kernel) (by decide +kernel), by decide, fun q9 => ?_⟩
      refine j_eq (pc' := 6) rfl rfl rfl rfl ?_
      cases h
    · rw [if_neg ht0] at h
      cases h
def f_L_tryGrow (a0_now_size : Int) (a0_now_caret : Int) (a0_now_from : Int) (a0_now_marksF : (Nat → Int)) : Option (Int × Int × Int) := bd (f_X7_grow a0_now_size a0_now_caret a0_now_from a0_now_marksF) (fun r1 => tg1 r1.1 2 (some (r1.2.1, r1.2.2.1, r1.2.2.2)) (some ((-1003), r1.2.2.1, r1.2.2.2)))
set_option maxRecDepth 100000 in
set_option maxHeartbeats 4000000 in
theorem k_L_tryGrow {D : va_G} {cs : q_CS} {a0 a0_now a0_trial a0_firstKeep a0_secondKeep a0_history a0_clipboard a0_reader a0_writer a0_picture a0_now_marks : Nat} {a0_now_size a0_now_caret a0_now_from : Int} {a0_now_marksF : (Nat → Int)} {r : (Int × Int × Int)} (h : f_L_tryGrow a0_now_size a0_now_caret a0_now_from a0_now_marksF = some r) : q_Mh D cs yL_tryGrow cL_tryGrow 2 [(0, 4, 5, 15)] 7 110 1 6 [.ref a0] [(a0, .inr (7, [.ref a0_now, .ref a0_trial, .ref a0_firstKeep, .ref a0_secondKeep, .ref a0_history, .ref a0_clipboard, .ref a0_reader, .ref a0_writer, .ref a0_picture])), (a0_now, .inr (0, [.ref a0_now_marks, .int (iI a0_now_size), .int (iI a0_now_caret), .int (iI a0_now_from)])), (a0_now_marks, .inl (cs.1, 180, .inl (aI a0_now_marksF)))] r.1 [(a0, .inr (7, [.ref a0_now, .ref a0_trial, .ref a0_firstKeep, .ref a0_secondKeep, .ref a0_history, .ref a0_clipboard, .ref a0_reader, .ref a0_writer, .ref a0_picture])), (a0_now, .inr (0, [.ref a0_now_marks, .int (iI a0_now_size), .int (iI r.2.1), .int (iI r.2.2)])), (a0_now_marks, .inl (cs.1, 180, .inl (aI a0_now_marksF)))] := by
  refine q_starth [⟨0, 4, 5, 15⟩] [(0, .ref a0)] RL rfl (by decide +kernel) rfl rfl (Nat.le_of_ble_eq_true rfl) (q_in 597 (by decide +kernel) (by decide +kernel)) (fun κ ok kx fin => ?_)
  unfold f_L_tryGrow at h
  refine j_aload_n (pc := 0) 0 ok dL_tryGrow_0 rfl rfl ?_
  obtain ⟨r1, hr1, h⟩ := bd_inv h
  unfold tg1 at h
  refine j_callX (pc := 1) ok kx (k_X7_grow (a0 := a0) (a0_now := a0_now) (a0_trial := a0_trial) (a0_firstKeep := a0_firstKeep) (a0_secondKeep := a0_secondKeep) (a0_history := a0_history) (a0_clipboard := a0_clipboard) (a0_reader := a0_reader) (a0_writer := a0_writer) (a0_picture := a0_picture) (a0_now_marks := a0_now_marks) (a0_now_size := a0_now_size) (a0_now_caret := a0_now_caret) (a0_now_from := a0_now_from) (a0_now_marksF := a0_now_marksF) hr1) gV_L_46 ⟨rfl, hd_X7_grow⟩ [0, 1, 2] (by decide) rfl rfl 0 rfl rfl rfl rfl (q_hc1 r1.1) (Nat.le_of_ble_eq_true rfl) dL_tryGrow_1 rfl [(a0, .inr (7, [.ref a0_now, .ref a0_trial, .ref a0_firstKeep, .ref a0_secondKeep, .ref a0_history, .ref a0_clipboard, .ref a0_reader, .ref a0_writer, .ref a0_picture])), (a0_now, .inr (0, [.ref a0_now_marks, .int (iI a0_now_size), .int (iI r1.2.2.1), .int (iI r1.2.2.2)])), (a0_now_marks, .inl (cs.1, 180, .inl (aI a0_now_marksF)))] rfl (fun ht => ?_) (fun E hE => ?_)
  · rw [if_pos ht] at h
    obtain rfl := Option.some.inj h
    exact fin _ _ _ 4 (Nat.le_of_ble_eq_true rfl) (Nat.le_of_ble_eq_true rfl) dL_tryGrow_4
  · have hn0 : ¬ r1.1 = 0 := fun z => by rw [z] at hE; cases hE
    rw [if_neg hn0] at h
    by_cases ht0 : r1.1 = 2
    · rw [if_pos ht0] at h
      rw [ht0] at hE
      obtain rfl := Option.some.inj hE
      refine ⟨[], ⟨0, 4, 5, 15⟩, [], rfl, fun z hz => absurd hz List.not_mem_nil, by decide, by decide, q_in 457 (by decide +kernel) (by decide +kernel), by decide, fun q9 => ?_⟩
      refine j_eq (pc' := 5) rfl rfl rfl rfl ?_
      refine j_astore_n (pc := 5) (lv' := [(1, .ref q9), (0, .ref a0)]) ok dL_tryGrow_5 rfl (by decide) rfl ?_
      refine j_sipush (pc := 6) ok dL_tryGrow_6 (by decide) ?_
      obtain rfl := Option.some.inj h
      exact fin _ _ _ 9 (Nat.le_of_ble_eq_true rfl) (Nat.le_of_ble_eq_true rfl) dL_tryGrow_9
    · rw [if_neg ht0] at h
      cases h
def f_L_tryGrow0 (a0_now_size : Int) (a0_now_caret : Int) (a0_now_from : Int) (a0_now_marksF : (Nat → Int)) : Option (Int × Int × Int) := bd (f_X7_grow a0_now_size a0_now_caret a0_now_from a0_now_marksF) (fun r1 => tg1 r1.1 2 (some (r1.2.1, r1.2.2.1, r1.2.2.2)) (none))
set_option maxRecDepth 100000 in
set_option maxHeartbeats 4000000 in
theorem k_L_tryGrow0 {D : va_G} {cs : q_CS} {a0 a0_now a0_trial a0_firstKeep a0_secondKeep a0_history a0_clipboard a0_reader a0_writer a0_picture a0_now_marks : Nat} {a0_now_size a0_now_caret a0_now_from : Int} {a0_now_marksF : (Nat → Int)} {r : (Int × Int × Int)} (h : f_L_tryGrow0 a0_now_size a0_now_caret a0_now_from a0_now_marksF = some r) : q_Mh D cs yL_tryGrow cL_tryGrow 2 [(0, 4, 5, 15)] 7 110 0 0 [.ref a0] [(a0, .inr (7, [.ref a0_now, .ref a0_trial, .ref a0_firstKeep, .ref a0_secondKeep, .ref a0_history, .ref a0_clipboard, .ref a0_reader, .ref a0_writer, .ref a0_picture])), (a0_now, .inr (0, [.ref a0_now_marks, .int (iI a0_now_size), .int (iI a0_now_caret), .int (iI a0_now_from)])), (a0_now_marks, .inl (cs.1, 180, .inl (aI a0_now_marksF)))] r.1 [(a0, .inr (7, [.ref a0_now, .ref a0_trial, .ref a0_firstKeep, .ref a0_secondKeep, .ref a0_history, .ref a0_clipboard, .ref a0_reader, .ref a0_writer, .ref a0_picture])), (a0_now, .inr (0, [.ref a0_now_marks, .int (iI a0_now_size), .int (iI r.2.1), .int (iI r.2.2)])), (a0_now_marks, .inl (cs.1, 180, .inl (aI a0_now_marksF)))] := by
  refine q_starth [⟨0, 4, 5, 15⟩] [(0, .ref a0)] RL rfl (by decide +kernel) rfl rfl (Nat.le_of_ble_eq_true rfl) (q_in 597 (by decide +kernel) (by decide +kernel)) (fun κ ok kx fin => ?_)
  unfold f_L_tryGrow0 at h
  refine j_aload_n (pc := 0) 0 ok dL_tryGrow_0 rfl rfl ?_
  obtain ⟨r1, hr1, h⟩ := bd_inv h
  have hz9 : r1.1 = 0 := z_tg1_0 h
  unfold tg1 at h
  refine j_callX (pc := 1) ok kx (k_X7_grow (a0 := a0) (a0_now := a0_now) (a0_trial := a0_trial) (a0_firstKeep := a0_firstKeep) (a0_secondKeep := a0_secondKeep) (a0_history := a0_history) (a0_clipboard := a0_clipboard) (a0_reader := a0_reader) (a0_writer := a0_writer) (a0_picture := a0_picture) (a0_now_marks := a0_now_marks) (a0_now_size := a0_now_size) (a0_now_caret := a0_now_caret) (a0_now_from := a0_now_from) (a0_now_marksF := a0_now_marksF) hr1) gV_L_46 ⟨rfl, hd_X7_grow⟩ [0, 1, 2] (by decide) rfl rfl 0 rfl rfl rfl rfl ⟨by rw [hz9]; exact Nat.le_of_ble_eq_true rfl, by rw [hz9]; exact Nat.le_of_ble_eq_true rfl⟩ (Nat.le_of_ble_eq_true rfl) dL_tryGrow_1 rfl [(a0, .inr (7, [.ref a0_now, .ref a0_trial, .ref a0_firstKeep, .ref a0_secondKeep, .ref a0_history, .ref a0_clipboard, .ref a0_reader, .ref a0_writer, .ref a0_picture])), (a0_now, .inr (0, [.ref a0_now_marks, .int (iI a0_now_size), .int (iI r1.2.2.1), .int (iI r1.2.2.2)])), (a0_now_marks, .inl (cs.1, 180, .inl (aI a0_now_marksF)))] rfl (fun ht => ?_) (fun E hE => ?_)
  · rw [if_pos ht] at h
    obtain rfl := Option.some.inj h
    exact fin _ _ _ 4 (Nat.le_of_ble_eq_true rfl) (Nat.le_of_ble_eq_true rfl) dL_tryGrow_4
  · have hn0 : ¬ r1.1 = 0 := fun z => by rw [z] at hE; cases hE
    rw [if_neg hn0] at h
    by_cases ht0 : r1.1 = 2
    · rw [if_pos ht0] at h
      rw [ht0] at hE
      obtain rfl := Option.some.inj hE
      refine ⟨[], ⟨0, 4, 5, 15⟩, [], rfl, fun z hz => absurd hz List.not_mem_nil, by decide, by decide, q_in 457 (by decide +kernel) (by decide +kernel), by decide, fun q9 => ?_⟩
      refine j_eq (pc' := 5) rfl rfl rfl rfl ?_
      cases h
    · rw [if_neg ht0] at h
      cases h
def f_L_tryCopy (a0_clipboard_size : Int) (a0_now_caret : Int) (a0_now_from : Int) (a0_clipboard_marksF : (Nat → Int)) (a0_now_marksF : (Nat → Int)) : Option (Int × Int × (Nat → Int)) := bd (f_X7_copy a0_clipboard_size a0_now_caret a0_now_from a0_clipboard_marksF a0_now_marksF) (fun r1 => tg1 r1.1 2 (some (r1.2.1, r1.2.2.1, r1.2.2.2)) (some ((-1003), r1.2.2.1, r1.2.2.2)))
set_option maxRecDepth 100000 in
set_option maxHeartbeats 4000000 in
theorem k_L_tryCopy {D : va_G} {cs : q_CS} {a0 a0_now a0_trial a0_firstKeep a0_secondKeep a0_history a0_clipboard a0_reader a0_writer a0_picture a0_clipboard_marks a0_now_marks : Nat} {a0_clipboard_size a0_now_size a0_now_caret a0_now_from : Int} {a0_clipboard_marksF a0_now_marksF : (Nat → Int)} {r : (Int × Int × (Nat → Int))} (h : f_L_tryCopy a0_clipboard_size a0_now_caret a0_now_from a0_clipboard_marksF a0_now_marksF = some r) : q_Mh D cs yL_tryCopy cL_tryCopy 2 [(0, 4, 5, 15)] 7 102 1 6 [.ref a0] [(a0, .inr (7, [.ref a0_now, .ref a0_trial, .ref a0_firstKeep, .ref a0_secondKeep, .ref a0_history, .ref a0_clipboard, .ref a0_reader, .ref a0_writer, .ref a0_picture])), (a0_clipboard, .inr (3, [.ref a0_clipboard_marks, .int (iI a0_clipboard_size)])), (a0_now, .inr (0, [.ref a0_now_marks, .int (iI a0_now_size), .int (iI a0_now_caret), .int (iI a0_now_from)])), (a0_clipboard_marks, .inl (cs.1, 180, .inl (aI a0_clipboard_marksF))), (a0_now_marks, .inl (cs.1, 180, .inl (aI a0_now_marksF)))] r.1 [(a0, .inr (7, [.ref a0_now, .ref a0_trial, .ref a0_firstKeep, .ref a0_secondKeep, .ref a0_history, .ref a0_clipboard, .ref a0_reader, .ref a0_writer, .ref a0_picture])), (a0_clipboard, .inr (3, [.ref a0_clipboard_marks, .int (iI r.2.1)])), (a0_now, .inr (0, [.ref a0_now_marks, .int (iI a0_now_size), .int (iI a0_now_caret), .int (iI a0_now_from)])), (a0_clipboard_marks, .inl (cs.1, 180, .inl (aI r.2.2))), (a0_now_marks, .inl (cs.1, 180, .inl (aI a0_now_marksF)))] := by
  refine q_starth [⟨0, 4, 5, 15⟩] [(0, .ref a0)] RL rfl (by decide +kernel) rfl rfl (Nat.le_of_ble_eq_true rfl) (q_in 1036 (by decide +kernel) (by decide +kernel)) (fun κ ok kx fin => ?_)
  unfold f_L_tryCopy at h
  refine j_aload_n (pc := 0) 0 ok dL_tryCopy_0 rfl rfl ?_
  obtain ⟨r1, hr1, h⟩ := bd_inv h
  unfold tg1 at h
  refine j_callX (pc := 1) ok kx (k_X7_copy (a0 := a0) (a0_now := a0_now) (a0_trial := a0_trial) (a0_firstKeep := a0_firstKeep) (a0_secondKeep := a0_secondKeep) (a0_history := a0_history) (a0_clipboard := a0_clipboard) (a0_reader := a0_reader) (a0_writer := a0_writer) (a0_picture := a0_picture) (a0_clipboard_marks := a0_clipboard_marks) (a0_now_marks := a0_now_marks) (a0_clipboard_size := a0_clipboard_size) (a0_now_size := a0_now_size) (a0_now_caret := a0_now_caret) (a0_now_from := a0_now_from) (a0_clipboard_marksF := a0_clipboard_marksF) (a0_now_marksF := a0_now_marksF) hr1) gV_L_49 ⟨rfl, hd_X7_copy⟩ [0, 1, 2, 3, 4] (by decide) rfl rfl 0 rfl rfl rfl rfl (q_hc1 r1.1) (Nat.le_of_ble_eq_true rfl) dL_tryCopy_1 rfl [(a0, .inr (7, [.ref a0_now, .ref a0_trial, .ref a0_firstKeep, .ref a0_secondKeep, .ref a0_history, .ref a0_clipboard, .ref a0_reader, .ref a0_writer, .ref a0_picture])), (a0_clipboard, .inr (3, [.ref a0_clipboard_marks, .int (iI r1.2.2.1)])), (a0_now, .inr (0, [.ref a0_now_marks, .int (iI a0_now_size), .int (iI a0_now_caret), .int (iI a0_now_from)])), (a0_clipboard_marks, .inl (cs.1, 180, .inl (aI r1.2.2.2))), (a0_now_marks, .inl (cs.1, 180, .inl (aI a0_now_marksF)))] rfl (fun ht => ?_) (fun E hE => ?_)
  · rw [if_pos ht] at h
    obtain rfl := Option.some.inj h
    exact fin _ _ _ 4 (Nat.le_of_ble_eq_true rfl) (Nat.le_of_ble_eq_true rfl) dL_tryCopy_4
  · have hn0 : ¬ r1.1 = 0 := fun z => by rw [z] at hE; cases hE
    rw [if_neg hn0] at h
    by_cases ht0 : r1.1 = 2
    · rw [if_pos ht0] at h
      rw [ht0] at hE
      obtain rfl := Option.some.inj hE
      refine ⟨[], ⟨0, 4, 5, 15⟩, [], rfl, fun z hz => absurd hz List.not_mem_nil, by decide, by decide, q_in 457 (by decide +kernel) (by decide +kernel), by decide, fun q9 => ?_⟩
      refine j_eq (pc' := 5) rfl rfl rfl rfl ?_
      refine j_astore_n (pc := 5) (lv' := [(1, .ref q9), (0, .ref a0)]) ok dL_tryCopy_5 rfl (by decide) rfl ?_
      refine j_sipush (pc := 6) ok dL_tryCopy_6 (by decide) ?_
      obtain rfl := Option.some.inj h
      exact fin _ _ _ 9 (Nat.le_of_ble_eq_true rfl) (Nat.le_of_ble_eq_true rfl) dL_tryCopy_9
    · rw [if_neg ht0] at h
      cases h
def f_L_tryCopy0 (a0_clipboard_size : Int) (a0_now_caret : Int) (a0_now_from : Int) (a0_clipboard_marksF : (Nat → Int)) (a0_now_marksF : (Nat → Int)) : Option (Int × Int × (Nat → Int)) := bd (f_X7_copy a0_clipboard_size a0_now_caret a0_now_from a0_clipboard_marksF a0_now_marksF) (fun r1 => tg1 r1.1 2 (some (r1.2.1, r1.2.2.1, r1.2.2.2)) (none))
set_option maxRecDepth 100000 in
set_option maxHeartbeats 4000000 in
theorem k_L_tryCopy0 {D : va_G} {cs : q_CS} {a0 a0_now a0_trial a0_firstKeep a0_secondKeep a0_history a0_clipboard a0_reader a0_writer a0_picture a0_clipboard_marks a0_now_marks : Nat} {a0_clipboard_size a0_now_size a0_now_caret a0_now_from : Int} {a0_clipboard_marksF a0_now_marksF : (Nat → Int)} {r : (Int × Int × (Nat → Int))} (h : f_L_tryCopy0 a0_clipboard_size a0_now_caret a0_now_from a0_clipboard_marksF a0_now_marksF = some r) : q_Mh D cs yL_tryCopy cL_tryCopy 2 [(0, 4, 5, 15)] 7 102 0 0 [.ref a0] [(a0, .inr (7, [.ref a0_now, .ref a0_trial, .ref a0_firstKeep, .ref a0_secondKeep, .ref a0_history, .ref a0_clipboard, .ref a0_reader, .ref a0_writer, .ref a0_picture])), (a0_clipboard, .inr (3, [.ref a0_clipboard_marks, .int (iI a0_clipboard_size)])), (a0_now, .inr (0, [.ref a0_now_marks, .int (iI a0_now_size), .int (iI a0_now_caret), .int (iI a0_now_from)])), (a0_clipboard_marks, .inl (cs.1, 180, .inl (aI a0_clipboard_marksF))), (a0_now_marks, .inl (cs.1, 180, .inl (aI a0_now_marksF)))] r.1 [(a0, .inr (7, [.ref a0_now, .ref a0_trial, .ref a0_firstKeep, .ref a0_secondKeep, .ref a0_history, .ref a0_clipboard, .ref a0_reader, .ref a0_writer, .ref a0_picture])), (a0_clipboard, .inr (3, [.ref a0_clipboard_marks, .int (iI r.2.1)])), (a0_now, .inr (0, [.ref a0_now_marks, .int (iI a0_now_size), .int (iI a0_now_caret), .int (iI a0_now_from)])), (a0_clipboard_marks, .inl (cs.1, 180, .inl (aI r.2.2))), (a0_now_marks, .inl (cs.1, 180, .inl (aI a0_now_marksF)))] := by
  refine q_starth [⟨0, 4, 5, 15⟩] [(0, .ref a0)] RL rfl (by decide +kernel) rfl rfl (Nat.le_of_ble_eq_true rfl) (q_in 1036 (by decide +kernel) (by decide +kernel)) (fun κ ok kx fin => ?_)
  unfold f_L_tryCopy0 at h
  refine j_aload_n (pc := 0) 0 ok dL_tryCopy_0 rfl rfl ?_
  obtain ⟨r1, hr1, h⟩ := bd_inv h
  have hz9 : r1.1 = 0 := z_tg1_0 h
  unfold tg1 at h
  refine j_callX (pc := 1) ok kx (k_X7_copy (a0 := a0) (a0_now := a0_now) (a0_trial := a0_trial) (a0_firstKeep := a0_firstKeep) (a0_secondKeep := a0_secondKeep) (a0_history := a0_history) (a0_clipboard := a0_clipboard) (a0_reader := a0_reader) (a0_writer := a0_writer) (a0_picture := a0_picture) (a0_clipboard_marks := a0_clipboard_marks) (a0_now_marks := a0_now_marks) (a0_clipboard_size := a0_clipboard_size) (a0_now_size := a0_now_size) (a0_now_caret := a0_now_caret) (a0_now_from := a0_now_from) (a0_clipboard_marksF := a0_clipboard_marksF) (a0_now_marksF := a0_now_marksF) hr1) gV_L_49 ⟨rfl, hd_X7_copy⟩ [0, 1, 2, 3, 4] (by decide) rfl rfl 0 rfl rfl rfl rfl ⟨by rw [hz9]; exact Nat.le_of_ble_eq_true rfl, by rw [hz9]; exact Nat.le_of_ble_eq_true rfl⟩ (Nat.le_of_ble_eq_true rfl) dL_tryCopy_1 rfl [(a0, .inr (7, [.ref a0_now, .ref a0_trial, .ref a0_firstKeep, .ref a0_secondKeep, .ref a0_history, .ref a0_clipboard, .ref a0_reader, .ref a0_writer, .ref a0_picture])), (a0_clipboard, .inr (3, [.ref a0_clipboard_marks, .int (iI r1.2.2.1)])), (a0_now, .inr (0, [.ref a0_now_marks, .int (iI a0_now_size), .int (iI a0_now_caret), .int (iI a0_now_from)])), (a0_clipboard_marks, .inl (cs.1, 180, .inl (aI r1.2.2.2))), (a0_now_marks, .inl (cs.1, 180, .inl (aI a0_now_marksF)))] rfl (fun ht => ?_) (fun E hE => ?_)
  · rw [if_pos ht] at h
    obtain rfl := Option.some.inj h
    exact fin _ _ _ 4 (Nat.le_of_ble_eq_true rfl) (Nat.le_of_ble_eq_true rfl) dL_tryCopy_4
  · have hn0 : ¬ r1.1 = 0 := fun z => by rw [z] at hE; cases hE
    rw [if_neg hn0] at h
    by_cases ht0 : r1.1 = 2
    · rw [if_pos ht0] at h
      rw [ht0] at hE
      obtain rfl := Option.some.inj hE
      refine ⟨[], ⟨0, 4, 5, 15⟩, [], rfl, fun z hz => absurd hz List.not_mem_nil, by decide, by decide, q_in 457 (by decide +kernel) (by decide +kernel), by decide, fun q9 => ?_⟩
      refine j_eq (pc' := 5) rfl rfl rfl rfl ?_
      cases h
    · rw [if_neg ht0] at h
      cases h
def f_L_tryType (a0_history_oldest : Int) (a0_history_count : Int) (a0_now_size : Int) (a0_now_caret : Int) (a0_now_from : Int) (a0_now_marksF : (Nat → Int)) (a0_history_ringS : (Nat → Int)) (a0_history_ringC : (Nat → Int)) (a0_history_ringM : (Nat → Int)) (a0_history_ringF : (Nat → Nat → Int)) (x1 : Int) : Option (Int × Int × Int × Int × Int × Int × (Nat → Int) × (Nat → Int) × (Nat → Int) × (Nat → Int) × (Nat → Nat → Int)) := bd (f_X7_type a0_history_oldest a0_history_count a0_now_size a0_now_caret a0_now_from a0_now_marksF a0_history_ringS a0_history_ringC a0_history_ringM a0_history_ringF x1) (fun r1 => tg2 r1.1 1 2 (some (r1.2.1, r1.2.2.1, r1.2.2.2.1, r1.2.2.2.2.1, r1.2.2.2.2.2.1, r1.2.2.2.2.2.2.1, r1.2.2.2.2.2.2.2.1, r1.2.2.2.2.2.2.2.2.1, r1.2.2.2.2.2.2.2.2.2.1, r1.2.2.2.2.2.2.2.2.2.2.1, r1.2.2.2.2.2.2.2.2.2.2.2)) (some ((-1002), r1.2.2.1, r1.2.2.2.1, r1.2.2.2.2.1, r1.2.2.2.2.2.1, r1.2.2.2.2.2.2.1, r1.2.2.2.2.2.2.2.1, r1.2.2.2.2.2.2.2.2.1, r1.2.2.2.2.2.2.2.2.2.1, r1.2.2.2.2.2.2.2.2.2.2.1, r1.2.2.2.2.2.2.2.2.2.2.2)) (some ((-1003), r1.2.2.1, r1.2.2.2.1, r1.2.2.2.2.1, r1.2.2.2.2.2.1, r1.2.2.2.2.2.2.1, r1.2.2.2.2.2.2.2.1, r1.2.2.2.2.2.2.2.2.1, r1.2.2.2.2.2.2.2.2.2.1, r1.2.2.2.2.2.2.2.2.2.2.1, r1.2.2.2.2.2.2.2.2.2.2.2)))
set_option maxRecDepth 100000 in
set_option maxHeartbeats 4000000 in
theorem k_L_tryType {D : va_G} {cs : q_CS} {a0 a0_now a0_trial a0_firstKeep a0_secondKeep a0_history a0_clipboard a0_reader a0_writer a0_picture a0_history_ring a0_now_marks : Nat} {a0_history_oldest a0_history_count a0_now_size a0_now_caret a0_now_from : Int} {a0_now_marksF a0_history_ringS a0_history_ringC a0_history_ringM : (Nat → Int)} {a0_history_ringF : (Nat → Nat → Int)} {a0_history_ringQ a0_history_ringM0 : Nat → Nat} {x1 : Int} {r : (Int × Int × Int × Int × Int × Int × (Nat → Int) × (Nat → Int) × (Nat → Int) × (Nat → Int) × (Nat → Nat → Int))} (h : f_L_tryType a0_history_oldest a0_history_count a0_now_size a0_now_caret a0_now_from a0_now_marksF a0_history_ringS a0_history_ringC a0_history_ringM a0_history_ringF x1 = some r) : q_Mh D cs yL_tryType cL_tryType 3 [(0, 5, 6, 13), (0, 5, 11, 15)] 7 109 1 6 [.ref a0, .int (iI x1)] ([(a0, .inr (7, [.ref a0_now, .ref a0_trial, .ref a0_firstKeep, .ref a0_secondKeep, .ref a0_history, .ref a0_clipboard, .ref a0_reader, .ref a0_writer, .ref a0_picture])), (a0_history, .inr (1, [.ref a0_history_ring, .int (iI a0_history_oldest), .int (iI a0_history_count)])), (a0_now, .inr (0, [.ref a0_now_marks, .int (iI a0_now_size), .int (iI a0_now_caret), .int (iI a0_now_from)])), (a0_history_ring, .inl (cs.2.2.1, 14, .inr (.inr (.inr (.inr (fun j => some (a0_history_ringQ j))))))), (a0_now_marks, .inl (cs.1, 180, .inl (aI a0_now_marksF)))] ++ q_ring cs a0_history_ringQ a0_history_ringM0 a0_history_ringS a0_history_ringC a0_history_ringM a0_history_ringF) r.1 ([(a0, .inr (7, [.ref a0_now, .ref a0_trial, .ref a0_firstKeep, .ref a0_secondKeep, .ref a0_history, .ref a0_clipboard, .ref a0_reader, .ref a0_writer, .ref a0_picture])), (a0_history, .inr (1, [.ref a0_history_ring, .int (iI r.2.1), .int (iI r.2.2.1)])), (a0_now, .inr (0, [.ref a0_now_marks, .int (iI r.2.2.2.1), .int (iI r.2.2.2.2.1), .int (iI r.2.2.2.2.2.1)])), (a0_history_ring, .inl (cs.2.2.1, 14, .inr (.inr (.inr (.inr (fun j => some (a0_history_ringQ j))))))), (a0_now_marks, .inl (cs.1, 180, .inl (aI r.2.2.2.2.2.2.1)))] ++ q_ring cs a0_history_ringQ a0_history_ringM0 r.2.2.2.2.2.2.2.1 r.2.2.2.2.2.2.2.2.1 r.2.2.2.2.2.2.2.2.2.1 r.2.2.2.2.2.2.2.2.2.2) := by
  refine q_starth [⟨0, 5, 6, 13⟩, ⟨0, 5, 11, 15⟩] [(0, .ref a0), (1, .int (iI x1))] RL rfl (by decide +kernel) rfl rfl (Nat.le_of_ble_eq_true rfl) (q_in 974 (by decide +kernel) (by decide +kernel)) (fun κ ok kx fin => ?_)
  unfold f_L_tryType at h
  refine j_aload_n (pc := 0) 0 ok dL_tryType_0 rfl rfl ?_
  refine j_iload_n (pc := 1) 1 ok dL_tryType_1 rfl rfl ?_
  obtain ⟨r1, hr1, h⟩ := bd_inv h
  unfold tg2 at h
  refine j_callXG (pc := 2) ok kx (k_X7_type (a0 := a0) (a0_now := a0_now) (a0_trial := a0_trial) (a0_firstKeep := a0_firstKeep) (a0_secondKeep := a0_secondKeep) (a0_history := a0_history) (a0_clipboard := a0_clipboard) (a0_reader := a0_reader) (a0_writer := a0_writer) (a0_picture := a0_picture) (a0_history_ring := a0_history_ring) (a0_now_marks := a0_now_marks) (a0_history_ringQ := a0_history_ringQ) (a0_history_ringM0 := a0_history_ringM0) (a0_history_oldest := a0_history_oldest) (a0_history_count := a0_history_count) (a0_now_size := a0_now_size) (a0_now_caret := a0_now_caret) (a0_now_from := a0_now_from) (a0_now_marksF := a0_now_marksF) (a0_history_ringS := a0_history_ringS) (a0_history_ringC := a0_history_ringC) (a0_history_ringM := a0_history_ringM) (a0_history_ringF := a0_history_ringF) (x1 := x1) hr1) gV_L_52 ⟨rfl, hd_X7_type⟩ [0, 1, 2, 3, 4] (by decide) rfl rfl (q_ring_fst ..) 0 rfl rfl rfl rfl (q_hc1 r1.1) (Nat.le_of_ble_eq_true rfl) dL_tryType_2 rfl [(a0, .inr (7, [.ref a0_now, .ref a0_trial, .ref a0_firstKeep, .ref a0_secondKeep, .ref a0_history, .ref a0_clipboard, .ref a0_reader, .ref a0_writer, .ref a0_picture])), (a0_history, .inr (1, [.ref a0_history_ring, .int (iI r1.2.2.1), .int (iI r1.2.2.2.1)])), (a0_now, .inr (0, [.ref a0_now_marks, .int (iI r1.2.2.2.2.1), .int (iI r1.2.2.2.2.2.1), .int (iI r1.2.2.2.2.2.2.1)])), (a0_history_ring, .inl (cs.2.2.1, 14, .inr (.inr (.inr (.inr (fun j => some (a0_history_ringQ j))))))), (a0_now_marks, .inl (cs.1, 180, .inl (aI r1.2.2.2.2.2.2.2.1)))] rfl (fun ht => ?_) (fun E hE => ?_)
  · rw [if_pos ht] at h
    obtain rfl := Option.some.inj h
    exact fin _ _ _ 5 (Nat.le_of_ble_eq_true rfl) (Nat.le_of_ble_eq_true rfl) dL_tryType_5
  · have hn0 : ¬ r1.1 = 0 := fun z => by rw [z] at hE; cases hE
    rw [if_neg hn0] at h
    by_cases ht0 : r1.1 = 1
    · rw [if_pos ht0] at h
      rw [ht0] at hE
      obtain rfl := Option.some.inj hE
      refine ⟨[], ⟨0, 5, 6, 13⟩, [⟨0, 5, 11, 15⟩], rfl, fun z hz => absurd hz List.not_mem_nil, by decide, by decide, q_in 814 (by decide +kernel) (by decide +kernel), by decide, fun q9 => ?_⟩
      refine j_eq (pc' := 6) rfl rfl rfl rfl ?_
      refine j_astore_n (pc := 6) (lv' := [(2, .ref q9), (0, .ref a0), (1, .int (iI x1))]) ok dL_tryType_6 rfl (by decide) rfl ?_
      refine j_sipush (pc := 7) ok dL_tryType_7 (by decide) ?_
      obtain rfl := Option.some.inj h
      exact fin _ _ _ 10 (Nat.le_of_ble_eq_true rfl) (Nat.le_of_ble_eq_true rfl) dL_tryType_10
    · rw [if_neg ht0] at h
      by_cases ht1 : r1.1 = 2
      · rw [if_pos ht1] at h
        rw [ht1] at hE
        obtain rfl := Option.some.inj hE
        refine ⟨[⟨0, 5, 6, 13⟩], ⟨0, 5, 11, 15⟩, [], rfl, fun z hz => Or.inr (by obtain rfl := List.mem_singleton.mp hz; exact ⟨by decide, "java/lang/IllegalArgumentException", q_in 814 (by decide +kernel) (by decide +kernel), by decide⟩), by decide, by decide, q_in 457 (by decide +kernel) (by decide +kernel), by decide, fun q9 => ?_⟩
        refine j_eq (pc' := 11) rfl rfl rfl rfl ?_
        refine j_astore_n (pc := 11) (lv' := [(2, .ref q9), (0, .ref a0), (1, .int (iI x1))]) ok dL_tryType_11 rfl (by decide) rfl ?_
        refine j_sipush (pc := 12) ok dL_tryType_12 (by decide) ?_
        obtain rfl := Option.some.inj h
        exact fin _ _ _ 15 (Nat.le_of_ble_eq_true rfl) (Nat.le_of_ble_eq_true rfl) dL_tryType_15
      · rw [if_neg ht1] at h
        cases h
def f_L_tryType0 (a0_history_oldest : Int) (a0_history_count : Int) (a0_now_size : Int) (a0_now_caret : Int) (a0_now_from : Int) (a0_now_marksF : (Nat → Int)) (a0_history_ringS : (Nat → Int)) (a0_history_ringC : (Nat → Int)) (a0_history_ringM : (Nat → Int)) (a0_history_ringF : (Nat → Nat → Int)) (x1 : Int) : Option (Int × Int × Int × Int × Int × Int × (Nat → Int) × (Nat → Int) × (Nat → Int) × (Nat → Int) × (Nat → Nat → Int)) := bd (f_X7_type a0_history_oldest a0_history_count a0_now_size a0_now_caret a0_now_from a0_now_marksF a0_history_ringS a0_history_ringC a0_history_ringM a0_history_ringF x1) (fun r1 => tg2 r1.1 1 2 (some (r1.2.1, r1.2.2.1, r1.2.2.2.1, r1.2.2.2.2.1, r1.2.2.2.2.2.1, r1.2.2.2.2.2.2.1, r1.2.2.2.2.2.2.2.1, r1.2.2.2.2.2.2.2.2.1, r1.2.2.2.2.2.2.2.2.2.1, r1.2.2.2.2.2.2.2.2.2.2.1, r1.2.2.2.2.2.2.2.2.2.2.2)) (none) (none))
set_option maxRecDepth 100000 in
set_option maxHeartbeats 4000000 in
theorem k_L_tryType0 {D : va_G} {cs : q_CS} {a0 a0_now a0_trial a0_firstKeep a0_secondKeep a0_history a0_clipboard a0_reader a0_writer a0_picture a0_history_ring a0_now_marks : Nat} {a0_history_oldest a0_history_count a0_now_size a0_now_caret a0_now_from : Int} {a0_now_marksF a0_history_ringS a0_history_ringC a0_history_ringM : (Nat → Int)} {a0_history_ringF : (Nat → Nat → Int)} {a0_history_ringQ a0_history_ringM0 : Nat → Nat} {x1 : Int} {r : (Int × Int × Int × Int × Int × Int × (Nat → Int) × (Nat → Int) × (Nat → Int) × (Nat → Int) × (Nat → Nat → Int))} (h : f_L_tryType0 a0_history_oldest a0_history_count a0_now_size a0_now_caret a0_now_from a0_now_marksF a0_history_ringS a0_history_ringC a0_history_ringM a0_history_ringF x1 = some r) : q_Mh D cs yL_tryType cL_tryType 3 [(0, 5, 6, 13), (0, 5, 11, 15)] 7 109 0 0 [.ref a0, .int (iI x1)] ([(a0, .inr (7, [.ref a0_now, .ref a0_trial, .ref a0_firstKeep, .ref a0_secondKeep, .ref a0_history, .ref a0_clipboard, .ref a0_reader, .ref a0_writer, .ref a0_picture])), (a0_history, .inr (1, [.ref a0_history_ring, .int (iI a0_history_oldest), .int (iI a0_history_count)])), (a0_now, .inr (0, [.ref a0_now_marks, .int (iI a0_now_size), .int (iI a0_now_caret), .int (iI a0_now_from)])), (a0_history_ring, .inl (cs.2.2.1, 14, .inr (.inr (.inr (.inr (fun j => some (a0_history_ringQ j))))))), (a0_now_marks, .inl (cs.1, 180, .inl (aI a0_now_marksF)))] ++ q_ring cs a0_history_ringQ a0_history_ringM0 a0_history_ringS a0_history_ringC a0_history_ringM a0_history_ringF) r.1 ([(a0, .inr (7, [.ref a0_now, .ref a0_trial, .ref a0_firstKeep, .ref a0_secondKeep, .ref a0_history, .ref a0_clipboard, .ref a0_reader, .ref a0_writer, .ref a0_picture])), (a0_history, .inr (1, [.ref a0_history_ring, .int (iI r.2.1), .int (iI r.2.2.1)])), (a0_now, .inr (0, [.ref a0_now_marks, .int (iI r.2.2.2.1), .int (iI r.2.2.2.2.1), .int (iI r.2.2.2.2.2.1)])), (a0_history_ring, .inl (cs.2.2.1, 14, .inr (.inr (.inr (.inr (fun j => some (a0_history_ringQ j))))))), (a0_now_marks, .inl (cs.1, 180, .inl (aI r.2.2.2.2.2.2.1)))] ++ q_ring cs a0_history_ringQ a0_history_ringM0 r.2.2.2.2.2.2.2.1 r.2.2.2.2.2.2.2.2.1 r.2.2.2.2.2.2.2.2.2.1 r.2.2.2.2.2.2.2.2.2.2) := by
  refine q_starth [⟨0, 5, 6, 13⟩, ⟨0, 5, 11, 15⟩] [(0, .ref a0), (1, .int (iI x1))] RL rfl (by decide +kernel) rfl rfl (Nat.le_of_ble_eq_true rfl) (q_in 974 (by decide +kernel) (by decide +kernel)) (fun κ ok kx fin => ?_)
  unfold f_L_tryType0 at h
  refine j_aload_n (pc := 0) 0 ok dL_tryType_0 rfl rfl ?_
  refine j_iload_n (pc := 1) 1 ok dL_tryType_1 rfl rfl ?_
  obtain ⟨r1, hr1, h⟩ := bd_inv h
  have hz9 : r1.1 = 0 := z_tg2_0 h
  unfold tg2 at h
  refine j_callXG (pc := 2) ok kx (k_X7_type (a0 := a0) (a0_now := a0_now) (a0_trial := a0_trial) (a0_firstKeep := a0_firstKeep) (a0_secondKeep := a0_secondKeep) (a0_history := a0_history) (a0_clipboard := a0_clipboard) (a0_reader := a0_reader) (a0_writer := a0_writer) (a0_picture := a0_picture) (a0_history_ring := a0_history_ring) (a0_now_marks := a0_now_marks) (a0_history_ringQ := a0_history_ringQ) (a0_history_ringM0 := a0_history_ringM0) (a0_history_oldest := a0_history_oldest) (a0_history_count := a0_history_count) (a0_now_size := a0_now_size) (a0_now_caret := a0_now_caret) (a0_now_from := a0_now_from) (a0_now_marksF := a0_now_marksF) (a0_history_ringS := a0_history_ringS) (a0_history_ringC := a0_history_ringC) (a0_history_ringM := a0_history_ringM) (a0_history_ringF := a0_history_ringF) (x1 := x1) hr1) gV_L_52 ⟨rfl, hd_X7_type⟩ [0, 1, 2, 3, 4] (by decide) rfl rfl (q_ring_fst ..) 0 rfl rfl rfl rfl ⟨by rw [hz9]; exact Nat.le_of_ble_eq_true rfl, by rw [hz9]; exact Nat.le_of_ble_eq_true rfl⟩ (Nat.le_of_ble_eq_true rfl) dL_tryType_2 rfl [(a0, .inr (7, [.ref a0_now, .ref a0_trial, .ref a0_firstKeep, .ref a0_secondKeep, .ref a0_history, .ref a0_clipboard, .ref a0_reader, .ref a0_writer, .ref a0_picture])), (a0_history, .inr (1, [.ref a0_history_ring, .int (iI r1.2.2.1), .int (iI r1.2.2.2.1)])), (a0_now, .inr (0, [.ref a0_now_marks, .int (iI r1.2.2.2.2.1), .int (iI r1.2.2.2.2.2.1), .int (iI r1.2.2.2.2.2.2.1)])), (a0_history_ring, .inl (cs.2.2.1, 14, .inr (.inr (.inr (.inr (fun j => some (a0_history_ringQ j))))))), (a0_now_marks, .inl (cs.1, 180, .inl (aI r1.2.2.2.2.2.2.2.1)))] rfl (fun ht => ?_) (fun E hE => ?_)
  · rw [if_pos ht] at h
    obtain rfl := Option.some.inj h
    exact fin _ _ _ 5 (Nat.le_of_ble_eq_true rfl) (Nat.le_of_ble_eq_true rfl) dL_tryType_5
  · have hn0 : ¬ r1.1 = 0 := fun z => by rw [z] at hE; cases hE
    rw [if_neg hn0] at h
    by_cases ht0 : r1.1 = 1
    · rw [if_pos ht0] at h
      rw [ht0] at hE
      obtain rfl := Option.some.inj hE
      refine ⟨[], ⟨0, 5, 6, 13⟩, [⟨0, 5, 11, 15⟩], rfl, fun z hz => absurd hz List.not_mem_nil, by decide, by decide, q_in 814 (by decide +kernel) (by decide +kernel), by decide, fun q9 => ?_⟩
      refine j_eq (pc' := 6) rfl rfl rfl rfl ?_
      cases h
    · rw [if_neg ht0] at h
      by_cases ht1 : r1.1 = 2
      · rw [if_pos ht1] at h
        rw [ht1] at hE
        obtain rfl := Option.some.inj hE
        refine ⟨[⟨0, 5, 6, 13⟩], ⟨0, 5, 11, 15⟩, [], rfl, fun z hz => Or.inr (by obtain rfl := List.mem_singleton.mp hz; exact ⟨by decide, "java/lang/IllegalArgumentException", q_in 814 (by decide +kernel) (by decide +kernel), by decide⟩), by decide, by decide, q_in 457 (by decide +kernel) (by decide +kernel), by decide, fun q9 => ?_⟩
        refine j_eq (pc' := 11) rfl rfl rfl rfl ?_
        cases h
      · rw [if_neg ht1] at h
        cases h
