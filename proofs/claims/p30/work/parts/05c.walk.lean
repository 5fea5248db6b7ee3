def f_X1_takeBack (a0_oldest : Int) (a0_count : Int) (a0_ringS : (Nat → Int)) (a0_ringC : (Nat → Int)) (a0_ringM : (Nat → Int)) (a0_ringF : (Nat → Nat → Int)) (a1_size : Int) (a1_caret : Int) (a1_from : Int) (a1_marksF : (Nat → Int)) : Option (Int × Int × Int × Int × (Nat → Int)) := jn (fun (z4 : Int × Int × Int × Int × (Nat → Int)) => some (z4.1, z4.2.1, z4.2.2.1, z4.2.2.2.1, z4.2.2.2.2)) (fun k1 => cLt 0 a0_count (bd (f_X1_entry a0_oldest (a0_count - 1)) (fun r2 => gIn r2 14 (bd (f_X0_become a1_size a1_caret a1_from a1_marksF (a0_ringS r2.toNat) (a0_ringC r2.toNat) (a0_ringM r2.toNat) (a0_ringF r2.toNat)) (fun r3 => k1 (a0_count - 1, r3.1, r3.2.1, r3.2.2.1, r3.2.2.2))))) (k1 (a0_count, a1_size, a1_caret, a1_from, a1_marksF)))
set_option maxRecDepth 100000 in
set_option maxHeartbeats 4000000 in
theorem k_X1_takeBack {D : va_G} {cs : q_CS} {a0 a0_ring a1 a1_marks : Nat} {a0_oldest a0_count a1_size a1_caret a1_from : Int} {a0_ringS a0_ringC a0_ringM a1_marksF : (Nat → Int)} {a0_ringF : (Nat → Nat → Int)} {a0_ringQ a0_ringM0 : Nat → Nat} {r : (Int × Int × Int × Int × (Nat → Int))} (h : f_X1_takeBack a0_oldest a0_count a0_ringS a0_ringC a0_ringM a0_ringF a1_size a1_caret a1_from a1_marksF = some r) : q_M D cs yX1_takeBack cX1_takeBack 3 none 3 63 [.ref a0, .ref a1] ([(a0, .inr (1, [.ref a0_ring, .int (iI a0_oldest), .int (iI a0_count)])), (a0_ring, .inl (cs.2.2.1, 14, .inr (.inr (.inr (.inr (fun j => some (a0_ringQ j))))))), (a1, .inr (0, [.ref a1_marks, .int (iI a1_size), .int (iI a1_caret), .int (iI a1_from)])), (a1_marks, .inl (cs.1, 180, .inl (aI a1_marksF)))] ++ q_ring cs a0_ringQ a0_ringM0 a0_ringS a0_ringC a0_ringM a0_ringF) none ([(a0, .inr (1, [.ref a0_ring, .int (iI a0_oldest), .int (iI r.1)])), (a0_ring, .inl (cs.2.2.1, 14, .inr (.inr (.inr (.inr (fun j => some (a0_ringQ j))))))), (a1, .inr (0, [.ref a1_marks, .int (iI r.2.1), .int (iI r.2.2.1), .int (iI r.2.2.2.1)])), (a1_marks, .inl (cs.1, 180, .inl (aI r.2.2.2.2)))] ++ q_ring cs a0_ringQ a0_ringM0 a0_ringS a0_ringC a0_ringM a0_ringF) := by
  refine q_start_v [(0, .ref a0), (1, .ref a1)] RX1 rfl (by decide +kernel) rfl (Nat.le_of_ble_eq_true rfl) (fun κ ok fin => ?_)
  unfold f_X1_takeBack at h
  refine j_aload_n (pc := 0) 0 ok dX1_takeBack_0 rfl rfl ?_
  refine gf_X1_18_1 (pc := 1) 0 ok rfl dX1_takeBack_1 ?_
  refine jn_use (P := fun z4 => q_J D κ 3 0 0 ([(a0, .inr (1, [.ref a0_ring, .int (iI a0_oldest), .int (iI z4.1)])), (a0_ring, .inl (cs.2.2.1, 14, .inr (.inr (.inr (.inr (fun j => some (a0_ringQ j))))))), (a1, .inr (0, [.ref a1_marks, .int (iI z4.2.1), .int (iI z4.2.2.1), .int (iI z4.2.2.2.1)])), (a1_marks, .inl (cs.1, 180, .inl (aI z4.2.2.2.2)))] ++ q_ring cs a0_ringQ a0_ringM0 a0_ringS a0_ringC a0_ringM a0_ringF) [] 35 []) h (fun z4 h => ?_) (fun k1 hk1 h => ?_)
  · obtain rfl := Option.some.inj h
    exact fin _ 35 dX1_takeBack_35
  · refine j_if_le (pc := 4) 35 ok dX1_takeBack_4 (by decide) h (fun h => ?_) (fun h => ?_)
    · refine j_lv [] rfl ?_
      exact hk1 (a0_count, a1_size, a1_caret, a1_from, a1_marksF) h
    · refine j_aload_n (pc := 7) 0 ok dX1_takeBack_7 rfl rfl ?_
      refine j_dup (pc := 8) ok dX1_takeBack_8 rfl ?_
      refine gf_X1_18_1 (pc := 9) 0 ok rfl dX1_takeBack_9 ?_
      refine j_iconst (pc := 12) ok dX1_takeBack_12 ?_
      refine j_isub (pc := 13) ok dX1_takeBack_13 ?_
      refine pf_X1_18_1 (pc := 14) 0 ok rfl dX1_takeBack_14 ([(a0, .inr (1, [.ref a0_ring, .int (iI a0_oldest), .int (iI (a0_count - 1))])), (a0_ring, .inl (cs.2.2.1, 14, .inr (.inr (.inr (.inr (fun j => some (a0_ringQ j))))))), (a1, .inr (0, [.ref a1_marks, .int (iI a1_size), .int (iI a1_caret), .int (iI a1_from)])), (a1_marks, .inl (cs.1, 180, .inl (aI a1_marksF)))] ++ q_ring cs a0_ringQ a0_ringM0 a0_ringS a0_ringC a0_ringM a0_ringF) rfl ?_
      refine j_aload_n (pc := 17) 0 ok dX1_takeBack_17 rfl rfl ?_
      refine j_aload_n (pc := 18) 0 ok dX1_takeBack_18 rfl rfl ?_
      refine gf_X1_18_1 (pc := 19) 0 ok rfl dX1_takeBack_19 ?_
      obtain ⟨r2, hr2, h⟩ := bd_inv h
      refine j_callV (pc := 22) ok (k_X1_entry (a0 := a0) (a0_ring := a0_ring) (a0_ringQ := a0_ringQ) (a0_oldest := a0_oldest) (a0_count := a0_count - 1) (x1 := a0_count - 1) hr2) gV_X1_25 ⟨rfl, hd_X1_entry⟩ [0, 1] (by decide) rfl rfl 0 rfl rfl rfl rfl ⟨Nat.zero_le _, Nat.zero_le _⟩ (Nat.le_of_ble_eq_true rfl) dX1_takeBack_22 rfl ([(a0, .inr (1, [.ref a0_ring, .int (iI a0_oldest), .int (iI (a0_count - 1))])), (a0_ring, .inl (cs.2.2.1, 14, .inr (.inr (.inr (.inr (fun j => some (a0_ringQ j))))))), (a1, .inr (0, [.ref a1_marks, .int (iI a1_size), .int (iI a1_caret), .int (iI a1_from)])), (a1_marks, .inl (cs.1, 180, .inl (aI a1_marksF)))] ++ q_ring cs a0_ringQ a0_ringM0 a0_ringS a0_ringC a0_ringM a0_ringF) rfl ?_
      refine j_astore_n (pc := 25) (lv' := [(2, .ref (a0_ringQ r2.toNat)), (0, .ref a0), (1, .ref a1)]) ok dX1_takeBack_25 rfl (by decide) rfl ?_
      refine j_aload_n (pc := 26) 0 ok dX1_takeBack_26 rfl rfl ?_
      refine j_ifnull (pc := 27) ok dX1_takeBack_27 ?_
      refine j_aload_n (pc := 30) 2 ok dX1_takeBack_30 rfl rfl ?_
      refine j_aload_n (pc := 31) 0 ok dX1_takeBack_31 rfl rfl ?_
      obtain ⟨hi, h⟩ := gIn_inv h
      obtain ⟨r3, hr3, h9⟩ := bd_inv h
      rcases q_14 hi with rfl | rfl | rfl | rfl | rfl | rfl | rfl | rfl | rfl | rfl | rfl | rfl | rfl | rfl
      · have h := h9
        refine j_callV (pc := 32) ok (k_X0_become (a0 := a1) (a0_marks := a1_marks) (a1 := a0_ringQ 0) (a1_marks := a0_ringM0 0) (a0_size := a1_size) (a0_caret := a1_caret) (a0_from := a1_from) (a0_marksF := a1_marksF) (a1_size := a0_ringS 0) (a1_caret := a0_ringC 0) (a1_from := a0_ringM 0) (a1_marksF := a0_ringF 0) hr3) gV_X1_29 ⟨rfl, hd_X0_become⟩ [2, 3, 4, 5] (by decide) rfl rfl 2 rfl rfl rfl rfl ⟨Nat.zero_le _, Nat.zero_le _⟩ (Nat.le_of_ble_eq_true rfl) dX1_takeBack_32 rfl ([(a0, .inr (1, [.ref a0_ring, .int (iI a0_oldest), .int (iI (a0_count - 1))])), (a0_ring, .inl (cs.2.2.1, 14, .inr (.inr (.inr (.inr (fun j => some (a0_ringQ j))))))), (a1, .inr (0, [.ref a1_marks, .int (iI r3.1), .int (iI r3.2.1), .int (iI r3.2.2.1)])), (a1_marks, .inl (cs.1, 180, .inl (aI r3.2.2.2)))] ++ q_ring cs a0_ringQ a0_ringM0 a0_ringS a0_ringC a0_ringM a0_ringF) rfl ?_
        refine j_lv [] rfl ?_
        exact hk1 (a0_count - 1, r3.1, r3.2.1, r3.2.2.1, r3.2.2.2) h
      · have h := h9
        refine j_callV (pc := 32) ok (k_X0_become (a0 := a1) (a0_marks := a1_marks) (a1 := a0_ringQ 1) (a1_marks := a0_ringM0 1) (a0_size := a1_size) (a0_caret := a1_caret) (a0_from := a1_from) (a0_marksF := a1_marksF) (a1_size := a0_ringS 1) (a1_caret := a0_ringC 1) (a1_from := a0_ringM 1) (a1_marksF := a0_ringF 1) hr3) gV_X1_29 ⟨rfl, hd_X0_become⟩ [2, 3, 6, 7] (by decide) rfl rfl 2 rfl rfl rfl rfl ⟨Nat.zero_le _, Nat.zero_le _⟩ (Nat.le_of_ble_eq_true rfl) dX1_takeBack_32 rfl ([(a0, .inr (1, [.ref a0_ring, .int (iI a0_oldest), .int (iI (a0_count - 1))])), (a0_ring, .inl (cs.2.2.1, 14, .inr (.inr (.inr (.inr (fun j => some (a0_ringQ j))))))), (a1, .inr (0, [.ref a1_marks, .int (iI r3.1), .int (iI r3.2.1), .int (iI r3.2.2.1)])), (a1_marks, .inl (cs.1, 180, .inl (aI r3.2.2.2)))] ++ q_ring cs a0_ringQ a0_ringM0 a0_ringS a0_ringC a0_ringM a0_ringF) rfl ?_
        refine j_lv [] rfl ?_
        exact hk1 (a0_count - 1, r3.1, r3.2.1, r3.2.2.1, r3.2.2.2) h
      · have h := h9
        refine j_callV (pc := 32) ok (k_X0_become (a0 := a1) (a0_marks := a1_marks) (a1 := a0_ringQ 2) (a1_marks := a0_ringM0 2) (a0_size := a1_size) (a0_caret := a1_caret) (a0_from := a1_from) (a0_marksF := a1_marksF) (a1_size := a0_ringS 2) (a1_caret := a0_ringC 2) (a1_from := a0_ringM 2) (a1_marksF := a0_ringF 2) hr3) gV_X1_29 ⟨rfl, hd_X0_become⟩ [2, 3, 8, 9] (by decide) rfl rfl 2 rfl rfl rfl rfl ⟨Nat.zero_le _, Nat.zero_le _⟩ (Nat.le_of_ble_eq_true rfl) dX1_takeBack_32 rfl ([(a0, .inr (1, [.ref a0_ring, .int (iI a0_oldest), .int (iI (a0_count - 1))])), (a0_ring, .inl (cs.2.2.1, 14, .inr (.inr (.inr (.inr (fun j => some (a0_ringQ j))))))), (a1, .inr (0, [.ref a1_marks, .int (iI r3.1), .int (iI r3.2.1), .int (iI r3.2.2.1)])), (a1_marks, .inl (cs.1, 180, .inl (aI r3.2.2.2)))] ++ q_ring cs a0_ringQ a0_ringM0 a0_ringS a0_ringC a0_ringM a0_ringF) rfl ?_
        refine j_lv [] rfl ?_
        exact hk1 (a0_count - 1, r3.1, r3.2.1, r3.2.2.1, r3.2.2.2) h
      · have h := h9
        refine j_callV (pc := 32) ok (k_X0_become (a0 := a1) (a0_marks := a1_marks) (a1 := a0_ringQ 3) (a1_marks := a0_ringM0 3) (a0_size := a1_size) (a0_caret := a1_caret) (a0_from := a1_from) (a0_marksF := a1_marksF) (a1_size := a0_ringS 3) (a1_caret := a0_ringC 3) (a1_from := a0_ringM 3) (a1_marksF := a0_ringF 3) hr3) gV_X1_29 ⟨rfl, hd_X0_become⟩ [2, 3, 10, 11] (by decide) rfl rfl 2 rfl rfl rfl rfl ⟨Nat.zero_le _, Nat.zero_le _⟩ (Nat.le_of_ble_eq_true rfl) dX1_takeBack_32 rfl ([(a0, .inr (1, [.ref a0_ring, .int (iI a0_oldest), .int (iI (a0_count - 1))])), (a0_ring, .inl (cs.2.2.1, 14, .inr (.inr (.inr (.inr (fun j => some (a0_ringQ j))))))), (a1, .inr (0, [.ref a1_marks, .int (iI r3.1), .int (iI r3.2.1), .int (iI r3.2.2.1)])), (a1_marks, .inl (cs.1, 180, .inl (aI r3.2.2.2)))] ++ q_ring cs a0_ringQ a0_ringM0 a0_ringS a0_ringC a0_ringM a0_ringF) rfl ?_
        refine j_lv [] rfl ?_
        exact hk1 (a0_count - 1, r3.1, r3.2.1, r3.2.2.1, r3.2.2.2) h
      · have h := h9
        refine j_callV (pc := 32) ok (k_X0_become (a0 := a1) (a0_marks := a1_marks) (a1 := a0_ringQ 4) (a1_marks := a0_ringM0 4) (a0_size := a1_size) (a0_caret := a1_caret) (a0_from := a1_from) (a0_marksF := a1_marksF) (a1_size := a0_ringS 4) (a1_caret := a0_ringC 4) (a1_from := a0_ringM 4) (a1_marksF := a0_ringF 4) hr3) gV_X1_29 ⟨rfl, hd_X0_become⟩ [2, 3, 12, 13] (by decide) rfl rfl 2 rfl rfl rfl rfl ⟨Nat.zero_le _, Nat.zero_le _⟩ (Nat.le_of_ble_eq_true rfl) dX1_takeBack_32 rfl ([(a0, .inr (1, [.ref a0_ring, .int (iI a0_oldest), .int (iI (a0_count - 1))])), (a0_ring, .inl (cs.2.2.1, 14, .inr (.inr (.inr (.inr (fun j => some (a0_ringQ j))))))), (a1, .inr (0, [.ref a1_marks, .int (iI r3.1), .int (iI r3.2.1), .int (iI r3.2.2.1)])), (a1_marks, .inl (cs.1, 180, .inl (aI r3.2.2.2)))] ++ q_ring cs a0_ringQ a0_ringM0 a0_ringS a0_ringC a0_ringM a0_ringF) rfl ?_
        refine j_lv [] rfl ?_
        exact hk1 (a0_count - 1, r3.1, r3.2.1, r3.2.2.1, r3.2.2.2) h
      · have h := h9
        refine j_callV (pc := 32) ok (k_X0_become (a0 := a1) (a0_marks := a1_marks) (a1 := a0_ringQ 5) (a1_marks := a0_ringM0 5) (a0_size := a1_size) (a0_caret := a1_caret) (a0_from := a1_from) (a0_marksF := a1_marksF) (a1_size := a0_ringS 5) (a1_caret := a0_ringC 5) (a1_from := a0_ringM 5) (a1_marksF := a0_ringF 5) hr3) gV_X1_29 ⟨rfl, hd_X0_become⟩ [2, 3, 14, 15] (by decide) rfl rfl 2 rfl rfl rfl rfl ⟨Nat.zero_le _, Nat.zero_le _⟩ (Nat.le_of_ble_eq_true rfl) dX1_takeBack_32 rfl ([(a0, .inr (1, [.ref a0_ring, .int (iI a0_oldest), .int (iI (a0_count - 1))])), (a0_ring, .inl (cs.2.2.1, 14, .inr (.inr (.inr (.inr (fun j => some (a0_ringQ j))))))), (a1, .inr (0, [.ref a1_marks, .int (iI r3.1), .int (iI r3.2.1), .int (iI r3.2.2.1)])), (a1_marks, .inl (cs.1, 180, .inl (aI r3.2.2.2)))] ++ q_ring cs a0_ringQ a0_ringM0 a0_ringS a0_ringC a0_ringM a0_ringF) rfl ?_
        refine j_lv [] rfl ?_
        exact hk1 (a0_count - 1, r3.1, r3.2.1, r3.2.2.1, r3.2.2.2) h
      · have h := h9
        refine j_callV (pc := 32) ok (k_X0_become (a0 := a1) (a0_marks := a1_marks) (a1 := a0_ringQ 6) (a1_marks := a0_ringM0 6) (a0_size := a1_size) (a0_caret := a1_caret) (a0_from := a1_from) (a0_marksF := a1_marksF) (a1_size := a0_ringS 6) (a1_caret := a0_ringC 6) (a1_from := a0_ringM 6) (a1_marksF := a0_ringF 6) hr3) gV_X1_29 ⟨rfl, hd_X0_become⟩ [2, 3, 16, 17] (by decide) rfl rfl 2 rfl rfl rfl rfl ⟨Nat.zero_le _, Nat.zero_le _⟩ (Nat.le_of_ble_eq_true rfl) dX1_takeBack_32 rfl ([(a0, .inr (1, [.ref a0_ring, .int (iI a0_oldest), .int (iI (a0_count - 1))])), (a0_ring, .inl (cs.2.2.1, 14, .inr (.inr (.inr (.inr (fun j => some (a0_ringQ j))))))), (a1, .inr (0, [.ref a1_marks, .int (iI r3.1), .int (iI r3.2.1), .int (iI r3.2.2.1)])), (a1_marks, .inl (cs.1, 180, .inl (aI r3.2.2.2)))] ++ q_ring cs a0_ringQ a0_ringM0 a0_ringS a0_ringC a0_ringM a0_ringF) rfl ?_
        refine j_lv [] rfl ?_
        exact hk1 (a0_count - 1, r3.1, r3.2.1, r3.2.2.1, r3.2.2.2) h
      · have h := h9
        refine j_callV (pc := 32) ok (k_X0_become (a0 := a1) (a0_marks := a1_marks) (a1 := a0_ringQ 7) (a1_marks := a0_ringM0 7) (a0_size := a1_size) (a0_caret := a1_caret) (a0_from := a1_from) (a0_marksF := a1_marksF) (a1_size := a0_ringS 7) (a1_caret := a0_ringC 7) (a1_from := a0_ringM 7) (a1_marksF := a0_ringF 7) hr3) gV_X1_29 ⟨rfl, hd_X0_become⟩ [2, 3, 18, 19] (by decide) rfl rfl 2 rfl rfl rfl rfl ⟨Nat.zero_le _, Nat.zero_le _⟩ (Nat.le_of_ble_eq_true rfl) dX1_takeBack_32 rfl ([(a0, .inr (1, [.ref a0_ring, .int (iI a0_oldest), .int (iI (a0_count - 1))])), (a0_ring, .inl (cs.2.2.1, 14, .inr (.inr (.inr (.inr (fun j => some (a0_ringQ j))))))), (a1, .inr (0, [.ref a1_marks, .int (iI r3.1), .int (iI r3.2.1), .int (iI r3.2.2.1)])), (a1_marks, .inl (cs.1, 180, .inl (aI r3.2.2.2)))] ++ q_ring cs a0_ringQ a0_ringM0 a0_ringS a0_ringC a0_ringM a0_ringF) rfl ?_
        refine j_lv [] rfl ?_
        exact hk1 (a0_count - 1, r3.1, r3.2.1, r3.2.2.1, r3.2.2.2) h
      · have h := h9
        refine j_callV (pc := 32) ok (k_X0_become (a0 := a1) (a0_marks := a1_marks) (a1 := a0_ringQ 8) (a1_marks := a0_ringM0 8) (a0_size := a1_size) (a0_caret := a1_caret) (a0_from := a1_from) (a0_marksF := a1_marksF) (a1_size := a0_ringS 8) (a1_caret := a0_ringC 8) (a1_from := a0_ringM 8) (a1_marksF := a0_ringF 8) hr3) gV_X1_29 ⟨rfl, hd_X0_become⟩ [2, 3, 20, 21] (by decide) rfl rfl 2 rfl rfl rfl rfl ⟨Nat.zero_le _, Nat.zero_le _⟩ (Nat.le_of_ble_eq_true rfl) dX1_takeBack_32 rfl ([(a0, .inr (1, [.ref a0_ring, .int (iI a0_oldest), .int (iI (a0_count - 1))])), (a0_ring, .inl (cs.2.2.1, 14, .inr (.inr (.inr (.inr (fun j => some (a0_ringQ j))))))), (a1, .inr (0, [.ref a1_marks, .int (iI r3.1), .int (iI r3.2.1), .int (iI r3.2.2.1)])), (a1_marks, .inl (cs.1, 180, .inl (aI r3.2.2.2)))] ++ q_ring cs a0_ringQ a0_ringM0 a0_ringS a0_ringC a0_ringM a0_ringF) rfl ?_
        refine j_lv [] rfl ?_
        exact hk1 (a0_count - 1, r3.1, r3.2.1, r3.2.2.1, r3.2.2.2) h
      · have h := h9
        refine j_callV (pc := 32) ok (k_X0_become (a0 := a1) (a0_marks := a1_marks) (a1 := a0_ringQ 9) (a1_marks := a0_ringM0 9) (a0_size := a1_size) (a0_caret := a1_caret) (a0_from := a1_from) (a0_marksF := a1_marksF) (a1_size := a0_ringS 9) (a1_caret := a0_ringC 9) (a1_from := a0_ringM 9) (a1_marksF := a0_ringF 9) hr3) gV_X1_29 ⟨rfl, hd_X0_become⟩ [2, 3, 22, 23] (by decide) rfl rfl 2 rfl rfl rfl rfl ⟨Nat.zero_le _, Nat.zero_le _⟩ (Nat.le_of_ble_eq_true rfl) dX1_takeBack_32 rfl ([(a0, .inr (1, [.ref a0_ring, .int (iI a0_oldest), .int (iI (a0_count - 1))])), (a0_ring, .inl (cs.2.2.1, 14, .inr (.inr (.inr (.inr (fun j => some (a0_ringQ j))))))), (a1, .inr (0, [.ref a1_marks, .int (iI r3.1), .int (iI r3.2.1), .int (iI r3.2.2.1)])), (a1_marks, .inl (cs.1, 180, .inl (aI r3.2.2.2)))] ++ q_ring cs a0_ringQ a0_ringM0 a0_ringS a0_ringC a0_ringM a0_ringF) rfl ?_
        refine j_lv [] rfl ?_
        exact hk1 (a0_count - 1, r3.1, r3.2.1, r3.2.2.1, r3.2.2.2) h
      · have h := h9
        refine j_callV (pc := 32) ok (k_X0_become (a0 := a1) (a0_marks := a1_marks) (a1 := a0_ringQ 10) (a1_marks := a0_ringM0 10) (a0_size := a1_size) (a0_caret := a1_caret) (a0_from := a1_from) (a0_marksF := a1_marksF) (a1_size := a0_ringS 10) (a1_caret := a0_ringC 10) (a1_from := a0_ringM 10) (a1_marksF := a0_ringF 10) hr3) gV_X1_29 ⟨rfl, hd_X0_become⟩ [2, 3, 24, 25] (by decide) rfl rfl 2 rfl rfl rfl rfl ⟨Nat.zero_le _, Nat.zero_le _⟩ (Nat.le_of_ble_eq_true rfl) dX1_takeBack_32 rfl ([(a0, .inr (1, [.ref a0_ring, .int (iI a0_oldest), .int (iI (a0_count - 1))])), (a0_ring, .inl (cs.2.2.1, 14, .inr (.inr (.inr (.inr (fun j => some (a0_ringQ j))))))), (a1, .inr (0, [.ref a1_marks, .int (iI r3.1), .int (iI r3.2.1), .int (iI r3.2.2.1)])), (a1_marks, .inl (cs.1, 180, .inl (aI r3.2.2.2)))] ++ q_ring cs a0_ringQ a0_ringM0 a0_ringS a0_ringC a0_ringM a0_ringF) rfl ?_
        refine j_lv [] rfl ?_
        exact hk1 (a0_count - 1, r3.1, r3.2.1, r3.2.2.1, r3.2.2.2) h
      · have h := h9
        refine j_callV (pc := 32) ok (k_X0_become (a0 := a1) (a0_marks := a1_marks) (a1 := a0_ringQ 11) (a1_marks := a0_ringM0 11) (a0_size := a1_size) (a0_caret := a1_caret) (a0_from := a1_from) (a0_marksF := a1_marksF) (a1_size := a0_ringS 11) (a1_caret := a0_ringC 11) (a1_from := a0_ringM 11) (a1_marksF := a0_ringF 11) hr3) gV_X1_29 ⟨rfl, hd_X0_become⟩ [2, 3, 26, 27] (by decide) rfl rfl 2 rfl rfl rfl rfl ⟨Nat.zero_le _, Nat.zero_le _⟩ (Nat.le_of_ble_eq_true rfl) dX1_takeBack_32 rfl ([(a0, .inr (1, [.ref a0_ring, .int (iI a0_oldest), .int (iI (a0_count - 1))])), (a0_ring, .inl (cs.2.2.1, 14, .inr (.inr (.inr (.inr (fun j => some (a0_ringQ j))))))), (a1, .inr (0, [.ref a1_marks, .int (iI r3.1), .int (iI r3.2.1), .int (iI r3.2.2.1)])), (a1_marks, .inl (cs.1, 180, .inl (aI r3.2.2.2)))] ++ q_ring cs a0_ringQ a0_ringM0 a0_ringS a0_ringC a0_ringM a0_ringF) rfl ?_
        refine j_lv [] rfl ?_
        exact hk1 (a0_count - 1, r3.1, r3.2.1, r3.2.2.1, r3.2.2.2) h
      · have h := h9
        refine j_callV (pc := 32) ok (k_X0_become (a0 := a1) (a0_marks := a1_marks) (a1 := a0_ringQ 12) (a1_marks := a0_ringM0 12) (a0_size := a1_size) (a0_caret := a1_caret) (a0_from := a1_from) (a0_marksF := a1_marksF) (a1_size := a0_ringS 12) (a1_caret := a0_ringC 12) (a1_from := a0_ringM 12) (a1_marksF := a0_ringF 12) hr3) gV_X1_29 ⟨rfl, hd_X0_become⟩ [2, 3, 28, 29] (by decide) rfl rfl 2 rfl rfl rfl rfl ⟨Nat.zero_le _, Nat.zero_le _⟩ (Nat.le_of_ble_eq_true rfl) dX1_takeBack_32 rfl ([(a0, .inr (1, [.ref a0_ring, .int (iI a0_oldest), .int (iI (a0_count - 1))])), (a0_ring, .inl (cs.2.2.1, 14, .inr (.inr (.inr (.inr (fun j => some (a0_ringQ j))))))), (a1, .inr (0, [.ref a1_marks, .int (iI r3.1), .int (iI r3.2.1), .int (iI r3.2.2.1)])), (a1_marks, .inl (cs.1, 180, .inl (aI r3.2.2.2)))] ++ q_ring cs a0_ringQ a0_ringM0 a0_ringS a0_ringC a0_ringM a0_ringF) rfl ?_
        refine j_lv [] rfl ?_
        exact hk1 (a0_count - 1, r3.1, r3.2.1, r3.2.2.1, r3.2.2.2) h
      · have h := h9
        refine j_callV (pc := 32) ok (k_X0_become (a0 := a1) (a0_marks := a1_marks) (a1 := a0_ringQ 13) (a1_marks := a0_ringM0 13) (a0_size := a1_size) (a0_caret := a1_caret) (a0_from := a1_from) (a0_marksF := a1_marksF) (a1_size := a0_ringS 13) (a1_caret := a0_ringC 13) (a1_from := a0_ringM 13) (a1_marksF := a0_ringF 13) hr3) gV_X1_29 ⟨rfl, hd_X0_become⟩ [2, 3, 30, 31] (by decide) rfl rfl 2 rfl rfl rfl rfl ⟨Nat.zero_le _, Nat.zero_le _⟩ (Nat.le_of_ble_eq_true rfl) dX1_takeBack_32 rfl ([(a0, .inr (1, [.ref a0_ring, .int (iI a0_oldest), .int (iI (a0_count - 1))])), (a0_ring, .inl (cs.2.2.1, 14, .inr (.inr (.inr (.inr (fun j => some (a0_ringQ j))))))), (a1, .inr (0, [.ref a1_marks, .int (iI r3.1), .int (iI r3.2.1), .int (iI r3.2.2.1)])), (a1_marks, .inl (cs.1, 180, .inl (aI r3.2.2.2)))] ++ q_ring cs a0_ringQ a0_ringM0 a0_ringS a0_ringC a0_ringM a0_ringF) rfl ?_
        refine j_lv [] rfl ?_
        exact hk1 (a0_count - 1, r3.1, r3.2.1, r3.2.2.1, r3.2.2.2) h
def f_X3_hasPlace (a0_size : Int) (x1 : Int) : Option (Int) := jn (fun (z4 : Int) => gB z4 (some z4)) (fun k2 => jn (fun (z3 : Unit) => k2 0) (fun k1 => cLt x1 0 (k1 ()) (cLt a0_size x1 (k1 ()) (k2 1))))
set_option maxRecDepth 100000 in
set_option maxHeartbeats 4000000 in
theorem k_X3_hasPlace {D : va_G} {cs : q_CS} {a0 a0_marks : Nat} {a0_marksN : Nat} {a0_ci : Nat} {a0_fx : List Value} {a0_size : Int} {a0_marksF : (Nat → Int)} {x1 : Int} {r : (Int)} (ha0 : q_mk a0_ci a0_fx) (h : f_X3_hasPlace a0_size x1 = some r) : q_M D cs yX3_hasPlace cX3_hasPlace 2 (some .boolean) 0 0 [.ref a0, .int (iI x1)] [(a0, .inr (a0_ci, .ref a0_marks :: .int (iI a0_size) :: a0_fx)), (a0_marks, .inl (cs.1, a0_marksN, .inl (aI a0_marksF)))] (some (.int (iI r))) [(a0, .inr (a0_ci, .ref a0_marks :: .int (iI a0_size) :: a0_fx)), (a0_marks, .inl (cs.1, a0_marksN, .inl (aI a0_marksF)))] := by
  refine q_start_z [(0, .ref a0), (1, .int (iI x1))] RX3 rfl (by decide +kernel) rfl (Nat.le_of_ble_eq_true rfl) (fun κ ok fin => ?_)
  unfold f_X3_hasPlace at h
  refine j_iload_n (pc := 0) 1 ok dX3_hasPlace_0 rfl rfl ?_
  refine jn_use (P := fun z4 => q_J D κ 2 0 0 [(a0, .inr (a0_ci, .ref a0_marks :: .int (iI a0_size) :: a0_fx)), (a0_marks, .inl (cs.1, a0_marksN, .inl (aI a0_marksF)))] [] 17 [.int (iI z4)]) h (fun z4 h => ?_) (fun k2 hk2 h => ?_)
  · obtain ⟨hbo, h⟩ := gB_inv h
    obtain rfl := Option.some.inj h
    exact fin _ 17 hbo dX3_hasPlace_17
  · refine jn_use (P := fun z3 => q_J D κ 2 0 0 [(a0, .inr (a0_ci, .ref a0_marks :: .int (iI a0_size) :: a0_fx)), (a0_marks, .inl (cs.1, a0_marksN, .inl (aI a0_marksF)))] [] 16 []) h (fun z3 h => ?_) (fun k1 hk1 h => ?_)
    · refine j_iconst (pc := 16) ok dX3_hasPlace_16 ?_
      exact hk2 0 h
    · refine j_if_lt (pc := 1) 16 ok dX3_hasPlace_1 (by decide) h (fun h => ?_) (fun h => ?_)
      · refine j_lv [] rfl ?_
        exact hk1 () h
      · refine j_iload_n (pc := 4) 1 ok dX3_hasPlace_4 rfl rfl ?_
        refine j_aload_n (pc := 5) 0 ok dX3_hasPlace_5 rfl rfl ?_
        refine gm_X3_21 (pc := 6) 0 ok ha0 rfl dX3_hasPlace_6 ?_
        refine j_icmp_gt (pc := 9) 16 ok dX3_hasPlace_9 (by decide) h (fun h => ?_) (fun h => ?_)
        · refine j_lv [] rfl ?_
          exact hk1 () h
        · refine j_iconst (pc := 12) ok dX3_hasPlace_12 ?_
          refine j_goto (pc := 13) 17 ok dX3_hasPlace_13 (by decide) ?_
          refine j_lv [] rfl ?_
          exact hk2 1 h
def f_X3_add (a0_marksN : Nat) (a0_size : Int) (a0_marksF : (Nat → Int)) (x1 : Int) : Option (Int × (Nat → Int)) := jn (fun (z2 : Int × (Nat → Int)) => some (z2.1, z2.2)) (fun k1 => cLt a0_size 0 (k1 (a0_size, a0_marksF)) (cLt a0_size ((a0_marksN : Int)) (gIn a0_size a0_marksN (k1 (a0_size + 1, va_up a0_marksF a0_size.toNat x1))) (k1 (a0_size, a0_marksF))))
set_option maxRecDepth 100000 in
set_option maxHeartbeats 4000000 in
theorem k_X3_add {D : va_G} {cs : q_CS} {a0 a0_marks : Nat} {a0_marksN : Nat} {a0_ci : Nat} {a0_fx : List Value} {a0_size : Int} {a0_marksF : (Nat → Int)} {x1 : Int} {r : (Int × (Nat → Int))} (ha0 : q_mk a0_ci a0_fx) (h : f_X3_add a0_marksN a0_size a0_marksF x1 = some r) : q_M D cs yX3_add cX3_add 2 none 0 0 [.ref a0, .int (iI x1)] [(a0, .inr (a0_ci, .ref a0_marks :: .int (iI a0_size) :: a0_fx)), (a0_marks, .inl (cs.1, a0_marksN, .inl (aI a0_marksF)))] none [(a0, .inr (a0_ci, .ref a0_marks :: .int (iI r.1) :: a0_fx)), (a0_marks, .inl (cs.1, a0_marksN, .inl (aI r.2)))] := by
  refine q_start_v [(0, .ref a0), (1, .int (iI x1))] RX3 rfl (by decide +kernel) rfl (Nat.le_of_ble_eq_true rfl) (fun κ ok fin => ?_)
  unfold f_X3_add at h
  refine j_aload_n (pc := 0) 0 ok dX3_add_0 rfl rfl ?_
  refine gm_X3_21 (pc := 1) 0 ok ha0 rfl dX3_add_1 ?_
  refine jn_use (P := fun z2 => q_J D κ 2 0 0 [(a0, .inr (a0_ci, .ref a0_marks :: .int (iI z2.1) :: a0_fx)), (a0_marks, .inl (cs.1, a0_marksN, .inl (aI z2.2)))] [] 39 []) h (fun z2 h => ?_) (fun k1 hk1 h => ?_)
  · obtain rfl := Option.some.inj h
    exact fin _ 39 dX3_add_39
  · refine j_if_lt (pc := 4) 39 ok dX3_add_4 (by decide) h (fun h => ?_) (fun h => ?_)
    · refine j_lv [] rfl ?_
      exact hk1 (a0_size, a0_marksF) h
    · refine j_aload_n (pc := 7) 0 ok dX3_add_7 rfl rfl ?_
      refine gm_X3_21 (pc := 8) 0 ok ha0 rfl dX3_add_8 ?_
      refine j_aload_n (pc := 11) 0 ok dX3_add_11 rfl rfl ?_
      refine gm_X3_15 (pc := 12) 0 ok ha0 rfl dX3_add_12 ?_
      refine j_alen (pc := 15) 1 0 ok rfl rfl dX3_add_15 ?_
      refine j_icmp_ge (pc := 16) 39 ok dX3_add_16 (by decide) h (fun h => ?_) (fun h => ?_)
      · refine j_lv [] rfl ?_
        exact hk1 (a0_size, a0_marksF) h
      · refine j_aload_n (pc := 19) 0 ok dX3_add_19 rfl rfl ?_
        refine gm_X3_15 (pc := 20) 0 ok ha0 rfl dX3_add_20 ?_
        refine j_aload_n (pc := 23) 0 ok dX3_add_23 rfl rfl ?_
        refine gm_X3_21 (pc := 24) 0 ok ha0 rfl dX3_add_24 ?_
        refine j_iload_n (pc := 27) 1 ok dX3_add_27 rfl rfl ?_
        refine j_iastw (pc := 28) 1 ok rfl dX3_add_28 h [(a0, .inr (a0_ci, .ref a0_marks :: .int (iI a0_size) :: a0_fx)), (a0_marks, .inl (cs.1, a0_marksN, .inl (aI (va_up a0_marksF a0_size.toNat x1))))] rfl (fun h => ?_)
        refine j_aload_n (pc := 29) 0 ok dX3_add_29 rfl rfl ?_
        refine j_dup (pc := 30) ok dX3_add_30 rfl ?_
        refine gm_X3_21 (pc := 31) 0 ok ha0 rfl dX3_add_31 ?_
        refine j_iconst (pc := 34) ok dX3_add_34 ?_
        refine j_iadd (pc := 35) ok dX3_add_35 ?_
        refine pm_X3_21 (pc := 36) 0 ok ha0 rfl dX3_add_36 [(a0, .inr (a0_ci, .ref a0_marks :: .int (iI (a0_size + 1)) :: a0_fx)), (a0_marks, .inl (cs.1, a0_marksN, .inl (aI (va_up a0_marksF a0_size.toNat x1))))] rfl ?_
        refine j_lv [] rfl ?_
        exact hk1 (a0_size + 1, va_up a0_marksF a0_size.toNat x1) h
def f_X3_exchange_5 (a0_marksN : Nat) (a0_size : Int) (y1 : Int) (y2 : Int) (e5_52 : (Nat → Int) × Int × Int → Option (Int × (Nat → Int))) : Nat → (Nat → Int) → Int → Int → Option (Int × (Nat → Int))
  | 0, _, _, _ => none
  | n + 1, a0_marksF, y3, y4 => cLt y4 a0_size (cLt y4 ((a0_marksN : Int)) (gIn y4 a0_marksN (jn (fun (z2 : (Nat → Int) × Int) => f_X3_exchange_5 a0_marksN a0_size y1 y2 e5_52 n z2.1 z2.2 (y4 + 1)) (fun k1 => cEq (a0_marksF y4.toNat) y1 (gIn y4 a0_marksN (k1 (va_up a0_marksF y4.toNat y2, y3 + 1))) (k1 (a0_marksF, y3))))) (e5_52 (a0_marksF, y3, y4))) (e5_52 (a0_marksF, y3, y4))
set_option maxRecDepth 100000 in
theorem l_X3_exchange_5 {D : va_G} {cs : q_CS} {κ : q_X} {a0 a0_marks : Nat} {a0_marksN : Nat} {a0_ci : Nat} {a0_fx : List Value} {a0_size : Int} {y1 y2 : Int} {r : (Int × (Nat → Int))} {e5_52 : (Nat → Int) × Int × Int → Option (Int × (Nat → Int))} (ha0 : q_mk a0_ci a0_fx) (ok : q_ok D cs κ cX3_exchange 5 RX3 (q_rm 0 0)) (fin : ∀ (lv : List (Nat × Value)) (pc : Nat), decode cX3_exchange pc = .ok (.ireturn, 1) → q_J D κ 5 0 0 [(a0, .inr (a0_ci, .ref a0_marks :: .int (iI a0_size) :: a0_fx)), (a0_marks, .inl (cs.1, a0_marksN, .inl (aI r.2)))] lv pc [.int (iI r.1)]) (he5_52 : ∀ x : (Nat → Int) × Int × Int, e5_52 x = some r → q_J D κ 5 0 0 [(a0, .inr (a0_ci, .ref a0_marks :: .int (iI a0_size) :: a0_fx)), (a0_marks, .inl (cs.1, a0_marksN, .inl (aI x.1)))] [(3, .int (iI x.2.1))] 52 []) : ∀ (n : Nat) (a0_marksF : (Nat → Int)) (y3 : Int) (y4 : Int), f_X3_exchange_5 a0_marksN a0_size y1 y2 e5_52 n a0_marksF y3 y4 = some r → q_J D κ 5 0 0 [(a0, .inr (a0_ci, .ref a0_marks :: .int (iI a0_size) :: a0_fx)), (a0_marks, .inl (cs.1, a0_marksN, .inl (aI a0_marksF)))] [(0, .ref a0), (1, .int (iI y1)), (2, .int (iI y2)), (3, .int (iI y3)), (4, .int (iI y4))] 5 [] := by
  intro n
  induction n with
  | zero =>
    intro a0_marksF y3 y4 h
    exact absurd h (by unfold f_X3_exchange_5; exact fun z => by cases z)
  | succ n ih =>
    intro a0_marksF y3 y4 h
    unfold f_X3_exchange_5 at h
    refine j_iload (pc := 5) 4 ok dX3_exchange_5 rfl ?_
    refine j_aload_n (pc := 7) 0 ok dX3_exchange_7 rfl rfl ?_
    refine gm_X3_21 (pc := 8) 0 ok ha0 rfl dX3_exchange_8 ?_
    refine j_icmp_ge (pc := 11) 52 ok dX3_exchange_11 (by decide) h (fun h => ?_) (fun h => ?_)
    · refine j_lv [3] rfl ?_
      exact he5_52 (a0_marksF, y3, y4) h
    · refine j_iload (pc := 14) 4 ok dX3_exchange_14 rfl ?_
      refine j_aload_n (pc := 16) 0 ok dX3_exchange_16 rfl rfl ?_
      refine gm_X3_15 (pc := 17) 0 ok ha0 rfl dX3_exchange_17 ?_
      refine j_alen (pc := 20) 1 0 ok rfl rfl dX3_exchange_20 ?_
      refine j_icmp_ge (pc := 21) 52 ok dX3_exchange_21 (by decide) h (fun h => ?_) (fun h => ?_)
      · refine j_lv [3] rfl ?_
        exact he5_52 (a0_marksF, y3, y4) h
      · refine j_aload_n (pc := 24) 0 ok dX3_exchange_24 rfl rfl ?_
        refine gm_X3_15 (pc := 25) 0 ok ha0 rfl dX3_exchange_25 ?_
        refine j_iload (pc := 28) 4 ok dX3_exchange_28 rfl ?_
        refine j_iald (pc := 30) 1 ok rfl dX3_exchange_30 h (fun h => ?_)
        refine j_iload_n (pc := 31) 1 ok dX3_exchange_31 rfl rfl ?_
        refine jn_use (P := fun z2 => q_J D κ 5 0 0 [(a0, .inr (a0_ci, .ref a0_marks :: .int (iI a0_size) :: a0_fx)), (a0_marks, .inl (cs.1, a0_marksN, .inl (aI z2.1)))] [(0, .ref a0), (1, .int (iI y1)), (2, .int (iI y2)), (3, .int (iI z2.2)), (4, .int (iI y4))] 46 []) h (fun z2 h => ?_) (fun k1 hk1 h => ?_)
        · refine j_iinc (pc := 46) (lv' := [(4, .int (iI (y4 + 1))), (0, .ref a0), (1, .int (iI y1)), (2, .int (iI y2)), (3, .int (iI z2.2))]) 4 ok dX3_exchange_46 rfl (by decide) rfl ?_
          refine j_goto (pc := 49) 5 ok dX3_exchange_49 (by decide) ?_
          refine j_lv [1, 2, 3, 4, 0] rfl ?_
          exact ih _ _ _ h
        · refine j_icmp_ne (pc := 32) 46 ok dX3_exchange_32 (by decide) h (fun h => ?_) (fun h => ?_)
          · exact hk1 (a0_marksF, y3) h
          · refine j_aload_n (pc := 35) 0 ok dX3_exchange_35 rfl rfl ?_
            refine gm_X3_15 (pc := 36) 0 ok ha0 rfl dX3_exchange_36 ?_
            refine j_iload (pc := 39) 4 ok dX3_exchange_39 rfl ?_
            refine j_iload_n (pc := 41) 2 ok dX3_exchange_41 rfl rfl ?_
            refine j_iastw (pc := 42) 1 ok rfl dX3_exchange_42 h [(a0, .inr (a0_ci, .ref a0_marks :: .int (iI a0_size) :: a0_fx)), (a0_marks, .inl (cs.1, a0_marksN, .inl (aI (va_up a0_marksF y4.toNat y2))))] rfl (fun h => ?_)
            refine j_iinc (pc := 43) (lv' := [(3, .int (iI (y3 + 1))), (0, .ref a0), (1, .int (iI y1)), (2, .int (iI y2)), (4, .int (iI y4))]) 3 ok dX3_exchange_43 rfl (by decide) rfl ?_
            refine j_lv [1, 2, 3, 0, 4] rfl ?_
            exact hk1 (va_up a0_marksF y4.toNat y2, y3 + 1) h
def f_X3_exchange (a0_marksN : Nat) (a0_size : Int) (a0_marksF : (Nat → Int)) (x1 : Int) (x2 : Int) : Option (Int × (Nat → Int)) := f_X3_exchange_5 a0_marksN a0_size x1 x2 (fun (z3 : (Nat → Int) × Int × Int) => some (z3.2.1, z3.1)) fuel a0_marksF 0 0
set_option maxRecDepth 100000 in
set_option maxHeartbeats 4000000 in
theorem k_X3_exchange {D : va_G} {cs : q_CS} {a0 a0_marks : Nat} {a0_marksN : Nat} {a0_ci : Nat} {a0_fx : List Value} {a0_size : Int} {a0_marksF : (Nat → Int)} {x1 x2 : Int} {r : (Int × (Nat → Int))} (ha0 : q_mk a0_ci a0_fx) (h : f_X3_exchange a0_marksN a0_size a0_marksF x1 x2 = some r) : q_M D cs yX3_exchange cX3_exchange 5 (some .int) 0 0 [.ref a0, .int (iI x1), .int (iI x2)] [(a0, .inr (a0_ci, .ref a0_marks :: .int (iI a0_size) :: a0_fx)), (a0_marks, .inl (cs.1, a0_marksN, .inl (aI a0_marksF)))] (some (.int (iI r.1))) [(a0, .inr (a0_ci, .ref a0_marks :: .int (iI a0_size) :: a0_fx)), (a0_marks, .inl (cs.1, a0_marksN, .inl (aI r.2)))] := by
  refine q_start_i [(0, .ref a0), (1, .int (iI x1)), (2, .int (iI x2))] RX3 rfl (by decide +kernel) rfl (Nat.le_of_ble_eq_true rfl) rfl (fun κ ok fin => ?_)
  unfold f_X3_exchange at h
  refine j_iconst (pc := 0) ok dX3_exchange_0 ?_
  refine j_istore_n (pc := 1) (lv' := [(3, .int (iI 0)), (0, .ref a0), (1, .int (iI x1)), (2, .int (iI x2))]) ok dX3_exchange_1 rfl (by decide) rfl ?_
  refine j_iconst (pc := 2) ok dX3_exchange_2 ?_
  refine j_istore (pc := 3) (lv' := [(4, .int (iI 0)), (3, .int (iI 0)), (0, .ref a0), (1, .int (iI x1)), (2, .int (iI x2))]) ok dX3_exchange_3 (by decide) rfl ?_
  refine j_lv [2, 3, 4, 1, 0] rfl ?_
  refine l_X3_exchange_5 ha0 ok fin (fun z3 h => ?_) fuel _ _ _ h
  · refine j_iload_n (pc := 52) 0 ok dX3_exchange_52 rfl rfl ?_
    obtain rfl := Option.some.inj h
    exact fin _ 53 dX3_exchange_53
def f_X3_emptySlots_4 (a0_marksN : Nat) (a0_size : Int) (a0_marksF : (Nat → Int)) (e4_65 : Int × Int → Option (Int)) : Nat → Int → Int → Option (Int)
  | 0, _, _ => none
  | n + 1, y1, y2 => cLt y2 a0_size (bd (f_X3_mark a0_marksN a0_size a0_marksF y2) (fun r1 => bd (f_X7_opens r1) (fun r2 => jn (fun (z7 : Int) => jn (fun (z11 : Int) => f_X3_emptySlots_4 a0_marksN a0_size a0_marksF e4_65 n z11 (y2 + 1)) (fun k8 => cEq z7 0 (k8 y1) (bd (f_X3_mark a0_marksN a0_size a0_marksF (y2 + 1)) (fun r9 => bd (f_X7_startsItem r9) (fun r10 => cEq r10 0 (k8 (y1 + 1)) (k8 y1)))))) (fun k4 => jn (fun (z6 : Unit) => k4 1) (fun k3 => cEq r2 0 (bd (f_X3_mark a0_marksN a0_size a0_marksF y2) (fun r5 => cEq r5 6 (k3 ()) (k4 0))) (k3 ())))))) (e4_65 (y1, y2))
set_option maxRecDepth 100000 in
theorem l_X3_emptySlots_4 {D : va_G} {cs : q_CS} {κ : q_X} {a0 a0_marks : Nat} {a0_marksN : Nat} {a0_ci : Nat} {a0_fx : List Value} {a0_size : Int} {a0_marksF : (Nat → Int)} {r : (Int)} {e4_65 : Int × Int → Option (Int)} (ha0 : q_mk a0_ci a0_fx) (ok : q_ok D cs κ cX3_emptySlots 4 RX3 (q_rm 1 21)) (fin : ∀ (lv : List (Nat × Value)) (pc : Nat), decode cX3_emptySlots pc = .ok (.ireturn, 1) → q_J D κ 4 0 0 [(a0, .inr (a0_ci, .ref a0_marks :: .int (iI a0_size) :: a0_fx)), (a0_marks, .inl (cs.1, a0_marksN, .inl (aI a0_marksF)))] lv pc [.int (iI r)]) (he4_65 : ∀ x : Int × Int, e4_65 x = some r → q_J D κ 4 0 0 [(a0, .inr (a0_ci, .ref a0_marks :: .int (iI a0_size) :: a0_fx)), (a0_marks, .inl (cs.1, a0_marksN, .inl (aI a0_marksF)))] [(1, .int (iI x.1))] 65 []) : ∀ (n : Nat) (y1 : Int) (y2 : Int), f_X3_emptySlots_4 a0_marksN a0_size a0_marksF e4_65 n y1 y2 = some r → q_J D κ 4 0 0 [(a0, .inr (a0_ci, .ref a0_marks :: .int (iI a0_size) :: a0_fx)), (a0_marks, .inl (cs.1, a0_marksN, .inl (aI a0_marksF)))] [(0, .ref a0), (1, .int (iI y1)), (2, .int (iI y2))] 4 [] := by
  intro n
  induction n with
  | zero =>
    intro y1 y2 h
    exact absurd h (by unfold f_X3_emptySlots_4; exact fun z => by cases z)
  | succ n ih =>
    intro y1 y2 h
    unfold f_X3_emptySlots_4 at h
    refine j_iload_n (pc := 4) 2 ok dX3_emptySlots_4 rfl rfl ?_
    refine j_aload_n (pc := 5) 0 ok dX3_emptySlots_5 rfl rfl ?_
    refine gm_X3_21 (pc := 6) 0 ok ha0 rfl dX3_emptySlots_6 ?_
    refine j_icmp_ge (pc := 9) 65 ok dX3_emptySlots_9 (by decide) h (fun h => ?_) (fun h => ?_)
    · refine j_lv [1] rfl ?_
      exact he4_65 (y1, y2) h
    · refine j_aload_n (pc := 12) 0 ok dX3_emptySlots_12 rfl rfl ?_
      refine j_iload_n (pc := 13) 2 ok dX3_emptySlots_13 rfl rfl ?_
      obtain ⟨r1, hr1, h⟩ := bd_inv h
      refine j_callM (pc := 14) ok ha0 (k_X3_mark (a0 := a0) (a0_marks := a0_marks) (a0_ci := a0_ci) (a0_fx := a0_fx) (a0_marksN := a0_marksN) (a0_size := a0_size) (a0_marksF := a0_marksF) (x1 := y2) ha0 hr1) gU_X3_31 rfl hd_X3_mark gV_X3_31 ⟨rfl, hd_X3_mark⟩ [0, 1] (by decide) rfl rfl 0 rfl rfl rfl ⟨Nat.zero_le _, Nat.zero_le _⟩ (Nat.le_of_ble_eq_true rfl) dX3_emptySlots_14 rfl [(a0, .inr (a0_ci, .ref a0_marks :: .int (iI a0_size) :: a0_fx)), (a0_marks, .inl (cs.1, a0_marksN, .inl (aI a0_marksF)))] rfl ?_
      obtain ⟨r2, hr2, h⟩ := bd_inv h
      refine j_callN (pc := 17) ok (k_X7_opens (x0 := r1) hr2) gN_X3_45 gNw_X3_45 gNi_X3_45 gNs_X3_45 hd_X7_opens [] (by decide) rfl rfl rfl rfl ⟨Nat.zero_le _, Nat.zero_le _⟩ (Nat.le_of_ble_eq_true rfl) dX3_emptySlots_17 rfl [(a0, .inr (a0_ci, .ref a0_marks :: .int (iI a0_size) :: a0_fx)), (a0_marks, .inl (cs.1, a0_marksN, .inl (aI a0_marksF)))] rfl ?_
      refine jn_use (P := fun z7 => q_J D κ 4 0 0 [(a0, .inr (a0_ci, .ref a0_marks :: .int (iI a0_size) :: a0_fx)), (a0_marks, .inl (cs.1, a0_marksN, .inl (aI a0_marksF)))] [(0, .ref a0), (1, .int (iI y1)), (2, .int (iI y2))] 38 [.int (iI z7)]) h (fun z7 h => ?_) (fun k4 hk4 h => ?_)
      · refine j_istore_n (pc := 38) (lv' := [(3, .int (iI z7)), (0, .ref a0), (1, .int (iI y1)), (2, .int (iI y2))]) ok dX3_emptySlots_38 rfl (by decide) rfl ?_
        refine j_iload_n (pc := 39) 0 ok dX3_emptySlots_39 rfl rfl ?_
        refine jn_use (P := fun z11 => q_J D κ 4 0 0 [(a0, .inr (a0_ci, .ref a0_marks :: .int (iI a0_size) :: a0_fx)), (a0_marks, .inl (cs.1, a0_marksN, .inl (aI a0_marksF)))] [(0, .ref a0), (1, .int (iI z11)), (2, .int (iI y2))] 59 []) h (fun z11 h => ?_) (fun k8 hk8 h => ?_)
        · refine j_iinc (pc := 59) (lv' := [(2, .int (iI (y2 + 1))), (0, .ref a0), (1, .int (iI z11))]) 2 ok dX3_emptySlots_59 rfl (by decide) rfl ?_
          refine j_goto (pc := 62) 4 ok dX3_emptySlots_62 (by decide) ?_
          refine j_lv [1, 2, 0] rfl ?_
          exact ih _ _ h
        · refine j_if_eq (pc := 40) 59 ok dX3_emptySlots_40 (by decide) h (fun h => ?_) (fun h => ?_)
          · refine j_lv [1, 2, 3] rfl ?_
            exact hk8 y1 h
          · refine j_aload_n (pc := 43) 1 ok dX3_emptySlots_43 rfl rfl ?_
            refine j_iload_n (pc := 44) 3 ok dX3_emptySlots_44 rfl rfl ?_
            refine j_iconst (pc := 45) ok dX3_emptySlots_45 ?_
            refine j_iadd (pc := 46) ok dX3_emptySlots_46 ?_
            obtain ⟨r9, hr9, h⟩ := bd_inv h
            refine j_callM (pc := 47) ok ha0 (k_X3_mark (a0 := a0) (a0_marks := a0_marks) (a0_ci := a0_ci) (a0_fx := a0_fx) (a0_marksN := a0_marksN) (a0_size := a0_size) (a0_marksF := a0_marksF) (x1 := y2 + 1) ha0 hr9) gU_X3_31 rfl hd_X3_mark gV_X3_31 ⟨rfl, hd_X3_mark⟩ [0, 1] (by decide) rfl rfl 0 rfl rfl rfl ⟨Nat.zero_le _, Nat.zero_le _⟩ (Nat.le_of_ble_eq_true rfl) dX3_emptySlots_47 rfl [(a0, .inr (a0_ci, .ref a0_marks :: .int (iI a0_size) :: a0_fx)), (a0_marks, .inl (cs.1, a0_marksN, .inl (aI a0_marksF)))] rfl ?_
            obtain ⟨r10, hr10, h⟩ := bd_inv h
            refine j_callN (pc := 50) ok (k_X7_startsItem (x0 := r9) hr10) gN_X3_35 gNw_X3_35 gNi_X3_35 gNs_X3_35 hd_X7_startsItem [] (by decide) rfl rfl rfl rfl ⟨Nat.zero_le _, Nat.zero_le _⟩ (Nat.le_of_ble_eq_true rfl) dX3_emptySlots_50 rfl [(a0, .inr (a0_ci, .ref a0_marks :: .int (iI a0_size) :: a0_fx)), (a0_marks, .inl (cs.1, a0_marksN, .inl (aI a0_marksF)))] rfl ?_
            refine j_if_ne (pc := 53) 59 ok dX3_emptySlots_53 (by decide) h (fun h => ?_) (fun h => ?_)
            · refine j_lv [1, 2, 3] rfl ?_
              exact hk8 y1 h
            · refine j_iinc (pc := 56) (lv' := [(1, .int (iI (y1 + 1))), (3, .int (iI z7)), (0, .ref a0), (2, .int (iI y2))]) 2 ok dX3_emptySlots_56 rfl (by decide) rfl ?_
              refine j_lv [2, 0, 3] rfl ?_
              exact hk8 (y1 + 1) h
      · refine jn_use (P := fun z6 => q_J D κ 4 0 0 [(a0, .inr (a0_ci, .ref a0_marks :: .int (iI a0_size) :: a0_fx)), (a0_marks, .inl (cs.1, a0_marksN, .inl (aI a0_marksF)))] [(0, .ref a0), (1, .int (iI y1)), (2, .int (iI y2))] 33 []) h (fun z6 h => ?_) (fun k3 hk3 h => ?_)
        · refine j_iconst (pc := 33) ok dX3_emptySlots_33 ?_
          refine j_goto (pc := 34) 38 ok dX3_emptySlots_34 (by decide) ?_
          exact hk4 1 h
        · refine j_if_ne (pc := 20) 33 ok dX3_emptySlots_20 (by decide) h (fun h => ?_) (fun h => ?_)
          · exact hk3 () h
          · refine j_aload_n (pc := 23) 0 ok dX3_emptySlots_23 rfl rfl ?_
            refine j_iload_n (pc := 24) 2 ok dX3_emptySlots_24 rfl rfl ?_
            obtain ⟨r5, hr5, h⟩ := bd_inv h
            refine j_callM (pc := 25) ok ha0 (k_X3_mark (a0 := a0) (a0_marks := a0_marks) (a0_ci := a0_ci) (a0_fx := a0_fx) (a0_marksN := a0_marksN) (a0_size := a0_size) (a0_marksF := a0_marksF) (x1 := y2) ha0 hr5) gU_X3_31 rfl hd_X3_mark gV_X3_31 ⟨rfl, hd_X3_mark⟩ [0, 1] (by decide) rfl rfl 0 rfl rfl rfl ⟨Nat.zero_le _, Nat.zero_le _⟩ (Nat.le_of_ble_eq_true rfl) dX3_emptySlots_25 rfl [(a0, .inr (a0_ci, .ref a0_marks :: .int (iI a0_size) :: a0_fx)), (a0_marks, .inl (cs.1, a0_marksN, .inl (aI a0_marksF)))] rfl ?_
            refine j_bipush (pc := 28) ok dX3_emptySlots_28 (by decide) ?_
            refine j_icmp_ne (pc := 30) 37 ok dX3_emptySlots_30 (by decide) h (fun h => ?_) (fun h => ?_)
            · refine j_iconst (pc := 37) ok dX3_emptySlots_37 ?_
              exact hk4 0 h
            · exact hk3 () h
def f_X3_emptySlots (a0_marksN : Nat) (a0_size : Int) (a0_marksF : (Nat → Int)) : Option (Int) := f_X3_emptySlots_4 a0_marksN a0_size a0_marksF (fun (z12 : Int × Int) => some z12.1) fuel 0 0
set_option maxRecDepth 100000 in
set_option maxHeartbeats 4000000 in
theorem k_X3_emptySlots {D : va_G} {cs : q_CS} {a0 a0_marks : Nat} {a0_marksN : Nat} {a0_ci : Nat} {a0_fx : List Value} {a0_size : Int} {a0_marksF : (Nat → Int)} {r : (Int)} (ha0 : q_mk a0_ci a0_fx) (h : f_X3_emptySlots a0_marksN a0_size a0_marksF = some r) : q_M D cs yX3_emptySlots cX3_emptySlots 4 (some .int) 1 21 [.ref a0] [(a0, .inr (a0_ci, .ref a0_marks :: .int (iI a0_size) :: a0_fx)), (a0_marks, .inl (cs.1, a0_marksN, .inl (aI a0_marksF)))] (some (.int (iI r))) [(a0, .inr (a0_ci, .ref a0_marks :: .int (iI a0_size) :: a0_fx)), (a0_marks, .inl (cs.1, a0_marksN, .inl (aI a0_marksF)))] := by
  refine q_start_i [(0, .ref a0)] RX3 rfl (by decide +kernel) rfl (Nat.le_of_ble_eq_true rfl) rfl (fun κ ok fin => ?_)
  unfold f_X3_emptySlots at h
  refine j_iconst (pc := 0) ok dX3_emptySlots_0 ?_
  refine j_istore_n (pc := 1) (lv' := [(1, .int (iI 0)), (0, .ref a0)]) ok dX3_emptySlots_1 rfl (by decide) rfl ?_
  refine j_iconst (pc := 2) ok dX3_emptySlots_2 ?_
  refine j_istore_n (pc := 3) (lv' := [(2, .int (iI 0)), (1, .int (iI 0)), (0, .ref a0)]) ok dX3_emptySlots_3 rfl (by decide) rfl ?_
  refine j_lv [2, 1, 0] rfl ?_
  refine l_X3_emptySlots_4 ha0 ok fin (fun z12 h => ?_) fuel _ _ h
  · refine j_iload_n (pc := 65) 0 ok dX3_emptySlots_65 rfl rfl ?_
    obtain rfl := Option.some.inj h
    exact fin _ 66 dX3_emptySlots_66
def f_X4_width (a0_widthsF : (Nat → Int)) (x1 : Int) : Option (Int) := jn (fun (z4 : Int) => some z4) (fun k2 => jn (fun (z3 : Unit) => k2 0) (fun k1 => cLt x1 0 (k1 ()) (cLt x1 181 (gIn x1 181 (k2 (a0_widthsF x1.toNat))) (k1 ()))))
set_option maxRecDepth 100000 in
set_option maxHeartbeats 4000000 in
theorem k_X4_width {D : va_G} {cs : q_CS} {a0 a0_widths a0_aboves a0_belows : Nat} {a0_row a0_column a0_height : Int} {a0_widthsF : (Nat → Int)} {x1 : Int} {r : (Int)} (h : f_X4_width a0_widthsF x1 = some r) : q_M D cs yX4_width cX4_width 2 (some .int) 0 0 [.ref a0, .int (iI x1)] [(a0, .inr (4, [.ref a0_widths, .ref a0_aboves, .ref a0_belows, .int (iI a0_row), .int (iI a0_column), .int (iI a0_height)])), (a0_widths, .inl (cs.1, 181, .inl (aI a0_widthsF)))] (some (.int (iI r))) [(a0, .inr (4, [.ref a0_widths, .ref a0_aboves, .ref a0_belows, .int (iI a0_row), .int (iI a0_column), .int (iI a0_height)])), (a0_widths, .inl (cs.1, 181, .inl (aI a0_widthsF)))] := by
  refine q_start_i [(0, .ref a0), (1, .int (iI x1))] RX4 rfl (by decide +kernel) rfl (Nat.le_of_ble_eq_true rfl) rfl (fun κ ok fin => ?_)
  unfold f_X4_width at h
  refine j_iload_n (pc := 0) 1 ok dX4_width_0 rfl rfl ?_
  refine jn_use (P := fun z4 => q_J D κ 2 0 0 [(a0, .inr (4, [.ref a0_widths, .ref a0_aboves, .ref a0_belows, .int (iI a0_row), .int (iI a0_column), .int (iI a0_height)])), (a0_widths, .inl (cs.1, 181, .inl (aI a0_widthsF)))] [] 23 [.int (iI z4)]) h (fun z4 h => ?_) (fun k2 hk2 h => ?_)
  · obtain rfl := Option.some.inj h
    exact fin _ 23 dX4_width_23
  · refine jn_use (P := fun z3 => q_J D κ 2 0 0 [(a0, .inr (4, [.ref a0_widths, .ref a0_aboves, .ref a0_belows, .int (iI a0_row), .int (iI a0_column), .int (iI a0_height)])), (a0_widths, .inl (cs.1, 181, .inl (aI a0_widthsF)))] [] 22 []) h (fun z3 h => ?_) (fun k1 hk1 h => ?_)
    · refine j_iconst (pc := 22) ok dX4_width_22 ?_
      exact hk2 0 h
    · refine j_if_lt (pc := 1) 22 ok dX4_width_1 (by decide) h (fun h => ?_) (fun h => ?_)
      · refine j_lv [] rfl ?_
        exact hk1 () h
      · refine j_iload_n (pc := 4) 1 ok dX4_width_4 rfl rfl ?_
        refine j_aload_n (pc := 5) 0 ok dX4_width_5 rfl rfl ?_
        refine gf_X4_9_4 (pc := 6) 0 ok rfl dX4_width_6 ?_
        refine j_alen (pc := 9) 1 0 ok rfl rfl dX4_width_9 ?_
        refine j_icmp_ge (pc := 10) 22 ok dX4_width_10 (by decide) h (fun h => ?_) (fun h => ?_)
        · refine j_lv [] rfl ?_
          exact hk1 () h
        · refine j_aload_n (pc := 13) 0 ok dX4_width_13 rfl rfl ?_
          refine gf_X4_9_4 (pc := 14) 0 ok rfl dX4_width_14 ?_
          refine j_iload_n (pc := 17) 1 ok dX4_width_17 rfl rfl ?_
          refine j_iald (pc := 18) 1 ok rfl dX4_width_18 h (fun h => ?_)
          refine j_goto (pc := 19) 23 ok dX4_width_19 (by decide) ?_
          refine j_lv [] rfl ?_
          exact hk2 (a0_widthsF x1.toNat) h
def f_X4_above (a0_abovesF : (Nat → Int)) (x1 : Int) : Option (Int) := jn (fun (z4 : Int) => some z4) (fun k2 => jn (fun (z3 : Unit) => k2 0) (fun k1 => cLt x1 0 (k1 ()) (cLt x1 181 (gIn x1 181 (k2 (a0_abovesF x1.toNat))) (k1 ()))))
set_option maxRecDepth 100000 in
set_option maxHeartbeats 4000000 in
theorem k_X4_above {D : va_G} {cs : q_CS} {a0 a0_widths a0_aboves a0_belows : Nat} {a0_row a0_column a0_height : Int} {a0_abovesF : (Nat → Int)} {x1 : Int} {r : (Int)} (h : f_X4_above a0_abovesF x1 = some r) : q_M D cs yX4_above cX4_above 2 (some .int) 0 0 [.ref a0, .int (iI x1)] [(a0, .inr (4, [.ref a0_widths, .ref a0_aboves, .ref a0_belows, .int (iI a0_row), .int (iI a0_column), .int (iI a0_height)])), (a0_aboves, .inl (cs.1, 181, .inl (aI a0_abovesF)))] (some (.int (iI r))) [(a0, .inr (4, [.ref a0_widths, .ref a0_aboves, .ref a0_belows, .int (iI a0_row), .int (iI a0_column), .int (iI a0_height)])), (a0_aboves, .inl (cs.1, 181, .inl (aI a0_abovesF)))] := by
  refine q_start_i [(0, .ref a0), (1, .int (iI x1))] RX4 rfl (by decide +kernel) rfl (Nat.le_of_ble_eq_true rfl) rfl (fun κ ok fin => ?_)
  unfold f_X4_above at h
  refine j_iload_n (pc := 0) 1 ok dX4_above_0 rfl rfl ?_
  refine jn_use (P := fun z4 => q_J D κ 2 0 0 [(a0, .inr (4, [.ref a0_widths, .ref a0_aboves, .ref a0_belows, .int (iI a0_row), .int (iI a0_column), .int (iI a0_height)])), (a0_aboves, .inl (cs.1, 181, .inl (aI a0_abovesF)))] [] 23 [.int (iI z4)]) h (fun z4 h => ?_) (fun k2 hk2 h => ?_)
  · obtain rfl := Option.some.inj h
    exact fin _ 23 dX4_above_23
  · refine jn_use (P := fun z3 => q_J D κ 2 0 0 [(a0, .inr (4, [.ref a0_widths, .ref a0_aboves, .ref a0_belows, .int (iI a0_row), .int (iI a0_column), .int (iI a0_height)])), (a0_aboves, .inl (cs.1, 181, .inl (aI a0_abovesF)))] [] 22 []) h (fun z3 h => ?_) (fun k1 hk1 h => ?_)
    · refine j_iconst (pc := 22) ok dX4_above_22 ?_
      exact hk2 0 h
    · refine j_if_lt (pc := 1) 22 ok dX4_above_1 (by decide) h (fun h => ?_) (fun h => ?_)
      · refine j_lv [] rfl ?_
        exact hk1 () h
      · refine j_iload_n (pc := 4) 1 ok dX4_above_4 rfl rfl ?_
        refine j_aload_n (pc := 5) 0 ok dX4_above_5 rfl rfl ?_
        refine gf_X4_15_4 (pc := 6) 0 ok rfl dX4_above_6 ?_
        refine j_alen (pc := 9) 1 0 ok rfl rfl dX4_above_9 ?_
        refine j_icmp_ge (pc := 10) 22 ok dX4_above_10 (by decide) h (fun h => ?_) (fun h => ?_)
        · refine j_lv [] rfl ?_
          exact hk1 () h
        · refine j_aload_n (pc := 13) 0 ok dX4_above_13 rfl rfl ?_
          refine gf_X4_15_4 (pc := 14) 0 ok rfl dX4_above_14 ?_
          refine j_iload_n (pc := 17) 1 ok dX4_above_17 rfl rfl ?_
          refine j_iald (pc := 18) 1 ok rfl dX4_above_18 h (fun h => ?_)
          refine j_goto (pc := 19) 23 ok dX4_above_19 (by decide) ?_
          refine j_lv [] rfl ?_
          exact hk2 (a0_abovesF x1.toNat) h
def f_X4_below (a0_belowsF : (Nat → Int)) (x1 : Int) : Option (Int) := jn (fun (z4 : Int) => some z4) (fun k2 => jn (fun (z3 : Unit) => k2 0) (fun k1 => cLt x1 0 (k1 ()) (cLt x1 181 (gIn x1 181 (k2 (a0_belowsF x1.toNat))) (k1 ()))))
set_option maxRecDepth 100000 in
set_option maxHeartbeats 4000000 in
theorem k_X4_below {D : va_G} {cs : q_CS} {a0 a0_widths a0_aboves a0_belows : Nat} {a0_row a0_column a0_height : Int} {a0_belowsF : (Nat → Int)} {x1 : Int} {r : (Int)} (h : f_X4_below a0_belowsF x1 = some r) : q_M D cs yX4_below cX4_below 2 (some .int) 0 0 [.ref a0, .int (iI x1)] [(a0, .inr (4, [.ref a0_widths, .ref a0_aboves, .ref a0_belows, .int (iI a0_row), .int (iI a0_column), .int (iI a0_height)])), (a0_belows, .inl (cs.1, 181, .inl (aI a0_belowsF)))] (some (.int (iI r))) [(a0, .inr (4, [.ref a0_widths, .ref a0_aboves, .ref a0_belows, .int (iI a0_row), .int (iI a0_column), .int (iI a0_height)])), (a0_belows, .inl (cs.1, 181, .inl (aI a0_belowsF)))] := by
  refine q_start_i [(0, .ref a0), (1, .int (iI x1))] RX4 rfl (by decide +kernel) rfl (Nat.le_of_ble_eq_true rfl) rfl (fun κ ok fin => ?_)
  unfold f_X4_below at h
  refine j_iload_n (pc := 0) 1 ok dX4_below_0 rfl rfl ?_
  refine jn_use (P := fun z4 => q_J D κ 2 0 0 [(a0, .inr (4, [.ref a0_widths, .ref a0_aboves, .ref a0_belows, .int (iI a0_row), .int (iI a0_column), .int (iI a0_height)])), (a0_belows, .inl (cs.1, 181, .inl (aI a0_belowsF)))] [] 23 [.int (iI z4)]) h (fun z4 h => ?_) (fun k2 hk2 h => ?_)
  · obtain rfl := Option.some.inj h
    exact fin _ 23 dX4_below_23
  · refine jn_use (P := fun z3 => q_J D κ 2 0 0 [(a0, .inr (4, [.ref a0_widths, .ref a0_aboves, .ref a0_belows, .int (iI a0_row), .int (iI a0_column), .int (iI a0_height)])), (a0_belows, .inl (cs.1, 181, .inl (aI a0_belowsF)))] [] 22 []) h (fun z3 h => ?_) (fun k1 hk1 h => ?_)
    · refine j_iconst (pc := 22) ok dX4_below_22 ?_
      exact hk2 0 h
    · refine j_if_lt (pc := 1) 22 ok dX4_below_1 (by decide) h (fun h => ?_) (fun h => ?_)
      · refine j_lv [] rfl ?_
        exact hk1 () h
      · refine j_iload_n (pc := 4) 1 ok dX4_below_4 rfl rfl ?_
        refine j_aload_n (pc := 5) 0 ok dX4_below_5 rfl rfl ?_
        refine gf_X4_18_4 (pc := 6) 0 ok rfl dX4_below_6 ?_
        refine j_alen (pc := 9) 1 0 ok rfl rfl dX4_below_9 ?_
        refine j_icmp_ge (pc := 10) 22 ok dX4_below_10 (by decide) h (fun h => ?_) (fun h => ?_)
        · refine j_lv [] rfl ?_
          exact hk1 () h
        · refine j_aload_n (pc := 13) 0 ok dX4_below_13 rfl rfl ?_
          refine gf_X4_18_4 (pc := 14) 0 ok rfl dX4_below_14 ?_
          refine j_iload_n (pc := 17) 1 ok dX4_below_17 rfl rfl ?_
          refine j_iald (pc := 18) 1 ok rfl dX4_below_18 h (fun h => ?_)
          refine j_goto (pc := 19) 23 ok dX4_below_19 (by decide) ?_
          refine j_lv [] rfl ?_
          exact hk2 (a0_belowsF x1.toNat) h
def f_X4_lines (a0_abovesF : (Nat → Int)) (a0_belowsF : (Nat → Int)) (x1 : Int) : Option (Int) := bd (f_X4_above a0_abovesF x1) (fun r1 => bd (f_X4_below a0_belowsF x1) (fun r2 => some ((r1 + 1) + r2)))
set_option maxRecDepth 100000 in
set_option maxHeartbeats 4000000 in
theorem k_X4_lines {D : va_G} {cs : q_CS} {a0 a0_widths a0_aboves a0_belows : Nat} {a0_row a0_column a0_height : Int} {a0_abovesF a0_belowsF : (Nat → Int)} {x1 : Int} {r : (Int)} (h : f_X4_lines a0_abovesF a0_belowsF x1 = some r) : q_M D cs yX4_lines cX4_lines 2 (some .int) 1 21 [.ref a0, .int (iI x1)] [(a0, .inr (4, [.ref a0_widths, .ref a0_aboves, .ref a0_belows, .int (iI a0_row), .int (iI a0_column), .int (iI a0_height)])), (a0_aboves, .inl (cs.1, 181, .inl (aI a0_abovesF))), (a0_belows, .inl (cs.1, 181, .inl (aI a0_belowsF)))] (some (.int (iI r))) [(a0, .inr (4, [.ref a0_widths, .ref a0_aboves, .ref a0_belows, .int (iI a0_row), .int (iI a0_column), .int (iI a0_height)])), (a0_aboves, .inl (cs.1, 181, .inl (aI a0_abovesF))), (a0_belows, .inl (cs.1, 181, .inl (aI a0_belowsF)))] := by
  refine q_start_i [(0, .ref a0), (1, .int (iI x1))] RX4 rfl (by decide +kernel) rfl (Nat.le_of_ble_eq_true rfl) rfl (fun κ ok fin => ?_)
  unfold f_X4_lines at h
  refine j_aload_n (pc := 0) 0 ok dX4_lines_0 rfl rfl ?_
  refine j_iload_n (pc := 1) 1 ok dX4_lines_1 rfl rfl ?_
  obtain ⟨r1, hr1, h⟩ := bd_inv h
  refine j_callV (pc := 2) ok (k_X4_above (a0 := a0) (a0_widths := a0_widths) (a0_aboves := a0_aboves) (a0_belows := a0_belows) (a0_row := a0_row) (a0_column := a0_column) (a0_height := a0_height) (a0_abovesF := a0_abovesF) (x1 := x1) hr1) gV_X4_21 ⟨rfl, hd_X4_above⟩ [0, 1] (by decide) rfl rfl 0 rfl rfl rfl rfl ⟨Nat.zero_le _, Nat.zero_le _⟩ (Nat.le_of_ble_eq_true rfl) dX4_lines_2 rfl [(a0, .inr (4, [.ref a0_widths, .ref a0_aboves, .ref a0_belows, .int (iI a0_row), .int (iI a0_column), .int (iI a0_height)])), (a0_aboves, .inl (cs.1, 181, .inl (aI a0_abovesF))), (a0_belows, .inl (cs.1, 181, .inl (aI a0_belowsF)))] rfl ?_
  refine j_iconst (pc := 5) ok dX4_lines_5 ?_
  refine j_iadd (pc := 6) ok dX4_lines_6 ?_
  refine j_aload_n (pc := 7) 0 ok dX4_lines_7 rfl rfl ?_
  refine j_iload_n (pc := 8) 1 ok dX4_lines_8 rfl rfl ?_
  obtain ⟨r2, hr2, h⟩ := bd_inv h
  refine j_callV (pc := 9) ok (k_X4_below (a0 := a0) (a0_widths := a0_widths) (a0_aboves := a0_aboves) (a0_belows := a0_belows) (a0_row := a0_row) (a0_column := a0_column) (a0_height := a0_height) (a0_belowsF := a0_belowsF) (x1 := x1) hr2) gV_X4_25 ⟨rfl, hd_X4_below⟩ [0, 2] (by decide) rfl rfl 0 rfl rfl rfl rfl ⟨Nat.zero_le _, Nat.zero_le _⟩ (Nat.le_of_ble_eq_true rfl) dX4_lines_9 rfl [(a0, .inr (4, [.ref a0_widths, .ref a0_aboves, .ref a0_belows, .int (iI a0_row), .int (iI a0_column), .int (iI a0_height)])), (a0_aboves, .inl (cs.1, 181, .inl (aI a0_abovesF))), (a0_belows, .inl (cs.1, 181, .inl (aI a0_belowsF)))] rfl ?_
  refine j_iadd (pc := 12) ok dX4_lines_12 ?_
  obtain rfl := Option.some.inj h
  exact fin _ 13 dX4_lines_13
def f_X4_itemWidth (a1_marksN : Nat) (a0_widthsF : (Nat → Int)) (a1_size : Int) (a1_marksF : (Nat → Int)) (x2 : Int) : Option (Int) := bd (f_X3_mark a1_marksN a1_size a1_marksF x2) (fun r1 => jn (fun (z8 : Unit) => bd (f_X4_width a0_widthsF (x2 + 1)) (fun r9 => some r9)) (fun k2 => cEq r1 1 (bd (f_X4_width a0_widthsF (x2 + 1)) (fun r3 => bd (f_X3_secondSlot a1_marksN a1_size a1_marksF x2) (fun r4 => bd (f_X4_width a0_widthsF r4) (fun r5 => gR r3 (gR r5 (some (mxI r3 r5))))))) (cEq r1 2 (k2 ()) (cEq r1 3 (k2 ()) (cEq r1 4 (bd (f_X4_width a0_widthsF (x2 + 1)) (fun r6 => some (1 + r6))) (cEq r1 5 (bd (f_X4_width a0_widthsF (x2 + 1)) (fun r7 => some (2 + r7))) (some 1)))))))
set_option maxRecDepth 100000 in
set_option maxHeartbeats 4000000 in
theorem k_X4_itemWidth {D : va_G} {cs : q_CS} {a0 a0_widths a0_aboves a0_belows a1 a1_marks : Nat} {a1_marksN : Nat} {a1_ci : Nat} {a1_fx : List Value} {a0_row a0_column a0_height a1_size : Int} {a0_widthsF a1_marksF : (Nat → Int)} {x2 : Int} {r : (Int)} (ha1 : q_mk a1_ci a1_fx) (h : f_X4_itemWidth a1_marksN a0_widthsF a1_size a1_marksF x2 = some r) : q_M D cs yX4_itemWidth cX4_itemWidth 4 (some .int) 2 45 [.ref a0, .ref a1, .int (iI x2)] [(a0, .inr (4, [.ref a0_widths, .ref a0_aboves, .ref a0_belows, .int (iI a0_row), .int (iI a0_column), .int (iI a0_height)])), (a0_widths, .inl (cs.1, 181, .inl (aI a0_widthsF))), (a1, .inr (a1_ci, .ref a1_marks :: .int (iI a1_size) :: a1_fx)), (a1_marks, .inl (cs.1, a1_marksN, .inl (aI a1_marksF)))] (some (.int (iI r))) [(a0, .inr (4, [.ref a0_widths, .ref a0_aboves, .ref a0_belows, .int (iI a0_row), .int (iI a0_column), .int (iI a0_height)])), (a0_widths, .inl (cs.1, 181, .inl (aI a0_widthsF))), (a1, .inr (a1_ci, .ref a1_marks :: .int (iI a1_size) :: a1_fx)), (a1_marks, .inl (cs.1, a1_marksN, .inl (aI a1_marksF)))] := by
  refine q_start_i [(0, .ref a0), (1, .ref a1), (2, .int (iI x2))] RX4 rfl (by decide +kernel) rfl (Nat.le_of_ble_eq_true rfl) rfl (fun κ ok fin => ?_)
  unfold f_X4_itemWidth at h
  refine j_iload_n (pc := 0) 2 ok dX4_itemWidth_0 rfl rfl ?_
  refine j_iconst (pc := 1) ok dX4_itemWidth_1 ?_
  refine j_iadd (pc := 2) ok dX4_itemWidth_2 ?_
  refine j_istore_n (pc := 3) (lv' := [(3, .int (iI (x2 + 1))), (0, .ref a0), (1, .ref a1), (2, .int (iI x2))]) ok dX4_itemWidth_3 rfl (by decide) rfl ?_
  refine j_aload_n (pc := 4) 2 ok dX4_itemWidth_4 rfl rfl ?_
  refine j_iload_n (pc := 5) 3 ok dX4_itemWidth_5 rfl rfl ?_
  obtain ⟨r1, hr1, h⟩ := bd_inv h
  refine j_callM (pc := 6) ok ha1 (k_X3_mark (a0 := a1) (a0_marks := a1_marks) (a0_ci := a1_ci) (a0_fx := a1_fx) (a0_marksN := a1_marksN) (a0_size := a1_size) (a0_marksF := a1_marksF) (x1 := x2) ha1 hr1) gU_X4_34 rfl hd_X3_mark gV_X4_34 ⟨rfl, hd_X3_mark⟩ [2, 3] (by decide) rfl rfl 2 rfl rfl rfl ⟨Nat.zero_le _, Nat.zero_le _⟩ (Nat.le_of_ble_eq_true rfl) dX4_itemWidth_6 rfl [(a0, .inr (4, [.ref a0_widths, .ref a0_aboves, .ref a0_belows, .int (iI a0_row), .int (iI a0_column), .int (iI a0_height)])), (a0_widths, .inl (cs.1, 181, .inl (aI a0_widthsF))), (a1, .inr (a1_ci, .ref a1_marks :: .int (iI a1_size) :: a1_fx)), (a1_marks, .inl (cs.1, a1_marksN, .inl (aI a1_marksF)))] rfl ?_
  refine jn_use (P := fun z8 => q_J D κ 4 0 0 [(a0, .inr (4, [.ref a0_widths, .ref a0_aboves, .ref a0_belows, .int (iI a0_row), .int (iI a0_column), .int (iI a0_height)])), (a0_widths, .inl (cs.1, 181, .inl (aI a0_widthsF))), (a1, .inr (a1_ci, .ref a1_marks :: .int (iI a1_size) :: a1_fx)), (a1_marks, .inl (cs.1, a1_marksN, .inl (aI a1_marksF)))] [(0, .ref a0), (3, .int (iI (x2 + 1)))] 62 []) h (fun z8 h => ?_) (fun k2 hk2 h => ?_)
  · refine j_aload_n (pc := 62) 0 ok dX4_itemWidth_62 rfl rfl ?_
    refine j_iload_n (pc := 63) 1 ok dX4_itemWidth_63 rfl rfl ?_
    obtain ⟨r9, hr9, h⟩ := bd_inv h
    refine j_callV (pc := 64) ok (k_X4_width (a0 := a0) (a0_widths := a0_widths) (a0_aboves := a0_aboves) (a0_belows := a0_belows) (a0_row := a0_row) (a0_column := a0_column) (a0_height := a0_height) (a0_widthsF := a0_widthsF) (x1 := x2 + 1) hr9) gV_X4_67 ⟨rfl, hd_X4_width⟩ [0, 1] (by decide) rfl rfl 0 rfl rfl rfl rfl ⟨Nat.zero_le _, Nat.zero_le _⟩ (Nat.le_of_ble_eq_true rfl) dX4_itemWidth_64 rfl [(a0, .inr (4, [.ref a0_widths, .ref a0_aboves, .ref a0_belows, .int (iI a0_row), .int (iI a0_column), .int (iI a0_height)])), (a0_widths, .inl (cs.1, 181, .inl (aI a0_widthsF))), (a1, .inr (a1_ci, .ref a1_marks :: .int (iI a1_size) :: a1_fx)), (a1_marks, .inl (cs.1, a1_marksN, .inl (aI a1_marksF)))] rfl ?_
    obtain rfl := Option.some.inj h
    exact fin _ 67 dX4_itemWidth_67
  · obtain ⟨hR, h1, h2⟩ := cEq_inv h
    by_cases e9_1 : r1 = 1
    · have h := h1 e9_1
      refine j_tabIn (pc := 9) 1 44 ok dX4_itemWidth_9 hR.1 e9_1 (by decide) rfl (by decide) ?_
      refine j_aload_n (pc := 44) 1 ok dX4_itemWidth_44 rfl rfl ?_
      refine j_iload_n (pc := 45) 0 ok dX4_itemWidth_45 rfl rfl ?_
      obtain ⟨r3, hr3, h⟩ := bd_inv h
      refine j_callV (pc := 46) ok (k_X4_width (a0 := a0) (a0_widths := a0_widths) (a0_aboves := a0_aboves) (a0_belows := a0_belows) (a0_row := a0_row) (a0_column := a0_column) (a0_height := a0_height) (a0_widthsF := a0_widthsF) (x1 := x2 + 1) hr3) gV_X4_67 ⟨rfl, hd_X4_width⟩ [0, 1] (by decide) rfl rfl 0 rfl rfl rfl rfl ⟨Nat.zero_le _, Nat.zero_le _⟩ (Nat.le_of_ble_eq_true rfl) dX4_itemWidth_46 rfl [(a0, .inr (4, [.ref a0_widths, .ref a0_aboves, .ref a0_belows, .int (iI a0_row), .int (iI a0_column), .int (iI a0_height)])), (a0_widths, .inl (cs.1, 181, .inl (aI a0_widthsF))), (a1, .inr (a1_ci, .ref a1_marks :: .int (iI a1_size) :: a1_fx)), (a1_marks, .inl (cs.1, a1_marksN, .inl (aI a1_marksF)))] rfl ?_
      refine j_aload_n (pc := 49) 1 ok dX4_itemWidth_49 rfl rfl ?_
      refine j_aload_n (pc := 50) 2 ok dX4_itemWidth_50 rfl rfl ?_
      refine j_iload_n (pc := 51) 3 ok dX4_itemWidth_51 rfl rfl ?_
      obtain ⟨r4, hr4, h⟩ := bd_inv h
      refine j_callM (pc := 52) ok ha1 (k_X3_secondSlot (a0 := a1) (a0_marks := a1_marks) (a0_ci := a1_ci) (a0_fx := a1_fx) (a0_marksN := a1_marksN) (a0_size := a1_size) (a0_marksF := a1_marksF) (x1 := x2) ha1 hr4) gU_X4_70 rfl hd_X3_secondSlot gV_X4_70 ⟨rfl, hd_X3_secondSlot⟩ [2, 3] (by decide) rfl rfl 2 rfl rfl rfl ⟨Nat.zero_le _, Nat.zero_le _⟩ (Nat.le_of_ble_eq_true rfl) dX4_itemWidth_52 rfl [(a0, .inr (4, [.ref a0_widths, .ref a0_aboves, .ref a0_belows, .int (iI a0_row), .int (iI a0_column), .int (iI a0_height)])), (a0_widths, .inl (cs.1, 181, .inl (aI a0_widthsF))), (a1, .inr (a1_ci, .ref a1_marks :: .int (iI a1_size) :: a1_fx)), (a1_marks, .inl (cs.1, a1_marksN, .inl (aI a1_marksF)))] rfl ?_
      obtain ⟨r5, hr5, h⟩ := bd_inv h
      refine j_callV (pc := 55) ok (k_X4_width (a0 := a0) (a0_widths := a0_widths) (a0_aboves := a0_aboves) (a0_belows := a0_belows) (a0_row := a0_row) (a0_column := a0_column) (a0_height := a0_height) (a0_widthsF := a0_widthsF) (x1 := r4) hr5) gV_X4_67 ⟨rfl, hd_X4_width⟩ [0, 1] (by decide) rfl rfl 0 rfl rfl rfl rfl ⟨Nat.zero_le _, Nat.zero_le _⟩ (Nat.le_of_ble_eq_true rfl) dX4_itemWidth_55 rfl [(a0, .inr (4, [.ref a0_widths, .ref a0_aboves, .ref a0_belows, .int (iI a0_row), .int (iI a0_column), .int (iI a0_height)])), (a0_widths, .inl (cs.1, 181, .inl (aI a0_widthsF))), (a1, .inr (a1_ci, .ref a1_marks :: .int (iI a1_size) :: a1_fx)), (a1_marks, .inl (cs.1, a1_marksN, .inl (aI a1_marksF)))] rfl ?_
      refine j_maxw (pc := 58) ok (q_in 706 (by decide +kernel) (by decide +kernel)) (q_in 80 (by decide +kernel) (by decide +kernel)) (q_in 49 (by decide +kernel) (by decide +kernel)) (q_in 81 (by decide +kernel) (by decide +kernel)) (by decide) (Nat.le_of_ble_eq_true rfl) (Nat.zero_le _) (Nat.zero_le _) dX4_itemWidth_58 h (fun h => ?_)
      obtain rfl := Option.some.inj h
      exact fin _ 61 dX4_itemWidth_61
    · have h := h2 e9_1
      obtain ⟨hR, h1, h2⟩ := cEq_inv h
      by_cases e9_2 : r1 = 2
      · have h := h1 e9_2
        refine j_tabIn (pc := 9) 2 62 ok dX4_itemWidth_9 hR.1 e9_2 (by decide) rfl (by decide) ?_
        refine j_lv [1, 0] rfl ?_
        exact hk2 () h
      · have h := h2 e9_2
        obtain ⟨hR, h1, h2⟩ := cEq_inv h
        by_cases e9_3 : r1 = 3
        · have h := h1 e9_3
          refine j_tabIn (pc := 9) 3 62 ok dX4_itemWidth_9 hR.1 e9_3 (by decide) rfl (by decide) ?_
          refine j_lv [1, 0] rfl ?_
          exact hk2 () h
        · have h := h2 e9_3
          obtain ⟨hR, h1, h2⟩ := cEq_inv h
          by_cases e9_4 : r1 = 4
          · have h := h1 e9_4
            refine j_tabIn (pc := 9) 4 68 ok dX4_itemWidth_9 hR.1 e9_4 (by decide) rfl (by decide) ?_
            refine j_iconst (pc := 68) ok dX4_itemWidth_68 ?_
            refine j_aload_n (pc := 69) 1 ok dX4_itemWidth_69 rfl rfl ?_
            refine j_iload_n (pc := 70) 0 ok dX4_itemWidth_70 rfl rfl ?_
            obtain ⟨r6, hr6, h⟩ := bd_inv h
            refine j_callV (pc := 71) ok (k_X4_width (a0 := a0) (a0_widths := a0_widths) (a0_aboves := a0_aboves) (a0_belows := a0_belows) (a0_row := a0_row) (a0_column := a0_column) (a0_height := a0_height) (a0_widthsF := a0_widthsF) (x1 := x2 + 1) hr6) gV_X4_67 ⟨rfl, hd_X4_width⟩ [0, 1] (by decide) rfl rfl 0 rfl rfl rfl rfl ⟨Nat.zero_le _, Nat.zero_le _⟩ (Nat.le_of_ble_eq_true rfl) dX4_itemWidth_71 rfl [(a0, .inr (4, [.ref a0_widths, .ref a0_aboves, .ref a0_belows, .int (iI a0_row), .int (iI a0_column), .int (iI a0_height)])), (a0_widths, .inl (cs.1, 181, .inl (aI a0_widthsF))), (a1, .inr (a1_ci, .ref a1_marks :: .int (iI a1_size) :: a1_fx)), (a1_marks, .inl (cs.1, a1_marksN, .inl (aI a1_marksF)))] rfl ?_
            refine j_iadd (pc := 74) ok dX4_itemWidth_74 ?_
            obtain rfl := Option.some.inj h
            exact fin _ 75 dX4_itemWidth_75
          · have h := h2 e9_4
            obtain ⟨hR, h1, h2⟩ := cEq_inv h
            by_cases e9_5 : r1 = 5
            · have h := h1 e9_5
              refine j_tabIn (pc := 9) 5 76 ok dX4_itemWidth_9 hR.1 e9_5 (by decide) rfl (by decide) ?_
              refine j_iconst (pc := 76) ok dX4_itemWidth_76 ?_
              refine j_aload_n (pc := 77) 1 ok dX4_itemWidth_77 rfl rfl ?_
              refine j_iload_n (pc := 78) 0 ok dX4_itemWidth_78 rfl rfl ?_
              obtain ⟨r7, hr7, h⟩ := bd_inv h
              refine j_callV (pc := 79) ok (k_X4_width (a0 := a0) (a0_widths := a0_widths) (a0_aboves := a0_aboves) (a0_belows := a0_belows) (a0_row := a0_row) (a0_column := a0_column) (a0_height := a0_height) (a0_widthsF := a0_widthsF) (x1 := x2 + 1) hr7) gV_X4_67 ⟨rfl, hd_X4_width⟩ [0, 1] (by decide) rfl rfl 0 rfl rfl rfl rfl ⟨Nat.zero_le _, Nat.zero_le _⟩ (Nat.le_of_ble_eq_true rfl) dX4_itemWidth_79 rfl [(a0, .inr (4, [.ref a0_widths, .ref a0_aboves, .ref a0_belows, .int (iI a0_row), .int (iI a0_column), .int (iI a0_height)])), (a0_widths, .inl (cs.1, 181, .inl (aI a0_widthsF))), (a1, .inr (a1_ci, .ref a1_marks :: .int (iI a1_size) :: a1_fx)), (a1_marks, .inl (cs.1, a1_marksN, .inl (aI a1_marksF)))] rfl ?_
              refine j_iadd (pc := 82) ok dX4_itemWidth_82 ?_
              obtain rfl := Option.some.inj h
              exact fin _ 83 dX4_itemWidth_83
            · have h := h2 e9_5
              refine j_tabOut (pc := 9) 84 ok dX4_itemWidth_9 hR.1 (by omega) (by decide) ?_
              refine j_iconst (pc := 84) ok dX4_itemWidth_84 ?_
              obtain rfl := Option.some.inj h
              exact fin _ 85 dX4_itemWidth_85
def f_X4_itemAbove (a1_marksN : Nat) (a0_abovesF : (Nat → Int)) (a0_belowsF : (Nat → Int)) (a1_size : Int) (a1_marksF : (Nat → Int)) (x2 : Int) : Option (Int) := bd (f_X3_mark a1_marksN a1_size a1_marksF x2) (fun r1 => jn (fun (z7 : Unit) => bd (f_X4_lines a0_abovesF a0_belowsF (x2 + 1)) (fun r8 => some r8)) (fun k3 => jn (fun (z6 : Unit) => some 0) (fun k2 => cEq r1 1 (k3 ()) (cEq r1 2 (k3 ()) (cEq r1 3 (k2 ()) (cEq r1 4 (bd (f_X4_above a0_abovesF (x2 + 1)) (fun r4 => some (1 + r4))) (cEq r1 5 (bd (f_X4_above a0_abovesF (x2 + 1)) (fun r5 => some r5)) (k2 ()))))))))
set_option maxRecDepth 100000 in
set_option maxHeartbeats 4000000 in
theorem k_X4_itemAbove {D : va_G} {cs : q_CS} {a0 a0_widths a0_aboves a0_belows a1 a1_marks : Nat} {a1_marksN : Nat} {a1_ci : Nat} {a1_fx : List Value} {a0_row a0_column a0_height a1_size : Int} {a0_abovesF a0_belowsF a1_marksF : (Nat → Int)} {x2 : Int} {r : (Int)} (ha1 : q_mk a1_ci a1_fx) (h : f_X4_itemAbove a1_marksN a0_abovesF a0_belowsF a1_size a1_marksF x2 = some r) : q_M D cs yX4_itemAbove cX4_itemAbove 4 (some .int) 2 42 [.ref a0, .ref a1, .int (iI x2)] [(a0, .inr (4, [.ref a0_widths, .ref a0_aboves, .ref a0_belows, .int (iI a0_row), .int (iI a0_column), .int (iI a0_height)])), (a0_aboves, .inl (cs.1, 181, .inl (aI a0_abovesF))), (a0_belows, .inl (cs.1, 181, .inl (aI a0_belowsF))), (a1, .inr (a1_ci, .ref a1_marks :: .int (iI a1_size) :: a1_fx)), (a1_marks, .inl (cs.1, a1_marksN, .inl (aI a1_marksF)))] (some (.int (iI r))) [(a0, .inr (4, [.ref a0_widths, .ref a0_aboves, .ref a0_belows, .int (iI a0_row), .int (iI a0_column), .int (iI a0_height)])), (a0_aboves, .inl (cs.1, 181, .inl (aI a0_abovesF))), (a0_belows, .inl (cs.1, 181, .inl (aI a0_belowsF))), (a1, .inr (a1_ci, .ref a1_marks :: .int (iI a1_size) :: a1_fx)), (a1_marks, .inl (cs.1, a1_marksN, .inl (aI a1_marksF)))] := by
  refine q_start_i [(0, .ref a0), (1, .ref a1), (2, .int (iI x2))] RX4 rfl (by decide +kernel) rfl (Nat.le_of_ble_eq_true rfl) rfl (fun κ ok fin => ?_)
  unfold f_X4_itemAbove at h
  refine j_iload_n (pc := 0) 2 ok dX4_itemAbove_0 rfl rfl ?_
  refine j_iconst (pc := 1) ok dX4_itemAbove_1 ?_
  refine j_iadd (pc := 2) ok dX4_itemAbove_2 ?_
  refine j_istore_n (pc := 3) (lv' := [(3, .int (iI (x2 + 1))), (0, .ref a0), (1, .ref a1), (2, .int (iI x2))]) ok dX4_itemAbove_3 rfl (by decide) rfl ?_
  refine j_aload_n (pc := 4) 2 ok dX4_itemAbove_4 rfl rfl ?_
  refine j_iload_n (pc := 5) 3 ok dX4_itemAbove_5 rfl rfl ?_
  obtain ⟨r1, hr1, h⟩ := bd_inv h
  refine j_callM (pc := 6) ok ha1 (k_X3_mark (a0 := a1) (a0_marks := a1_marks) (a0_ci := a1_ci) (a0_fx := a1_fx) (a0_marksN := a1_marksN) (a0_size := a1_size) (a0_marksF := a1_marksF) (x1 := x2) ha1 hr1) gU_X4_34 rfl hd_X3_mark gV_X4_34 ⟨rfl, hd_X3_mark⟩ [3, 4] (by decide) rfl rfl 3 rfl rfl rfl ⟨Nat.zero_le _, Nat.zero_le _⟩ (Nat.le_of_ble_eq_true rfl) dX4_itemAbove_6 rfl [(a0, .inr (4, [.ref a0_widths, .ref a0_aboves, .ref a0_belows, .int (iI a0_row), .int (iI a0_column), .int (iI a0_height)])), (a0_aboves, .inl (cs.1, 181, .inl (aI a0_abovesF))), (a0_belows, .inl (cs.1, 181, .inl (aI a0_belowsF))), (a1, .inr (a1_ci, .ref a1_marks :: .int (iI a1_size) :: a1_fx)), (a1_marks, .inl (cs.1, a1_marksN, .inl (aI a1_marksF)))] rfl ?_
  refine jn_use (P := fun z7 => q_J D κ 4 0 0 [(a0, .inr (4, [.ref a0_widths, .ref a0_aboves, .ref a0_belows, .int (iI a0_row), .int (iI a0_column), .int (iI a0_height)])), (a0_aboves, .inl (cs.1, 181, .inl (aI a0_abovesF))), (a0_belows, .inl (cs.1, 181, .inl (aI a0_belowsF))), (a1, .inr (a1_ci, .ref a1_marks :: .int (iI a1_size) :: a1_fx)), (a1_marks, .inl (cs.1, a1_marksN, .inl (aI a1_marksF)))] [(0, .ref a0), (3, .int (iI (x2 + 1)))] 44 []) h (fun z7 h => ?_) (fun k3 hk3 h => ?_)
  · refine j_aload_n (pc := 44) 0 ok dX4_itemAbove_44 rfl rfl ?_
    refine j_iload_n (pc := 45) 1 ok dX4_itemAbove_45 rfl rfl ?_
    obtain ⟨r8, hr8, h⟩ := bd_inv h
    refine j_callV (pc := 46) ok (k_X4_lines (a0 := a0) (a0_widths := a0_widths) (a0_aboves := a0_aboves) (a0_belows := a0_belows) (a0_row := a0_row) (a0_column := a0_column) (a0_height := a0_height) (a0_abovesF := a0_abovesF) (a0_belowsF := a0_belowsF) (x1 := x2 + 1) hr8) gV_X4_73 ⟨rfl, hd_X4_lines⟩ [0, 1, 2] (by decide) rfl rfl 0 rfl rfl rfl rfl ⟨Nat.zero_le _, Nat.zero_le _⟩ (Nat.le_of_ble_eq_true rfl) dX4_itemAbove_46 rfl [(a0, .inr (4, [.ref a0_widths, .ref a0_aboves, .ref a0_belows, .int (iI a0_row), .int (iI a0_column), .int (iI a0_height)])), (a0_aboves, .inl (cs.1, 181, .inl (aI a0_abovesF))), (a0_belows, .inl (cs.1, 181, .inl (aI a0_belowsF))), (a1, .inr (a1_ci, .ref a1_marks :: .int (iI a1_size) :: a1_fx)), (a1_marks, .inl (cs.1, a1_marksN, .inl (aI a1_marksF)))] rfl ?_
    obtain rfl := Option.some.inj h
    exact fin _ 49 dX4_itemAbove_49
  · refine jn_use (P := fun z6 => q_J D κ 4 0 0 [(a0, .inr (4, [.ref a0_widths, .ref a0_aboves, .ref a0_belows, .int (iI a0_row), .int (iI a0_column), .int (iI a0_height)])), (a0_aboves, .inl (cs.1, 181, .inl (aI a0_abovesF))), (a0_belows, .inl (cs.1, 181, .inl (aI a0_belowsF))), (a1, .inr (a1_ci, .ref a1_marks :: .int (iI a1_size) :: a1_fx)), (a1_marks, .inl (cs.1, a1_marksN, .inl (aI a1_marksF)))] [] 64 []) h (fun z6 h => ?_) (fun k2 hk2 h => ?_)
    · refine j_iconst (pc := 64) ok dX4_itemAbove_64 ?_
      obtain rfl := Option.some.inj h
      exact fin _ 65 dX4_itemAbove_65
    · obtain ⟨hR, h1, h2⟩ := cEq_inv h
      by_cases e9_1 : r1 = 1
      · have h := h1 e9_1
        refine j_tabIn (pc := 9) 1 44 ok dX4_itemAbove_9 hR.1 e9_1 (by decide) rfl (by decide) ?_
        refine j_lv [1, 0] rfl ?_
        exact hk3 () h
      · have h := h2 e9_1
        obtain ⟨hR, h1, h2⟩ := cEq_inv h
        by_cases e9_2 : r1 = 2
        · have h := h1 e9_2
          refine j_tabIn (pc := 9) 2 44 ok dX4_itemAbove_9 hR.1 e9_2 (by decide) rfl (by decide) ?_
          refine j_lv [1, 0] rfl ?_
          exact hk3 () h
        · have h := h2 e9_2
          obtain ⟨hR, h1, h2⟩ := cEq_inv h
          by_cases e9_3 : r1 = 3
          · have h := h1 e9_3
            refine j_tabIn (pc := 9) 3 64 ok dX4_itemAbove_9 hR.1 e9_3 (by decide) rfl (by decide) ?_
            refine j_lv [] rfl ?_
            exact hk2 () h
          · have h := h2 e9_3
            obtain ⟨hR, h1, h2⟩ := cEq_inv h
            by_cases e9_4 : r1 = 4
            · have h := h1 e9_4
              refine j_tabIn (pc := 9) 4 50 ok dX4_itemAbove_9 hR.1 e9_4 (by decide) rfl (by decide) ?_
              refine j_iconst (pc := 50) ok dX4_itemAbove_50 ?_
              refine j_aload_n (pc := 51) 1 ok dX4_itemAbove_51 rfl rfl ?_
              refine j_iload_n (pc := 52) 0 ok dX4_itemAbove_52 rfl rfl ?_
              obtain ⟨r4, hr4, h⟩ := bd_inv h
              refine j_callV (pc := 53) ok (k_X4_above (a0 := a0) (a0_widths := a0_widths) (a0_aboves := a0_aboves) (a0_belows := a0_belows) (a0_row := a0_row) (a0_column := a0_column) (a0_height := a0_height) (a0_abovesF := a0_abovesF) (x1 := x2 + 1) hr4) gV_X4_21 ⟨rfl, hd_X4_above⟩ [0, 1] (by decide) rfl rfl 0 rfl rfl rfl rfl ⟨Nat.zero_le _, Nat.zero_le _⟩ (Nat.le_of_ble_eq_true rfl) dX4_itemAbove_53 rfl [(a0, .inr (4, [.ref a0_widths, .ref a0_aboves, .ref a0_belows, .int (iI a0_row), .int (iI a0_column), .int (iI a0_height)])), (a0_aboves, .inl (cs.1, 181, .inl (aI a0_abovesF))), (a0_belows, .inl (cs.1, 181, .inl (aI a0_belowsF))), (a1, .inr (a1_ci, .ref a1_marks :: .int (iI a1_size) :: a1_fx)), (a1_marks, .inl (cs.1, a1_marksN, .inl (aI a1_marksF)))] rfl ?_
              refine j_iadd (pc := 56) ok dX4_itemAbove_56 ?_
              obtain rfl := Option.some.inj h
              exact fin _ 57 dX4_itemAbove_57
            · have h := h2 e9_4
              obtain ⟨hR, h1, h2⟩ := cEq_inv h
              by_cases e9_5 : r1 = 5
              · have h := h1 e9_5
                refine j_tabIn (pc := 9) 5 58 ok dX4_itemAbove_9 hR.1 e9_5 (by decide) rfl (by decide) ?_
                refine j_aload_n (pc := 58) 1 ok dX4_itemAbove_58 rfl rfl ?_
                refine j_iload_n (pc := 59) 0 ok dX4_itemAbove_59 rfl rfl ?_
                obtain ⟨r5, hr5, h⟩ := bd_inv h
                refine j_callV (pc := 60) ok (k_X4_above (a0 := a0) (a0_widths := a0_widths) (a0_aboves := a0_aboves) (a0_belows := a0_belows) (a0_row := a0_row) (a0_column := a0_column) (a0_height := a0_height) (a0_abovesF := a0_abovesF) (x1 := x2 + 1) hr5) gV_X4_21 ⟨rfl, hd_X4_above⟩ [0, 1] (by decide) rfl rfl 0 rfl rfl rfl rfl ⟨Nat.zero_le _, Nat.zero_le _⟩ (Nat.le_of_ble_eq_true rfl) dX4_itemAbove_60 rfl [(a0, .inr (4, [.ref a0_widths, .ref a0_aboves, .ref a0_belows, .int (iI a0_row), .int (iI a0_column), .int (iI a0_height)])), (a0_aboves, .inl (cs.1, 181, .inl (aI a0_abovesF))), (a0_belows, .inl (cs.1, 181, .inl (aI a0_belowsF))), (a1, .inr (a1_ci, .ref a1_marks :: .int (iI a1_size) :: a1_fx)), (a1_marks, .inl (cs.1, a1_marksN, .inl (aI a1_marksF)))] rfl ?_
                obtain rfl := Option.some.inj h
                exact fin _ 63 dX4_itemAbove_63
              · have h := h2 e9_5
                refine j_tabOut (pc := 9) 64 ok dX4_itemAbove_9 hR.1 (by omega) (by decide) ?_
                refine j_lv [] rfl ?_
                exact hk2 () h
def f_X4_itemBelow (a1_marksN : Nat) (a0_abovesF : (Nat → Int)) (a0_belowsF : (Nat → Int)) (a1_size : Int) (a1_marksF : (Nat → Int)) (x2 : Int) : Option (Int) := bd (f_X3_mark a1_marksN a1_size a1_marksF x2) (fun r1 => jn (fun (z9 : Unit) => some 0) (fun k3 => jn (fun (z7 : Unit) => bd (f_X4_below a0_belowsF (x2 + 1)) (fun r8 => some r8)) (fun k2 => cEq r1 1 (bd (f_X3_secondSlot a1_marksN a1_size a1_marksF x2) (fun r4 => bd (f_X4_lines a0_abovesF a0_belowsF r4) (fun r5 => some r5))) (cEq r1 2 (k3 ()) (cEq r1 3 (bd (f_X4_lines a0_abovesF a0_belowsF (x2 + 1)) (fun r6 => some r6)) (cEq r1 4 (k2 ()) (cEq r1 5 (k2 ()) (k3 ()))))))))
set_option maxRecDepth 100000 in
set_option maxHeartbeats 4000000 in
theorem k_X4_itemBelow {D : va_G} {cs : q_CS} {a0 a0_widths a0_aboves a0_belows a1 a1_marks : Nat} {a1_marksN : Nat} {a1_ci : Nat} {a1_fx : List Value} {a0_row a0_column a0_height a1_size : Int} {a0_abovesF a0_belowsF a1_marksF : (Nat → Int)} {x2 : Int} {r : (Int)} (ha1 : q_mk a1_ci a1_fx) (h : f_X4_itemBelow a1_marksN a0_abovesF a0_belowsF a1_size a1_marksF x2 = some r) : q_M D cs yX4_itemBelow cX4_itemBelow 4 (some .int) 2 45 [.ref a0, .ref a1, .int (iI x2)] [(a0, .inr (4, [.ref a0_widths, .ref a0_aboves, .ref a0_belows, .int (iI a0_row), .int (iI a0_column), .int (iI a0_height)])), (a0_aboves, .inl (cs.1, 181, .inl (aI a0_abovesF))), (a0_belows, .inl (cs.1, 181, .inl (aI a0_belowsF))), (a1, .inr (a1_ci, .ref a1_marks :: .int (iI a1_size) :: a1_fx)), (a1_marks, .inl (cs.1, a1_marksN, .inl (aI a1_marksF)))] (some (.int (iI r))) [(a0, .inr (4, [.ref a0_widths, .ref a0_aboves, .ref a0_belows, .int (iI a0_row), .int (iI a0_column), .int (iI a0_height)])), (a0_aboves, .inl (cs.1, 181, .inl (aI a0_abovesF))), (a0_belows, .inl (cs.1, 181, .inl (aI a0_belowsF))), (a1, .inr (a1_ci, .ref a1_marks :: .int (iI a1_size) :: a1_fx)), (a1_marks, .inl (cs.1, a1_marksN, .inl (aI a1_marksF)))] := by
  refine q_start_i [(0, .ref a0), (1, .ref a1), (2, .int (iI x2))] RX4 rfl (by decide +kernel) rfl (Nat.le_of_ble_eq_true rfl) rfl (fun κ ok fin => ?_)
  unfold f_X4_itemBelow at h
  refine j_iload_n (pc := 0) 2 ok dX4_itemBelow_0 rfl rfl ?_
  refine j_iconst (pc := 1) ok dX4_itemBelow_1 ?_
  refine j_iadd (pc := 2) ok dX4_itemBelow_2 ?_
  refine j_istore_n (pc := 3) (lv' := [(3, .int (iI (x2 + 1))), (0, .ref a0), (1, .ref a1), (2, .int (iI x2))]) ok dX4_itemBelow_3 rfl (by decide) rfl ?_
  refine j_aload_n (pc := 4) 2 ok dX4_itemBelow_4 rfl rfl ?_
  refine j_iload_n (pc := 5) 3 ok dX4_itemBelow_5 rfl rfl ?_
  obtain ⟨r1, hr1, h⟩ := bd_inv h
  refine j_callM (pc := 6) ok ha1 (k_X3_mark (a0 := a1) (a0_marks := a1_marks) (a0_ci := a1_ci) (a0_fx := a1_fx) (a0_marksN := a1_marksN) (a0_size := a1_size) (a0_marksF := a1_marksF) (x1 := x2) ha1 hr1) gU_X4_34 rfl hd_X3_mark gV_X4_34 ⟨rfl, hd_X3_mark⟩ [3, 4] (by decide) rfl rfl 3 rfl rfl rfl ⟨Nat.zero_le _, Nat.zero_le _⟩ (Nat.le_of_ble_eq_true rfl) dX4_itemBelow_6 rfl [(a0, .inr (4, [.ref a0_widths, .ref a0_aboves, .ref a0_belows, .int (iI a0_row), .int (iI a0_column), .int (iI a0_height)])), (a0_aboves, .inl (cs.1, 181, .inl (aI a0_abovesF))), (a0_belows, .inl (cs.1, 181, .inl (aI a0_belowsF))), (a1, .inr (a1_ci, .ref a1_marks :: .int (iI a1_size) :: a1_fx)), (a1_marks, .inl (cs.1, a1_marksN, .inl (aI a1_marksF)))] rfl ?_
  refine jn_use (P := fun z9 => q_J D κ 4 0 0 [(a0, .inr (4, [.ref a0_widths, .ref a0_aboves, .ref a0_belows, .int (iI a0_row), .int (iI a0_column), .int (iI a0_height)])), (a0_aboves, .inl (cs.1, 181, .inl (aI a0_abovesF))), (a0_belows, .inl (cs.1, 181, .inl (aI a0_belowsF))), (a1, .inr (a1_ci, .ref a1_marks :: .int (iI a1_size) :: a1_fx)), (a1_marks, .inl (cs.1, a1_marksN, .inl (aI a1_marksF)))] [] 66 []) h (fun z9 h => ?_) (fun k3 hk3 h => ?_)
  · refine j_iconst (pc := 66) ok dX4_itemBelow_66 ?_
    obtain rfl := Option.some.inj h
    exact fin _ 67 dX4_itemBelow_67
  · refine jn_use (P := fun z7 => q_J D κ 4 0 0 [(a0, .inr (4, [.ref a0_widths, .ref a0_aboves, .ref a0_belows, .int (iI a0_row), .int (iI a0_column), .int (iI a0_height)])), (a0_aboves, .inl (cs.1, 181, .inl (aI a0_abovesF))), (a0_belows, .inl (cs.1, 181, .inl (aI a0_belowsF))), (a1, .inr (a1_ci, .ref a1_marks :: .int (iI a1_size) :: a1_fx)), (a1_marks, .inl (cs.1, a1_marksN, .inl (aI a1_marksF)))] [(0, .ref a0), (3, .int (iI (x2 + 1)))] 60 []) h (fun z7 h => ?_) (fun k2 hk2 h => ?_)
    · refine j_aload_n (pc := 60) 0 ok dX4_itemBelow_60 rfl rfl ?_
      refine j_iload_n (pc := 61) 1 ok dX4_itemBelow_61 rfl rfl ?_
      obtain ⟨r8, hr8, h⟩ := bd_inv h
      refine j_callV (pc := 62) ok (k_X4_below (a0 := a0) (a0_widths := a0_widths) (a0_aboves := a0_aboves) (a0_belows := a0_belows) (a0_row := a0_row) (a0_column := a0_column) (a0_height := a0_height) (a0_belowsF := a0_belowsF) (x1 := x2 + 1) hr8) gV_X4_25 ⟨rfl, hd_X4_below⟩ [0, 2] (by decide) rfl rfl 0 rfl rfl rfl rfl ⟨Nat.zero_le _, Nat.zero_le _⟩ (Nat.le_of_ble_eq_true rfl) dX4_itemBelow_62 rfl [(a0, .inr (4, [.ref a0_widths, .ref a0_aboves, .ref a0_belows, .int (iI a0_row), .int (iI a0_column), .int (iI a0_height)])), (a0_aboves, .inl (cs.1, 181, .inl (aI a0_abovesF))), (a0_belows, .inl (cs.1, 181, .inl (aI a0_belowsF))), (a1, .inr (a1_ci, .ref a1_marks :: .int (iI a1_size) :: a1_fx)), (a1_marks, .inl (cs.1, a1_marksN, .inl (aI a1_marksF)))] rfl ?_
      obtain rfl := Option.some.inj h
      exact fin _ 65 dX4_itemBelow_65
    · obtain ⟨hR, h1, h2⟩ := cEq_inv h
      by_cases e9_1 : r1 = 1
      · have h := h1 e9_1
        refine j_tabIn (pc := 9) 1 44 ok dX4_itemBelow_9 hR.1 e9_1 (by decide) rfl (by decide) ?_
        refine j_aload_n (pc := 44) 1 ok dX4_itemBelow_44 rfl rfl ?_
        refine j_aload_n (pc := 45) 2 ok dX4_itemBelow_45 rfl rfl ?_
        refine j_iload_n (pc := 46) 3 ok dX4_itemBelow_46 rfl rfl ?_
        obtain ⟨r4, hr4, h⟩ := bd_inv h
        refine j_callM (pc := 47) ok ha1 (k_X3_secondSlot (a0 := a1) (a0_marks := a1_marks) (a0_ci := a1_ci) (a0_fx := a1_fx) (a0_marksN := a1_marksN) (a0_size := a1_size) (a0_marksF := a1_marksF) (x1 := x2) ha1 hr4) gU_X4_70 rfl hd_X3_secondSlot gV_X4_70 ⟨rfl, hd_X3_secondSlot⟩ [3, 4] (by decide) rfl rfl 3 rfl rfl rfl ⟨Nat.zero_le _, Nat.zero_le _⟩ (Nat.le_of_ble_eq_true rfl) dX4_itemBelow_47 rfl [(a0, .inr (4, [.ref a0_widths, .ref a0_aboves, .ref a0_belows, .int (iI a0_row), .int (iI a0_column), .int (iI a0_height)])), (a0_aboves, .inl (cs.1, 181, .inl (aI a0_abovesF))), (a0_belows, .inl (cs.1, 181, .inl (aI a0_belowsF))), (a1, .inr (a1_ci, .ref a1_marks :: .int (iI a1_size) :: a1_fx)), (a1_marks, .inl (cs.1, a1_marksN, .inl (aI a1_marksF)))] rfl ?_
        obtain ⟨r5, hr5, h⟩ := bd_inv h
        refine j_callV (pc := 50) ok (k_X4_lines (a0 := a0) (a0_widths := a0_widths) (a0_aboves := a0_aboves) (a0_belows := a0_belows) (a0_row := a0_row) (a0_column := a0_column) (a0_height := a0_height) (a0_abovesF := a0_abovesF) (a0_belowsF := a0_belowsF) (x1 := r4) hr5) gV_X4_73 ⟨rfl, hd_X4_lines⟩ [0, 1, 2] (by decide) rfl rfl 0 rfl rfl rfl rfl ⟨Nat.zero_le _, Nat.zero_le _⟩ (Nat.le_of_ble_eq_true rfl) dX4_itemBelow_50 rfl [(a0, .inr (4, [.ref a0_widths, .ref a0_aboves, .ref a0_belows, .int (iI a0_row), .int (iI a0_column), .int (iI a0_height)])), (a0_aboves, .inl (cs.1, 181, .inl (aI a0_abovesF))), (a0_belows, .inl (cs.1, 181, .inl (aI a0_belowsF))), (a1, .inr (a1_ci, .ref a1_marks :: .int (iI a1_size) :: a1_fx)), (a1_marks, .inl (cs.1, a1_marksN, .inl (aI a1_marksF)))] rfl ?_
        obtain rfl := Option.some.inj h
        exact fin _ 53 dX4_itemBelow_53
      · have h := h2 e9_1
        obtain ⟨hR, h1, h2⟩ := cEq_inv h
        by_cases e9_2 : r1 = 2
        · have h := h1 e9_2
          refine j_tabIn (pc := 9) 2 66 ok dX4_itemBelow_9 hR.1 e9_2 (by decide) rfl (by decide) ?_
          refine j_lv [] rfl ?_
          exact hk3 () h
        · have h := h2 e9_2
          obtain ⟨hR, h1, h2⟩ := cEq_inv h
          by_cases e9_3 : r1 = 3
          · have h := h1 e9_3
            refine j_tabIn (pc := 9) 3 54 ok dX4_itemBelow_9 hR.1 e9_3 (by decide) rfl (by decide) ?_
            refine j_aload_n (pc := 54) 1 ok dX4_itemBelow_54 rfl rfl ?_
            refine j_iload_n (pc := 55) 0 ok dX4_itemBelow_55 rfl rfl ?_
            obtain ⟨r6, hr6, h⟩ := bd_inv h
            refine j_callV (pc := 56) ok (k_X4_lines (a0 := a0) (a0_widths := a0_widths) (a0_aboves := a0_aboves) (a0_belows := a0_belows) (a0_row := a0_row) (a0_column := a0_column) (a0_height := a0_height) (a0_abovesF := a0_abovesF) (a0_belowsF := a0_belowsF) (x1 := x2 + 1) hr6) gV_X4_73 ⟨rfl, hd_X4_lines⟩ [0, 1, 2] (by decide) rfl rfl 0 rfl rfl rfl rfl ⟨Nat.zero_le _, Nat.zero_le _⟩ (Nat.le_of_ble_eq_true rfl) dX4_itemBelow_56 rfl [(a0, .inr (4, [.ref a0_widths, .ref a0_aboves, .ref a0_belows, .int (iI a0_row), .int (iI a0_column), .int (iI a0_height)])), (a0_aboves, .inl (cs.1, 181, .inl (aI a0_abovesF))), (a0_belows, .inl (cs.1, 181, .inl (aI a0_belowsF))), (a1, .inr (a1_ci, .ref a1_marks :: .int (iI a1_size) :: a1_fx)), (a1_marks, .inl (cs.1, a1_marksN, .inl (aI a1_marksF)))] rfl ?_
            obtain rfl := Option.some.inj h
            exact fin _ 59 dX4_itemBelow_59
          · have h := h2 e9_3
            obtain ⟨hR, h1, h2⟩ := cEq_inv h
            by_cases e9_4 : r1 = 4
            · have h := h1 e9_4
              refine j_tabIn (pc := 9) 4 60 ok dX4_itemBelow_9 hR.1 e9_4 (by decide) rfl (by decide) ?_
              refine j_lv [1, 0] rfl ?_
              exact hk2 () h
            · have h := h2 e9_4
              obtain ⟨hR, h1, h2⟩ := cEq_inv h
              by_cases e9_5 : r1 = 5
              · have h := h1 e9_5
                refine j_tabIn (pc := 9) 5 60 ok dX4_itemBelow_9 hR.1 e9_5 (by decide) rfl (by decide) ?_
                refine j_lv [1, 0] rfl ?_
                exact hk2 () h
              · have h := h2 e9_5
                refine j_tabOut (pc := 9) 66 ok dX4_itemBelow_9 hR.1 (by omega) (by decide) ?_
                refine j_lv [] rfl ?_
                exact hk3 () h
def f_X4_measureRow_40 (a1_marksN : Nat) (a1_size : Int) (a1_marksF : (Nat → Int)) (y2 : Int) (e40_113 : (Nat → Int) × (Nat → Int) × (Nat → Int) × Int × Int × Int × Int × Int → Option ((Nat → Int) × (Nat → Int) × (Nat → Int))) : Nat → (Nat → Int) → (Nat → Int) → (Nat → Int) → Int → Int → Int → Int → Int → Option ((Nat → Int) × (Nat → Int) × (Nat → Int))
  | 0, _, _, _, _, _, _, _, _ => none
  | n + 1, a0_abovesF, a0_belowsF, a0_widthsF, y4, y5, y6, y7, y8 => cLt y8 60 (bd (f_X3_mark a1_marksN a1_size a1_marksF y7) (fun r7 => bd (f_X7_startsItem r7) (fun r8 => cEq r8 0 (e40_113 (a0_abovesF, a0_belowsF, a0_widthsF, y4, y5, y6, y7, y8)) (bd (f_X4_itemWidth a1_marksN a0_widthsF a1_size a1_marksF y7) (fun r9 => bd (f_X4_itemAbove a1_marksN a0_abovesF a0_belowsF a1_size a1_marksF y7) (fun r10 => gR y5 (gR r10 (bd (f_X4_itemBelow a1_marksN a0_abovesF a0_belowsF a1_size a1_marksF y7) (fun r11 => gR y6 (gR r11 (bd (f_X3_itemEnd a1_marksN a1_size a1_marksF y7) (fun r12 => f_X4_measureRow_40 a1_marksN a1_size a1_marksF y2 e40_113 n a0_abovesF a0_belowsF a0_widthsF (y4 + r9) (mxI y5 r10) (mxI y6 r11) r12 (y8 + 1))))))))))))) (e40_113 (a0_abovesF, a0_belowsF, a0_widthsF, y4, y5, y6, y7, y8))
set_option maxRecDepth 100000 in
theorem l_X4_measureRow_40 {D : va_G} {cs : q_CS} {κ : q_X} {a0 a0_widths a0_aboves a0_belows a1 a1_marks : Nat} {a1_marksN : Nat} {a1_ci : Nat} {a1_fx : List Value} {a0_row a0_column a0_height a1_size : Int} {a1_marksF : (Nat → Int)} {y2 : Int} {r : ((Nat → Int) × (Nat → Int) × (Nat → Int))} {e40_113 : (Nat → Int) × (Nat → Int) × (Nat → Int) × Int × Int × Int × Int × Int → Option ((Nat → Int) × (Nat → Int) × (Nat → Int))} (ha1 : q_mk a1_ci a1_fx) (ok : q_ok D cs κ cX4_measureRow 9 RX4 (q_rm 3 68)) (fin : ∀ (lv : List (Nat × Value)) (pc : Nat), decode cX4_measureRow pc = .ok (.return_, 1) → q_J D κ 9 0 0 [(a0, .inr (4, [.ref a0_widths, .ref a0_aboves, .ref a0_belows, .int (iI a0_row), .int (iI a0_column), .int (iI a0_height)])), (a0_aboves, .inl (cs.1, 181, .inl (aI r.1))), (a0_belows, .inl (cs.1, 181, .inl (aI r.2.1))), (a0_widths, .inl (cs.1, 181, .inl (aI r.2.2))), (a1, .inr (a1_ci, .ref a1_marks :: .int (iI a1_size) :: a1_fx)), (a1_marks, .inl (cs.1, a1_marksN, .inl (aI a1_marksF)))] lv pc []) (he40_113 : ∀ x : (Nat → Int) × (Nat → Int) × (Nat → Int) × Int × Int × Int × Int × Int, e40_113 x = some r → q_J D κ 9 0 0 [(a0, .inr (4, [.ref a0_widths, .ref a0_aboves, .ref a0_belows, .int (iI a0_row), .int (iI a0_column), .int (iI a0_height)])), (a0_aboves, .inl (cs.1, 181, .inl (aI x.1))), (a0_belows, .inl (cs.1, 181, .inl (aI x.2.1))), (a0_widths, .inl (cs.1, 181, .inl (aI x.2.2.1))), (a1, .inr (a1_ci, .ref a1_marks :: .int (iI a1_size) :: a1_fx)), (a1_marks, .inl (cs.1, a1_marksN, .inl (aI a1_marksF)))] [(0, .ref a0), (2, .int (iI y2)), (4, .int (iI x.2.2.2.1)), (5, .int (iI x.2.2.2.2.1)), (6, .int (iI x.2.2.2.2.2.1))] 113 []) : ∀ (n : Nat) (a0_abovesF : (Nat → Int)) (a0_belowsF : (Nat → Int)) (a0_widthsF : (Nat → Int)) (y4 : Int) (y5 : Int) (y6 : Int) (y7 : Int) (y8 : Int), f_X4_measureRow_40 a1_marksN a1_size a1_marksF y2 e40_113 n a0_abovesF a0_belowsF a0_widthsF y4 y5 y6 y7 y8 = some r → q_J D κ 9 0 0 [(a0, .inr (4, [.ref a0_widths, .ref a0_aboves, .ref a0_belows, .int (iI a0_row), .int (iI a0_column), .int (iI a0_height)])), (a0_aboves, .inl (cs.1, 181, .inl (aI a0_abovesF))), (a0_belows, .inl (cs.1, 181, .inl (aI a0_belowsF))), (a0_widths, .inl (cs.1, 181, .inl (aI a0_widthsF))), (a1, .inr (a1_ci, .ref a1_marks :: .int (iI a1_size) :: a1_fx)), (a1_marks, .inl (cs.1, a1_marksN, .inl (aI a1_marksF)))] [(0, .ref a0), (1, .ref a1), (2, .int (iI y2)), (4, .int (iI y4)), (5, .int (iI y5)), (6, .int (iI y6)), (7, .int (iI y7)), (8, .int (iI y8))] 40 [] := by
  intro n
  induction n with
  | zero =>
    intro a0_abovesF a0_belowsF a0_widthsF y4 y5 y6 y7 y8 h
    exact absurd h (by unfold f_X4_measureRow_40; exact fun z => by cases z)
  | succ n ih =>
    intro a0_abovesF a0_belowsF a0_widthsF y4 y5 y6 y7 y8 h
    unfold f_X4_measureRow_40 at h
    refine j_iload (pc := 40) 7 ok dX4_measureRow_40 rfl ?_
    refine j_bipush (pc := 42) ok dX4_measureRow_42 (by decide) ?_
    refine j_icmp_ge (pc := 44) 113 ok dX4_measureRow_44 (by decide) h (fun h => ?_) (fun h => ?_)
    · refine j_lv [0, 2, 3, 4, 5] rfl ?_
      exact he40_113 (a0_abovesF, a0_belowsF, a0_widthsF, y4, y5, y6, y7, y8) h
    · refine j_aload_n (pc := 47) 1 ok dX4_measureRow_47 rfl rfl ?_
      refine j_iload (pc := 48) 6 ok dX4_measureRow_48 rfl ?_
      obtain ⟨r7, hr7, h⟩ := bd_inv h
      refine j_callM (pc := 50) ok ha1 (k_X3_mark (a0 := a1) (a0_marks := a1_marks) (a0_ci := a1_ci) (a0_fx := a1_fx) (a0_marksN := a1_marksN) (a0_size := a1_size) (a0_marksF := a1_marksF) (x1 := y7) ha1 hr7) gU_X4_34 rfl hd_X3_mark gV_X4_34 ⟨rfl, hd_X3_mark⟩ [4, 5] (by decide) rfl rfl 4 rfl rfl rfl ⟨Nat.zero_le _, Nat.zero_le _⟩ (Nat.le_of_ble_eq_true rfl) dX4_measureRow_50 rfl [(a0, .inr (4, [.ref a0_widths, .ref a0_aboves, .ref a0_belows, .int (iI a0_row), .int (iI a0_column), .int (iI a0_height)])), (a0_aboves, .inl (cs.1, 181, .inl (aI a0_abovesF))), (a0_belows, .inl (cs.1, 181, .inl (aI a0_belowsF))), (a0_widths, .inl (cs.1, 181, .inl (aI a0_widthsF))), (a1, .inr (a1_ci, .ref a1_marks :: .int (iI a1_size) :: a1_fx)), (a1_marks, .inl (cs.1, a1_marksN, .inl (aI a1_marksF)))] rfl ?_
      obtain ⟨r8, hr8, h⟩ := bd_inv h
      refine j_callN (pc := 53) ok (k_X7_startsItem (x0 := r7) hr8) gN_X4_45 gNw_X4_45 gNi_X4_45 gNs_X4_45 hd_X7_startsItem [] (by decide) rfl rfl rfl rfl ⟨Nat.zero_le _, Nat.zero_le _⟩ (Nat.le_of_ble_eq_true rfl) dX4_measureRow_53 rfl [(a0, .inr (4, [.ref a0_widths, .ref a0_aboves, .ref a0_belows, .int (iI a0_row), .int (iI a0_column), .int (iI a0_height)])), (a0_aboves, .inl (cs.1, 181, .inl (aI a0_abovesF))), (a0_belows, .inl (cs.1, 181, .inl (aI a0_belowsF))), (a0_widths, .inl (cs.1, 181, .inl (aI a0_widthsF))), (a1, .inr (a1_ci, .ref a1_marks :: .int (iI a1_size) :: a1_fx)), (a1_marks, .inl (cs.1, a1_marksN, .inl (aI a1_marksF)))] rfl ?_
      refine j_if_eq (pc := 56) 113 ok dX4_measureRow_56 (by decide) h (fun h => ?_) (fun h => ?_)
      · refine j_lv [0, 2, 3, 4, 5] rfl ?_
        exact he40_113 (a0_abovesF, a0_belowsF, a0_widthsF, y4, y5, y6, y7, y8) h
      · refine j_iload (pc := 59) 3 ok dX4_measureRow_59 rfl ?_
        refine j_aload_n (pc := 61) 0 ok dX4_measureRow_61 rfl rfl ?_
        refine j_aload_n (pc := 62) 1 ok dX4_measureRow_62 rfl rfl ?_
        refine j_iload (pc := 63) 6 ok dX4_measureRow_63 rfl ?_
        obtain ⟨r9, hr9, h⟩ := bd_inv h
        refine j_callV (pc := 65) ok (k_X4_itemWidth (a0 := a0) (a0_widths := a0_widths) (a0_aboves := a0_aboves) (a0_belows := a0_belows) (a1 := a1) (a1_marks := a1_marks) (a1_ci := a1_ci) (a1_fx := a1_fx) (a1_marksN := a1_marksN) (a0_row := a0_row) (a0_column := a0_column) (a0_height := a0_height) (a0_widthsF := a0_widthsF) (a1_size := a1_size) (a1_marksF := a1_marksF) (x2 := y7) ha1 hr9) gV_X4_48 ⟨rfl, hd_X4_itemWidth⟩ [0, 3, 4, 5] (by decide) rfl rfl 0 rfl rfl rfl rfl ⟨Nat.zero_le _, Nat.zero_le _⟩ (Nat.le_of_ble_eq_true rfl) dX4_measureRow_65 rfl [(a0, .inr (4, [.ref a0_widths, .ref a0_aboves, .ref a0_belows, .int (iI a0_row), .int (iI a0_column), .int (iI a0_height)])), (a0_aboves, .inl (cs.1, 181, .inl (aI a0_abovesF))), (a0_belows, .inl (cs.1, 181, .inl (aI a0_belowsF))), (a0_widths, .inl (cs.1, 181, .inl (aI a0_widthsF))), (a1, .inr (a1_ci, .ref a1_marks :: .int (iI a1_size) :: a1_fx)), (a1_marks, .inl (cs.1, a1_marksN, .inl (aI a1_marksF)))] rfl ?_
        refine j_iadd (pc := 68) ok dX4_measureRow_68 ?_
        refine j_istore (pc := 69) (lv' := [(4, .int (iI (y4 + r9))), (0, .ref a0), (1, .ref a1), (2, .int (iI y2)), (5, .int (iI y5)), (6, .int (iI y6)), (7, .int (iI y7)), (8, .int (iI y8))]) ok dX4_measureRow_69 (by decide) rfl ?_
        refine j_iload (pc := 71) 4 ok dX4_measureRow_71 rfl ?_
        refine j_aload_n (pc := 73) 1 ok dX4_measureRow_73 rfl rfl ?_
        refine j_aload_n (pc := 74) 2 ok dX4_measureRow_74 rfl rfl ?_
        refine j_iload (pc := 75) 6 ok dX4_measureRow_75 rfl ?_
        obtain ⟨r10, hr10, h⟩ := bd_inv h
        refine j_callV (pc := 77) ok (k_X4_itemAbove (a0 := a0) (a0_widths := a0_widths) (a0_aboves := a0_aboves) (a0_belows := a0_belows) (a1 := a1) (a1_marks := a1_marks) (a1_ci := a1_ci) (a1_fx := a1_fx) (a1_marksN := a1_marksN) (a0_row := a0_row) (a0_column := a0_column) (a0_height := a0_height) (a0_abovesF := a0_abovesF) (a0_belowsF := a0_belowsF) (a1_size := a1_size) (a1_marksF := a1_marksF) (x2 := y7) ha1 hr10) gV_X4_52 ⟨rfl, hd_X4_itemAbove⟩ [0, 1, 2, 4, 5] (by decide) rfl rfl 0 rfl rfl rfl rfl ⟨Nat.zero_le _, Nat.zero_le _⟩ (Nat.le_of_ble_eq_true rfl) dX4_measureRow_77 rfl [(a0, .inr (4, [.ref a0_widths, .ref a0_aboves, .ref a0_belows, .int (iI a0_row), .int (iI a0_column), .int (iI a0_height)])), (a0_aboves, .inl (cs.1, 181, .inl (aI a0_abovesF))), (a0_belows, .inl (cs.1, 181, .inl (aI a0_belowsF))), (a0_widths, .inl (cs.1, 181, .inl (aI a0_widthsF))), (a1, .inr (a1_ci, .ref a1_marks :: .int (iI a1_size) :: a1_fx)), (a1_marks, .inl (cs.1, a1_marksN, .inl (aI a1_marksF)))] rfl ?_
        refine j_maxw (pc := 80) ok (q_in 706 (by decide +kernel) (by decide +kernel)) (q_in 80 (by decide +kernel) (by decide +kernel)) (q_in 49 (by decide +kernel) (by decide +kernel)) (q_in 81 (by decide +kernel) (by decide +kernel)) (by decide) (Nat.le_of_ble_eq_true rfl) (Nat.zero_le _) (Nat.zero_le _) dX4_measureRow_80 h (fun h => ?_)
        refine j_istore (pc := 83) (lv' := [(5, .int (iI (mxI y5 r10))), (4, .int (iI (y4 + r9))), (0, .ref a0), (1, .ref a1), (2, .int (iI y2)), (6, .int (iI y6)), (7, .int (iI y7)), (8, .int (iI y8))]) ok dX4_measureRow_83 (by decide) rfl ?_
        refine j_iload (pc := 85) 5 ok dX4_measureRow_85 rfl ?_
        refine j_aload_n (pc := 87) 2 ok dX4_measureRow_87 rfl rfl ?_
        refine j_aload_n (pc := 88) 3 ok dX4_measureRow_88 rfl rfl ?_
        refine j_iload (pc := 89) 6 ok dX4_measureRow_89 rfl ?_
        obtain ⟨r11, hr11, h⟩ := bd_inv h
        refine j_callV (pc := 91) ok (k_X4_itemBelow (a0 := a0) (a0_widths := a0_widths) (a0_aboves := a0_aboves) (a0_belows := a0_belows) (a1 := a1) (a1_marks := a1_marks) (a1_ci := a1_ci) (a1_fx := a1_fx) (a1_marksN := a1_marksN) (a0_row := a0_row) (a0_column := a0_column) (a0_height := a0_height) (a0_abovesF := a0_abovesF) (a0_belowsF := a0_belowsF) (a1_size := a1_size) (a1_marksF := a1_marksF) (x2 := y7) ha1 hr11) gV_X4_61 ⟨rfl, hd_X4_itemBelow⟩ [0, 1, 2, 4, 5] (by decide) rfl rfl 0 rfl rfl rfl rfl ⟨Nat.zero_le _, Nat.zero_le _⟩ (Nat.le_of_ble_eq_true rfl) dX4_measureRow_91 rfl [(a0, .inr (4, [.ref a0_widths, .ref a0_aboves, .ref a0_belows, .int (iI a0_row), .int (iI a0_column), .int (iI a0_height)])), (a0_aboves, .inl (cs.1, 181, .inl (aI a0_abovesF))), (a0_belows, .inl (cs.1, 181, .inl (aI a0_belowsF))), (a0_widths, .inl (cs.1, 181, .inl (aI a0_widthsF))), (a1, .inr (a1_ci, .ref a1_marks :: .int (iI a1_size) :: a1_fx)), (a1_marks, .inl (cs.1, a1_marksN, .inl (aI a1_marksF)))] rfl ?_
        refine j_maxw (pc := 94) ok (q_in 706 (by decide +kernel) (by decide +kernel)) (q_in 80 (by decide +kernel) (by decide +kernel)) (q_in 49 (by decide +kernel) (by decide +kernel)) (q_in 81 (by decide +kernel) (by decide +kernel)) (by decide) (Nat.le_of_ble_eq_true rfl) (Nat.zero_le _) (Nat.zero_le _) dX4_measureRow_94 h (fun h => ?_)
        refine j_istore (pc := 97) (lv' := [(6, .int (iI (mxI y6 r11))), (5, .int (iI (mxI y5 r10))), (4, .int (iI (y4 + r9))), (0, .ref a0), (1, .ref a1), (2, .int (iI y2)), (7, .int (iI y7)), (8, .int (iI y8))]) ok dX4_measureRow_97 (by decide) rfl ?_
        refine j_aload_n (pc := 99) 4 ok dX4_measureRow_99 rfl rfl ?_
        refine j_iload (pc := 100) 6 ok dX4_measureRow_100 rfl ?_
        obtain ⟨r12, hr12, h⟩ := bd_inv h
        refine j_callM (pc := 102) ok ha1 (k_X3_itemEnd (a0 := a1) (a0_marks := a1_marks) (a0_ci := a1_ci) (a0_fx := a1_fx) (a0_marksN := a1_marksN) (a0_size := a1_size) (a0_marksF := a1_marksF) (x1 := y7) ha1 hr12) gU_X4_64 rfl hd_X3_itemEnd gV_X4_64 ⟨rfl, hd_X3_itemEnd⟩ [4, 5] (by decide) rfl rfl 4 rfl rfl rfl ⟨Nat.zero_le _, Nat.zero_le _⟩ (Nat.le_of_ble_eq_true rfl) dX4_measureRow_102 rfl [(a0, .inr (4, [.ref a0_widths, .ref a0_aboves, .ref a0_belows, .int (iI a0_row), .int (iI a0_column), .int (iI a0_height)])), (a0_aboves, .inl (cs.1, 181, .inl (aI a0_abovesF))), (a0_belows, .inl (cs.1, 181, .inl (aI a0_belowsF))), (a0_widths, .inl (cs.1, 181, .inl (aI a0_widthsF))), (a1, .inr (a1_ci, .ref a1_marks :: .int (iI a1_size) :: a1_fx)), (a1_marks, .inl (cs.1, a1_marksN, .inl (aI a1_marksF)))] rfl ?_
        refine j_istore (pc := 105) (lv' := [(7, .int (iI r12)), (6, .int (iI (mxI y6 r11))), (5, .int (iI (mxI y5 r10))), (4, .int (iI (y4 + r9))), (0, .ref a0), (1, .ref a1), (2, .int (iI y2)), (8, .int (iI y8))]) ok dX4_measureRow_105 (by decide) rfl ?_
        refine j_iinc (pc := 107) (lv' := [(8, .int (iI (y8 + 1))), (7, .int (iI r12)), (6, .int (iI (mxI y6 r11))), (5, .int (iI (mxI y5 r10))), (4, .int (iI (y4 + r9))), (0, .ref a0), (1, .ref a1), (2, .int (iI y2))]) 7 ok dX4_measureRow_107 rfl (by decide) rfl ?_
        refine j_goto (pc := 110) 40 ok dX4_measureRow_110 (by decide) ?_
        refine j_lv [5, 6, 7, 4, 3, 2, 1, 0] rfl ?_
        exact ih _ _ _ _ _ _ _ _ h
def f_X4_measureRow (a1_marksN : Nat) (a0_abovesF : (Nat → Int)) (a0_belowsF : (Nat → Int)) (a0_widthsF : (Nat → Int)) (a1_size : Int) (a1_marksF : (Nat → Int)) (x2 : Int) : Option ((Nat → Int) × (Nat → Int) × (Nat → Int)) := bd (f_X3_mark a1_marksN a1_size a1_marksF x2) (fun r1 => bd (f_X7_startsItem r1) (fun r2 => jn (fun (z4 : Int) => jn (fun (z6 : Int) => f_X4_measureRow_40 a1_marksN a1_size a1_marksF x2 (fun (z13 : (Nat → Int) × (Nat → Int) × (Nat → Int) × Int × Int × Int × Int × Int) => jn (fun (z15 : (Nat → Int) × (Nat → Int) × (Nat → Int)) => some (z15.1, z15.2.1, z15.2.2)) (fun k14 => cLt x2 0 (k14 (z13.1, z13.2.1, z13.2.2.1)) (cLt x2 181 (cLt x2 181 (cLt x2 181 (gIn x2 181 (gIn x2 181 (gIn x2 181 (k14 (va_up z13.1 x2.toNat z13.2.2.2.2.1, va_up z13.2.1 x2.toNat z13.2.2.2.2.2.1, va_up z13.2.2.1 x2.toNat z13.2.2.2.1))))) (k14 (z13.1, z13.2.1, z13.2.2.1))) (k14 (z13.1, z13.2.1, z13.2.2.1))) (k14 (z13.1, z13.2.1, z13.2.2.1))))) fuel a0_abovesF a0_belowsF a0_widthsF z6 0 0 x2 0) (fun k5 => cEq z4 0 (k5 0) (k5 1))) (fun k3 => cEq r2 0 (k3 1) (k3 0))))
set_option maxRecDepth 100000 in
set_option maxHeartbeats 4000000 in
theorem k_X4_measureRow {D : va_G} {cs : q_CS} {a0 a0_widths a0_aboves a0_belows a1 a1_marks : Nat} {a1_marksN : Nat} {a1_ci : Nat} {a1_fx : List Value} {a0_row a0_column a0_height a1_size : Int} {a0_abovesF a0_belowsF a0_widthsF a1_marksF : (Nat → Int)} {x2 : Int} {r : ((Nat → Int) × (Nat → Int) × (Nat → Int))} (ha1 : q_mk a1_ci a1_fx) (h : f_X4_measureRow a1_marksN a0_abovesF a0_belowsF a0_widthsF a1_size a1_marksF x2 = some r) : q_M D cs yX4_measureRow cX4_measureRow 9 none 3 68 [.ref a0, .ref a1, .int (iI x2)] [(a0, .inr (4, [.ref a0_widths, .ref a0_aboves, .ref a0_belows, .int (iI a0_row), .int (iI a0_column), .int (iI a0_height)])), (a0_aboves, .inl (cs.1, 181, .inl (aI a0_abovesF))), (a0_belows, .inl (cs.1, 181, .inl (aI a0_belowsF))), (a0_widths, .inl (cs.1, 181, .inl (aI a0_widthsF))), (a1, .inr (a1_ci, .ref a1_marks :: .int (iI a1_size) :: a1_fx)), (a1_marks, .inl (cs.1, a1_marksN, .inl (aI a1_marksF)))] none [(a0, .inr (4, [.ref a0_widths, .ref a0_aboves, .ref a0_belows, .int (iI a0_row), .int (iI a0_column), .int (iI a0_height)])), (a0_aboves, .inl (cs.1, 181, .inl (aI r.1))), (a0_belows, .inl (cs.1, 181, .inl (aI r.2.1))), (a0_widths, .inl (cs.1, 181, .inl (aI r.2.2))), (a1, .inr (a1_ci, .ref a1_marks :: .int (iI a1_size) :: a1_fx)), (a1_marks, .inl (cs.1, a1_marksN, .inl (aI a1_marksF)))] := by
  refine q_start_v [(0, .ref a0), (1, .ref a1), (2, .int (iI x2))] RX4 rfl (by decide +kernel) rfl (Nat.le_of_ble_eq_true rfl) (fun κ ok fin => ?_)
  unfold f_X4_measureRow at h
  refine j_aload_n (pc := 0) 1 ok dX4_measureRow_0 rfl rfl ?_
  refine j_iload_n (pc := 1) 2 ok dX4_measureRow_1 rfl rfl ?_
  obtain ⟨r1, hr1, h⟩ := bd_inv h
  refine j_callM (pc := 2) ok ha1 (k_X3_mark (a0 := a1) (a0_marks := a1_marks) (a0_ci := a1_ci) (a0_fx := a1_fx) (a0_marksN := a1_marksN) (a0_size := a1_size) (a0_marksF := a1_marksF) (x1 := x2) ha1 hr1) gU_X4_34 rfl hd_X3_mark gV_X4_34 ⟨rfl, hd_X3_mark⟩ [4, 5] (by decide) rfl rfl 4 rfl rfl rfl ⟨Nat.zero_le _, Nat.zero_le _⟩ (Nat.le_of_ble_eq_true rfl) dX4_measureRow_2 rfl [(a0, .inr (4, [.ref a0_widths, .ref a0_aboves, .ref a0_belows, .int (iI a0_row), .int (iI a0_column), .int (iI a0_height)])), (a0_aboves, .inl (cs.1, 181, .inl (aI a0_abovesF))), (a0_belows, .inl (cs.1, 181, .inl (aI a0_belowsF))), (a0_widths, .inl (cs.1, 181, .inl (aI a0_widthsF))), (a1, .inr (a1_ci, .ref a1_marks :: .int (iI a1_size) :: a1_fx)), (a1_marks, .inl (cs.1, a1_marksN, .inl (aI a1_marksF)))] rfl ?_
  obtain ⟨r2, hr2, h⟩ := bd_inv h
  refine j_callN (pc := 5) ok (k_X7_startsItem (x0 := r1) hr2) gN_X4_45 gNw_X4_45 gNi_X4_45 gNs_X4_45 hd_X7_startsItem [] (by decide) rfl rfl rfl rfl ⟨Nat.zero_le _, Nat.zero_le _⟩ (Nat.le_of_ble_eq_true rfl) dX4_measureRow_5 rfl [(a0, .inr (4, [.ref a0_widths, .ref a0_aboves, .ref a0_belows, .int (iI a0_row), .int (iI a0_column), .int (iI a0_height)])), (a0_aboves, .inl (cs.1, 181, .inl (aI a0_abovesF))), (a0_belows, .inl (cs.1, 181, .inl (aI a0_belowsF))), (a0_widths, .inl (cs.1, 181, .inl (aI a0_widthsF))), (a1, .inr (a1_ci, .ref a1_marks :: .int (iI a1_size) :: a1_fx)), (a1_marks, .inl (cs.1, a1_marksN, .inl (aI a1_marksF)))] rfl ?_
  refine jn_use (P := fun z4 => q_J D κ 9 0 0 [(a0, .inr (4, [.ref a0_widths, .ref a0_aboves, .ref a0_belows, .int (iI a0_row), .int (iI a0_column), .int (iI a0_height)])), (a0_aboves, .inl (cs.1, 181, .inl (aI a0_abovesF))), (a0_belows, .inl (cs.1, 181, .inl (aI a0_belowsF))), (a0_widths, .inl (cs.1, 181, .inl (aI a0_widthsF))), (a1, .inr (a1_ci, .ref a1_marks :: .int (iI a1_size) :: a1_fx)), (a1_marks, .inl (cs.1, a1_marksN, .inl (aI a1_marksF)))] [(0, .ref a0), (1, .ref a1), (2, .int (iI x2))] 16 [.int (iI z4)]) h (fun z4 h => ?_) (fun k3 hk3 h => ?_)
  · refine j_istore_n (pc := 16) (lv' := [(3, .int (iI z4)), (0, .ref a0), (1, .ref a1), (2, .int (iI x2))]) ok dX4_measureRow_16 rfl (by decide) rfl ?_
    refine j_iload_n (pc := 17) 0 ok dX4_measureRow_17 rfl rfl ?_
    refine jn_use (P := fun z6 => q_J D κ 9 0 0 [(a0, .inr (4, [.ref a0_widths, .ref a0_aboves, .ref a0_belows, .int (iI a0_row), .int (iI a0_column), .int (iI a0_height)])), (a0_aboves, .inl (cs.1, 181, .inl (aI a0_abovesF))), (a0_belows, .inl (cs.1, 181, .inl (aI a0_belowsF))), (a0_widths, .inl (cs.1, 181, .inl (aI a0_widthsF))), (a1, .inr (a1_ci, .ref a1_marks :: .int (iI a1_size) :: a1_fx)), (a1_marks, .inl (cs.1, a1_marksN, .inl (aI a1_marksF)))] [(0, .ref a0), (1, .ref a1), (2, .int (iI x2))] 26 [.int (iI z6)]) h (fun z6 h => ?_) (fun k5 hk5 h => ?_)
    · refine j_istore (pc := 26) (lv' := [(4, .int (iI z6)), (0, .ref a0), (1, .ref a1), (2, .int (iI x2))]) ok dX4_measureRow_26 (by decide) rfl ?_
      refine j_iconst (pc := 28) ok dX4_measureRow_28 ?_
      refine j_istore (pc := 29) (lv' := [(5, .int (iI 0)), (4, .int (iI z6)), (0, .ref a0), (1, .ref a1), (2, .int (iI x2))]) ok dX4_measureRow_29 (by decide) rfl ?_
      refine j_iconst (pc := 31) ok dX4_measureRow_31 ?_
      refine j_istore (pc := 32) (lv' := [(6, .int (iI 0)), (5, .int (iI 0)), (4, .int (iI z6)), (0, .ref a0), (1, .ref a1), (2, .int (iI x2))]) ok dX4_measureRow_32 (by decide) rfl ?_
      refine j_iload_n (pc := 34) 5 ok dX4_measureRow_34 rfl rfl ?_
      refine j_istore (pc := 35) (lv' := [(7, .int (iI x2)), (6, .int (iI 0)), (5, .int (iI 0)), (4, .int (iI z6)), (0, .ref a0), (1, .ref a1), (2, .int (iI x2))]) ok dX4_measureRow_35 (by decide) rfl ?_
      refine j_iconst (pc := 37) ok dX4_measureRow_37 ?_
      refine j_istore (pc := 38) (lv' := [(8, .int (iI 0)), (7, .int (iI x2)), (6, .int (iI 0)), (5, .int (iI 0)), (4, .int (iI z6)), (0, .ref a0), (1, .ref a1), (2, .int (iI x2))]) ok dX4_measureRow_38 (by decide) rfl ?_
      refine j_lv [5, 6, 7, 4, 3, 2, 1, 0] rfl ?_
      refine l_X4_measureRow_40 ha1 ok fin (fun z13 h => ?_) fuel _ _ _ _ _ _ _ _ h
      · refine j_iload_n (pc := 113) 1 ok dX4_measureRow_113 rfl rfl ?_
        refine jn_use (P := fun z15 => q_J D κ 9 0 0 [(a0, .inr (4, [.ref a0_widths, .ref a0_aboves, .ref a0_belows, .int (iI a0_row), .int (iI a0_column), .int (iI a0_height)])), (a0_aboves, .inl (cs.1, 181, .inl (aI z15.1))), (a0_belows, .inl (cs.1, 181, .inl (aI z15.2.1))), (a0_widths, .inl (cs.1, 181, .inl (aI z15.2.2))), (a1, .inr (a1_ci, .ref a1_marks :: .int (iI a1_size) :: a1_fx)), (a1_marks, .inl (cs.1, a1_marksN, .inl (aI a1_marksF)))] [] 168 []) h (fun z15 h => ?_) (fun k14 hk14 h => ?_)
        · obtain rfl := Option.some.inj h
          exact fin _ 168 dX4_measureRow_168
        · refine j_if_lt (pc := 114) 168 ok dX4_measureRow_114 (by decide) h (fun h => ?_) (fun h => ?_)
          · refine j_lv [] rfl ?_
            exact hk14 (z13.1, z13.2.1, z13.2.2.1) h
          · refine j_iload_n (pc := 117) 1 ok dX4_measureRow_117 rfl rfl ?_
            refine j_aload_n (pc := 118) 0 ok dX4_measureRow_118 rfl rfl ?_
            refine gf_X4_9_4 (pc := 119) 0 ok rfl dX4_measureRow_119 ?_
            refine j_alen (pc := 122) 3 0 ok rfl rfl dX4_measureRow_122 ?_
            refine j_icmp_ge (pc := 123) 168 ok dX4_measureRow_123 (by decide) h (fun h => ?_) (fun h => ?_)
            · refine j_lv [] rfl ?_
              exact hk14 (z13.1, z13.2.1, z13.2.2.1) h
            · refine j_iload_n (pc := 126) 1 ok dX4_measureRow_126 rfl rfl ?_
              refine j_aload_n (pc := 127) 0 ok dX4_measureRow_127 rfl rfl ?_
              refine gf_X4_15_4 (pc := 128) 0 ok rfl dX4_measureRow_128 ?_
              refine j_alen (pc := 131) 1 0 ok rfl rfl dX4_measureRow_131 ?_
              refine j_icmp_ge (pc := 132) 168 ok dX4_measureRow_132 (by decide) h (fun h => ?_) (fun h => ?_)
              · refine j_lv [] rfl ?_
                exact hk14 (z13.1, z13.2.1, z13.2.2.1) h
              · refine j_iload_n (pc := 135) 1 ok dX4_measureRow_135 rfl rfl ?_
                refine j_aload_n (pc := 136) 0 ok dX4_measureRow_136 rfl rfl ?_
                refine gf_X4_18_4 (pc := 137) 0 ok rfl dX4_measureRow_137 ?_
                refine j_alen (pc := 140) 2 0 ok rfl rfl dX4_measureRow_140 ?_
                refine j_icmp_ge (pc := 141) 168 ok dX4_measureRow_141 (by decide) h (fun h => ?_) (fun h => ?_)
                · refine j_lv [] rfl ?_
                  exact hk14 (z13.1, z13.2.1, z13.2.2.1) h
                · refine j_aload_n (pc := 144) 0 ok dX4_measureRow_144 rfl rfl ?_
                  refine gf_X4_9_4 (pc := 145) 0 ok rfl dX4_measureRow_145 ?_
                  refine j_iload_n (pc := 148) 1 ok dX4_measureRow_148 rfl rfl ?_
                  refine j_iload (pc := 149) 2 ok dX4_measureRow_149 rfl ?_
                  refine j_iastw (pc := 151) 3 ok rfl dX4_measureRow_151 h [(a0, .inr (4, [.ref a0_widths, .ref a0_aboves, .ref a0_belows, .int (iI a0_row), .int (iI a0_column), .int (iI a0_height)])), (a0_aboves, .inl (cs.1, 181, .inl (aI z13.1))), (a0_belows, .inl (cs.1, 181, .inl (aI z13.2.1))), (a0_widths, .inl (cs.1, 181, .inl (aI (va_up z13.2.2.1 x2.toNat z13.2.2.2.1)))), (a1, .inr (a1_ci, .ref a1_marks :: .int (iI a1_size) :: a1_fx)), (a1_marks, .inl (cs.1, a1_marksN, .inl (aI a1_marksF)))] rfl (fun h => ?_)
                  refine j_aload_n (pc := 152) 0 ok dX4_measureRow_152 rfl rfl ?_
                  refine gf_X4_15_4 (pc := 153) 0 ok rfl dX4_measureRow_153 ?_
                  refine j_iload_n (pc := 156) 1 ok dX4_measureRow_156 rfl rfl ?_
                  refine j_iload (pc := 157) 3 ok dX4_measureRow_157 rfl ?_
                  refine j_iastw (pc := 159) 1 ok rfl dX4_measureRow_159 h [(a0, .inr (4, [.ref a0_widths, .ref a0_aboves, .ref a0_belows, .int (iI a0_row), .int (iI a0_column), .int (iI a0_height)])), (a0_aboves, .inl (cs.1, 181, .inl (aI (va_up z13.1 x2.toNat z13.2.2.2.2.1)))), (a0_belows, .inl (cs.1, 181, .inl (aI z13.2.1))), (a0_widths, .inl (cs.1, 181, .inl (aI (va_up z13.2.2.1 x2.toNat z13.2.2.2.1)))), (a1, .inr (a1_ci, .ref a1_marks :: .int (iI a1_size) :: a1_fx)), (a1_marks, .inl (cs.1, a1_marksN, .inl (aI a1_marksF)))] rfl (fun h => ?_)
                  refine j_aload_n (pc := 160) 0 ok dX4_measureRow_160 rfl rfl ?_
                  refine gf_X4_18_4 (pc := 161) 0 ok rfl dX4_measureRow_161 ?_
                  refine j_iload_n (pc := 164) 1 ok dX4_measureRow_164 rfl rfl ?_
                  refine j_iload (pc := 165) 4 ok dX4_measureRow_165 rfl ?_
                  refine j_iastw (pc := 167) 2 ok rfl dX4_measureRow_167 h [(a0, .inr (4, [.ref a0_widths, .ref a0_aboves, .ref a0_belows, .int (iI a0_row), .int (iI a0_column), .int (iI a0_height)])), (a0_aboves, .inl (cs.1, 181, .inl (aI (va_up z13.1 x2.toNat z13.2.2.2.2.1)))), (a0_belows, .inl (cs.1, 181, .inl (aI (va_up z13.2.1 x2.toNat z13.2.2.2.2.2.1)))), (a0_widths, .inl (cs.1, 181, .inl (aI (va_up z13.2.2.1 x2.toNat z13.2.2.2.1)))), (a1, .inr (a1_ci, .ref a1_marks :: .int (iI a1_size) :: a1_fx)), (a1_marks, .inl (cs.1, a1_marksN, .inl (aI a1_marksF)))] rfl (fun h => ?_)
                  refine j_lv [] rfl ?_
                  exact hk14 (va_up z13.1 x2.toNat z13.2.2.2.2.1, va_up z13.2.1 x2.toNat z13.2.2.2.2.2.1, va_up z13.2.2.1 x2.toNat z13.2.2.2.1) h
    · refine j_if_eq (pc := 18) 25 ok dX4_measureRow_18 (by decide) h (fun h => ?_) (fun h => ?_)
      · refine j_iconst (pc := 25) ok dX4_measureRow_25 ?_
        refine j_lv [1, 2, 3] rfl ?_
        exact hk5 0 h
      · refine j_iconst (pc := 21) ok dX4_measureRow_21 ?_
        refine j_goto (pc := 22) 26 ok dX4_measureRow_22 (by decide) ?_
        refine j_lv [1, 2, 3] rfl ?_
        exact hk5 1 h
  · refine j_if_ne (pc := 8) 15 ok dX4_measureRow_8 (by decide) h (fun h => ?_) (fun h => ?_)
    · refine j_iconst (pc := 15) ok dX4_measureRow_15 ?_
      exact hk3 0 h
    · refine j_iconst (pc := 11) ok dX4_measureRow_11 ?_
      refine j_goto (pc := 12) 16 ok dX4_measureRow_12 (by decide) ?_
      exact hk3 1 h
def f_X4_measure_5 (a1_marksN : Nat) (a1_size : Int) (a1_marksF : (Nat → Int)) (e5_46 : (Nat → Int) × (Nat → Int) × (Nat → Int) × Int → Option ((Nat → Int) × (Nat → Int) × (Nat → Int))) : Nat → (Nat → Int) → (Nat → Int) → (Nat → Int) → Int → Option ((Nat → Int) × (Nat → Int) × (Nat → Int))
  | 0, _, _, _, _ => none
  | n + 1, a0_abovesF, a0_belowsF, a0_widthsF, y2 => cLt y2 0 (e5_46 (a0_abovesF, a0_belowsF, a0_widthsF, y2)) (bd (f_X3_mark a1_marksN a1_size a1_marksF (y2 - 1)) (fun r1 => jn (fun (z7 : (Nat → Int) × (Nat → Int) × (Nat → Int)) => f_X4_measure_5 a1_marksN a1_size a1_marksF e5_46 n z7.1 z7.2.1 z7.2.2 (y2 + (-1))) (fun k3 => jn (fun (z5 : Unit) => bd (f_X4_measureRow a1_marksN a0_abovesF a0_belowsF a0_widthsF a1_size a1_marksF y2) (fun r6 => k3 (r6.1, r6.2.1, r6.2.2))) (fun k2 => cEq y2 0 (k2 ()) (bd (f_X7_opens r1) (fun r4 => cEq r4 0 (cEq r1 6 (k2 ()) (k3 (a0_abovesF, a0_belowsF, a0_widthsF))) (k2 ())))))))
set_option maxRecDepth 100000 in
theorem l_X4_measure_5 {D : va_G} {cs : q_CS} {κ : q_X} {a0 a0_widths a0_aboves a0_belows a1 a1_marks : Nat} {a1_marksN : Nat} {a1_ci : Nat} {a1_fx : List Value} {a0_row a0_column a0_height a1_size : Int} {a1_marksF : (Nat → Int)} {r : ((Nat → Int) × (Nat → Int) × (Nat → Int))} {e5_46 : (Nat → Int) × (Nat → Int) × (Nat → Int) × Int → Option ((Nat → Int) × (Nat → Int) × (Nat → Int))} (ha1 : q_mk a1_ci a1_fx) (ok : q_ok D cs κ cX4_measure 4 RX4 (q_rm 4 96)) (fin : ∀ (lv : List (Nat × Value)) (pc : Nat), decode cX4_measure pc = .ok (.return_, 1) → q_J D κ 4 0 0 [(a0, .inr (4, [.ref a0_widths, .ref a0_aboves, .ref a0_belows, .int (iI a0_row), .int (iI a0_column), .int (iI a0_height)])), (a0_aboves, .inl (cs.1, 181, .inl (aI r.1))), (a0_belows, .inl (cs.1, 181, .inl (aI r.2.1))), (a0_widths, .inl (cs.1, 181, .inl (aI r.2.2))), (a1, .inr (a1_ci, .ref a1_marks :: .int (iI a1_size) :: a1_fx)), (a1_marks, .inl (cs.1, a1_marksN, .inl (aI a1_marksF)))] lv pc []) (he5_46 : ∀ x : (Nat → Int) × (Nat → Int) × (Nat → Int) × Int, e5_46 x = some r → q_J D κ 4 0 0 [(a0, .inr (4, [.ref a0_widths, .ref a0_aboves, .ref a0_belows, .int (iI a0_row), .int (iI a0_column), .int (iI a0_height)])), (a0_aboves, .inl (cs.1, 181, .inl (aI x.1))), (a0_belows, .inl (cs.1, 181, .inl (aI x.2.1))), (a0_widths, .inl (cs.1, 181, .inl (aI x.2.2.1))), (a1, .inr (a1_ci, .ref a1_marks :: .int (iI a1_size) :: a1_fx)), (a1_marks, .inl (cs.1, a1_marksN, .inl (aI a1_marksF)))] [] 46 []) : ∀ (n : Nat) (a0_abovesF : (Nat → Int)) (a0_belowsF : (Nat → Int)) (a0_widthsF : (Nat → Int)) (y2 : Int), f_X4_measure_5 a1_marksN a1_size a1_marksF e5_46 n a0_abovesF a0_belowsF a0_widthsF y2 = some r → q_J D κ 4 0 0 [(a0, .inr (4, [.ref a0_widths, .ref a0_aboves, .ref a0_belows, .int (iI a0_row), .int (iI a0_column), .int (iI a0_height)])), (a0_aboves, .inl (cs.1, 181, .inl (aI a0_abovesF))), (a0_belows, .inl (cs.1, 181, .inl (aI a0_belowsF))), (a0_widths, .inl (cs.1, 181, .inl (aI a0_widthsF))), (a1, .inr (a1_ci, .ref a1_marks :: .int (iI a1_size) :: a1_fx)), (a1_marks, .inl (cs.1, a1_marksN, .inl (aI a1_marksF)))] [(0, .ref a0), (1, .ref a1), (2, .int (iI y2))] 5 [] := by
  intro n
  induction n with
  | zero =>
    intro a0_abovesF a0_belowsF a0_widthsF y2 h
    exact absurd h (by unfold f_X4_measure_5; exact fun z => by cases z)
  | succ n ih =>
    intro a0_abovesF a0_belowsF a0_widthsF y2 h
    unfold f_X4_measure_5 at h
    refine j_iload_n (pc := 5) 2 ok dX4_measure_5 rfl rfl ?_
    refine j_if_lt (pc := 6) 46 ok dX4_measure_6 (by decide) h (fun h => ?_) (fun h => ?_)
    · refine j_lv [] rfl ?_
      exact he5_46 (a0_abovesF, a0_belowsF, a0_widthsF, y2) h
    · refine j_aload_n (pc := 9) 1 ok dX4_measure_9 rfl rfl ?_
      refine j_iload_n (pc := 10) 2 ok dX4_measure_10 rfl rfl ?_
      refine j_iconst (pc := 11) ok dX4_measure_11 ?_
      refine j_isub (pc := 12) ok dX4_measure_12 ?_
      obtain ⟨r1, hr1, h⟩ := bd_inv h
      refine j_callM (pc := 13) ok ha1 (k_X3_mark (a0 := a1) (a0_marks := a1_marks) (a0_ci := a1_ci) (a0_fx := a1_fx) (a0_marksN := a1_marksN) (a0_size := a1_size) (a0_marksF := a1_marksF) (x1 := y2 - 1) ha1 hr1) gU_X4_34 rfl hd_X3_mark gV_X4_34 ⟨rfl, hd_X3_mark⟩ [4, 5] (by decide) rfl rfl 4 rfl rfl rfl ⟨Nat.zero_le _, Nat.zero_le _⟩ (Nat.le_of_ble_eq_true rfl) dX4_measure_13 rfl [(a0, .inr (4, [.ref a0_widths, .ref a0_aboves, .ref a0_belows, .int (iI a0_row), .int (iI a0_column), .int (iI a0_height)])), (a0_aboves, .inl (cs.1, 181, .inl (aI a0_abovesF))), (a0_belows, .inl (cs.1, 181, .inl (aI a0_belowsF))), (a0_widths, .inl (cs.1, 181, .inl (aI a0_widthsF))), (a1, .inr (a1_ci, .ref a1_marks :: .int (iI a1_size) :: a1_fx)), (a1_marks, .inl (cs.1, a1_marksN, .inl (aI a1_marksF)))] rfl ?_
      refine j_istore_n (pc := 16) (lv' := [(3, .int (iI r1)), (0, .ref a0), (1, .ref a1), (2, .int (iI y2))]) ok dX4_measure_16 rfl (by decide) rfl ?_
      refine j_iload_n (pc := 17) 3 ok dX4_measure_17 rfl rfl ?_
      refine jn_use (P := fun z7 => q_J D κ 4 0 0 [(a0, .inr (4, [.ref a0_widths, .ref a0_aboves, .ref a0_belows, .int (iI a0_row), .int (iI a0_column), .int (iI a0_height)])), (a0_aboves, .inl (cs.1, 181, .inl (aI z7.1))), (a0_belows, .inl (cs.1, 181, .inl (aI z7.2.1))), (a0_widths, .inl (cs.1, 181, .inl (aI z7.2.2))), (a1, .inr (a1_ci, .ref a1_marks :: .int (iI a1_size) :: a1_fx)), (a1_marks, .inl (cs.1, a1_marksN, .inl (aI a1_marksF)))] [(0, .ref a0), (1, .ref a1), (2, .int (iI y2))] 40 []) h (fun z7 h => ?_) (fun k3 hk3 h => ?_)
      · refine j_iinc (pc := 40) (lv' := [(2, .int (iI (y2 + (-1)))), (0, .ref a0), (1, .ref a1)]) 2 ok dX4_measure_40 rfl (by decide) rfl ?_
        refine j_goto (pc := 43) 5 ok dX4_measure_43 (by decide) ?_
        refine j_lv [1, 2, 0] rfl ?_
        exact ih _ _ _ _ h
      · refine jn_use (P := fun z5 => q_J D κ 4 0 0 [(a0, .inr (4, [.ref a0_widths, .ref a0_aboves, .ref a0_belows, .int (iI a0_row), .int (iI a0_column), .int (iI a0_height)])), (a0_aboves, .inl (cs.1, 181, .inl (aI a0_abovesF))), (a0_belows, .inl (cs.1, 181, .inl (aI a0_belowsF))), (a0_widths, .inl (cs.1, 181, .inl (aI a0_widthsF))), (a1, .inr (a1_ci, .ref a1_marks :: .int (iI a1_size) :: a1_fx)), (a1_marks, .inl (cs.1, a1_marksN, .inl (aI a1_marksF)))] [(0, .ref a0), (1, .ref a1), (2, .int (iI y2))] 34 []) h (fun z5 h => ?_) (fun k2 hk2 h => ?_)
        · refine j_aload_n (pc := 34) 0 ok dX4_measure_34 rfl rfl ?_
          refine j_aload_n (pc := 35) 1 ok dX4_measure_35 rfl rfl ?_
          refine j_iload_n (pc := 36) 2 ok dX4_measure_36 rfl rfl ?_
          obtain ⟨r6, hr6, h⟩ := bd_inv h
          refine j_callV (pc := 37) ok (k_X4_measureRow (a0 := a0) (a0_widths := a0_widths) (a0_aboves := a0_aboves) (a0_belows := a0_belows) (a1 := a1) (a1_marks := a1_marks) (a1_ci := a1_ci) (a1_fx := a1_fx) (a1_marksN := a1_marksN) (a0_row := a0_row) (a0_column := a0_column) (a0_height := a0_height) (a0_abovesF := a0_abovesF) (a0_belowsF := a0_belowsF) (a0_widthsF := a0_widthsF) (a1_size := a1_size) (a1_marksF := a1_marksF) (x2 := y2) ha1 hr6) gV_X4_41 ⟨rfl, hd_X4_measureRow⟩ [0, 1, 2, 3, 4, 5] (by decide) rfl rfl 0 rfl rfl rfl rfl ⟨Nat.zero_le _, Nat.zero_le _⟩ (Nat.le_of_ble_eq_true rfl) dX4_measure_37 rfl [(a0, .inr (4, [.ref a0_widths, .ref a0_aboves, .ref a0_belows, .int (iI a0_row), .int (iI a0_column), .int (iI a0_height)])), (a0_aboves, .inl (cs.1, 181, .inl (aI r6.1))), (a0_belows, .inl (cs.1, 181, .inl (aI r6.2.1))), (a0_widths, .inl (cs.1, 181, .inl (aI r6.2.2))), (a1, .inr (a1_ci, .ref a1_marks :: .int (iI a1_size) :: a1_fx)), (a1_marks, .inl (cs.1, a1_marksN, .inl (aI a1_marksF)))] rfl ?_
          exact hk3 (r6.1, r6.2.1, r6.2.2) h
        · refine j_if_eq (pc := 18) 34 ok dX4_measure_18 (by decide) h (fun h => ?_) (fun h => ?_)
          · refine j_lv [1, 2, 3] rfl ?_
            exact hk2 () h
          · refine j_iload_n (pc := 21) 0 ok dX4_measure_21 rfl rfl ?_
            obtain ⟨r4, hr4, h⟩ := bd_inv h
            refine j_callN (pc := 22) ok (k_X7_opens (x0 := r1) hr4) gN_X4_37 gNw_X4_37 gNi_X4_37 gNs_X4_37 hd_X7_opens [] (by decide) rfl rfl rfl rfl ⟨Nat.zero_le _, Nat.zero_le _⟩ (Nat.le_of_ble_eq_true rfl) dX4_measure_22 rfl [(a0, .inr (4, [.ref a0_widths, .ref a0_aboves, .ref a0_belows, .int (iI a0_row), .int (iI a0_column), .int (iI a0_height)])), (a0_aboves, .inl (cs.1, 181, .inl (aI a0_abovesF))), (a0_belows, .inl (cs.1, 181, .inl (aI a0_belowsF))), (a0_widths, .inl (cs.1, 181, .inl (aI a0_widthsF))), (a1, .inr (a1_ci, .ref a1_marks :: .int (iI a1_size) :: a1_fx)), (a1_marks, .inl (cs.1, a1_marksN, .inl (aI a1_marksF)))] rfl ?_
            refine j_if_ne (pc := 25) 34 ok dX4_measure_25 (by decide) h (fun h => ?_) (fun h => ?_)
            · refine j_lv [1, 2, 3] rfl ?_
              exact hk2 () h
            · refine j_iload_n (pc := 28) 0 ok dX4_measure_28 rfl rfl ?_
              refine j_bipush (pc := 29) ok dX4_measure_29 (by decide) ?_
              refine j_icmp_ne (pc := 31) 40 ok dX4_measure_31 (by decide) h (fun h => ?_) (fun h => ?_)
              · refine j_lv [1, 2, 3] rfl ?_
                exact hk3 (a0_abovesF, a0_belowsF, a0_widthsF) h
              · refine j_lv [1, 2, 3] rfl ?_
                exact hk2 () h
def f_X4_measure (a1_marksN : Nat) (a0_abovesF : (Nat → Int)) (a0_belowsF : (Nat → Int)) (a0_widthsF : (Nat → Int)) (a1_size : Int) (a1_marksF : (Nat → Int)) : Option ((Nat → Int) × (Nat → Int) × (Nat → Int)) := f_X4_measure_5 a1_marksN a1_size a1_marksF (fun (z8 : (Nat → Int) × (Nat → Int) × (Nat → Int) × Int) => some (z8.1, z8.2.1, z8.2.2.1)) fuel a0_abovesF a0_belowsF a0_widthsF a1_size
set_option maxRecDepth 100000 in
set_option maxHeartbeats 4000000 in
theorem k_X4_measure {D : va_G} {cs : q_CS} {a0 a0_widths a0_aboves a0_belows a1 a1_marks : Nat} {a1_marksN : Nat} {a1_ci : Nat} {a1_fx : List Value} {a0_row a0_column a0_height a1_size : Int} {a0_abovesF a0_belowsF a0_widthsF a1_marksF : (Nat → Int)} {r : ((Nat → Int) × (Nat → Int) × (Nat → Int))} (ha1 : q_mk a1_ci a1_fx) (h : f_X4_measure a1_marksN a0_abovesF a0_belowsF a0_widthsF a1_size a1_marksF = some r) : q_M D cs yX4_measure cX4_measure 4 none 4 96 [.ref a0, .ref a1] [(a0, .inr (4, [.ref a0_widths, .ref a0_aboves, .ref a0_belows, .int (iI a0_row), .int (iI a0_column), .int (iI a0_height)])), (a0_aboves, .inl (cs.1, 181, .inl (aI a0_abovesF))), (a0_belows, .inl (cs.1, 181, .inl (aI a0_belowsF))), (a0_widths, .inl (cs.1, 181, .inl (aI a0_widthsF))), (a1, .inr (a1_ci, .ref a1_marks :: .int (iI a1_size) :: a1_fx)), (a1_marks, .inl (cs.1, a1_marksN, .inl (aI a1_marksF)))] none [(a0, .inr (4, [.ref a0_widths, .ref a0_aboves, .ref a0_belows, .int (iI a0_row), .int (iI a0_column), .int (iI a0_height)])), (a0_aboves, .inl (cs.1, 181, .inl (aI r.1))), (a0_belows, .inl (cs.1, 181, .inl (aI r.2.1))), (a0_widths, .inl (cs.1, 181, .inl (aI r.2.2))), (a1, .inr (a1_ci, .ref a1_marks :: .int (iI a1_size) :: a1_fx)), (a1_marks, .inl (cs.1, a1_marksN, .inl (aI a1_marksF)))] := by
  refine q_start_v [(0, .ref a0), (1, .ref a1)] RX4 rfl (by decide +kernel) rfl (Nat.le_of_ble_eq_true rfl) (fun κ ok fin => ?_)
  unfold f_X4_measure at h
  refine j_aload_n (pc := 0) 1 ok dX4_measure_0 rfl rfl ?_
  refine gm_X4_28 (pc := 1) 4 ok ha1 rfl dX4_measure_1 ?_
  refine j_istore_n (pc := 4) (lv' := [(2, .int (iI a1_size)), (0, .ref a0), (1, .ref a1)]) ok dX4_measure_4 rfl (by decide) rfl ?_
  refine j_lv [1, 2, 0] rfl ?_
  refine l_X4_measure_5 ha1 ok fin (fun z8 h => ?_) fuel _ _ _ _ h
  · obtain rfl := Option.some.inj h
    exact fin _ 46 dX4_measure_46
def f_X4_itemAtColumn_7 (a1_marksN : Nat) (a0_row : Int) (a0_widthsF : (Nat → Int)) (a1_size : Int) (a1_marksF : (Nat → Int)) (e7_53 : Int × Int × Int → Option (Int × Int)) : Nat → Int → Int → Int → Option (Int × Int)
  | 0, _, _, _ => none
  | n + 1, a0_column, y2, y3 => cLt y3 60 (bd (f_X4_itemWidth a1_marksN a0_widthsF a1_size a1_marksF y2) (fun r1 => cLt a0_column r1 (e7_53 (a0_column, y2, y3)) (bd (f_X4_itemWidth a1_marksN a0_widthsF a1_size a1_marksF y2) (fun r2 => bd (f_X3_itemEnd a1_marksN a1_size a1_marksF y2) (fun r3 => f_X4_itemAtColumn_7 a1_marksN a0_row a0_widthsF a1_size a1_marksF e7_53 n (a0_column - r2) r3 (y3 + 1)))))) (e7_53 (a0_column, y2, y3))
set_option maxRecDepth 100000 in
theorem l_X4_itemAtColumn_7 {D : va_G} {cs : q_CS} {κ : q_X} {a0 a0_widths a0_aboves a0_belows a1 a1_marks : Nat} {a1_marksN : Nat} {a1_ci : Nat} {a1_fx : List Value} {a0_row a0_height a1_size : Int} {a0_widthsF a1_marksF : (Nat → Int)} {r : (Int × Int)} {e7_53 : Int × Int × Int → Option (Int × Int)} (ha1 : q_mk a1_ci a1_fx) (ok : q_ok D cs κ cX4_itemAtColumn 4 RX4 (q_rm 3 68)) (fin : ∀ (lv : List (Nat × Value)) (pc : Nat), decode cX4_itemAtColumn pc = .ok (.ireturn, 1) → q_J D κ 4 0 0 [(a0, .inr (4, [.ref a0_widths, .ref a0_aboves, .ref a0_belows, .int (iI a0_row), .int (iI r.2), .int (iI a0_height)])), (a0_widths, .inl (cs.1, 181, .inl (aI a0_widthsF))), (a1, .inr (a1_ci, .ref a1_marks :: .int (iI a1_size) :: a1_fx)), (a1_marks, .inl (cs.1, a1_marksN, .inl (aI a1_marksF)))] lv pc [.int (iI r.1)]) (he7_53 : ∀ x : Int × Int × Int, e7_53 x = some r → q_J D κ 4 0 0 [(a0, .inr (4, [.ref a0_widths, .ref a0_aboves, .ref a0_belows, .int (iI a0_row), .int (iI x.1), .int (iI a0_height)])), (a0_widths, .inl (cs.1, 181, .inl (aI a0_widthsF))), (a1, .inr (a1_ci, .ref a1_marks :: .int (iI a1_size) :: a1_fx)), (a1_marks, .inl (cs.1, a1_marksN, .inl (aI a1_marksF)))] [(2, .int (iI x.2.1))] 53 []) : ∀ (n : Nat) (a0_column : Int) (y2 : Int) (y3 : Int), f_X4_itemAtColumn_7 a1_marksN a0_row a0_widthsF a1_size a1_marksF e7_53 n a0_column y2 y3 = some r → q_J D κ 4 0 0 [(a0, .inr (4, [.ref a0_widths, .ref a0_aboves, .ref a0_belows, .int (iI a0_row), .int (iI a0_column), .int (iI a0_height)])), (a0_widths, .inl (cs.1, 181, .inl (aI a0_widthsF))), (a1, .inr (a1_ci, .ref a1_marks :: .int (iI a1_size) :: a1_fx)), (a1_marks, .inl (cs.1, a1_marksN, .inl (aI a1_marksF)))] [(0, .ref a0), (1, .ref a1), (2, .int (iI y2)), (3, .int (iI y3))] 7 [] := by
  intro n
  induction n with
  | zero =>
    intro a0_column y2 y3 h
    exact absurd h (by unfold f_X4_itemAtColumn_7; exact fun z => by cases z)
  | succ n ih =>
    intro a0_column y2 y3 h
    unfold f_X4_itemAtColumn_7 at h
    refine j_iload_n (pc := 7) 3 ok dX4_itemAtColumn_7 rfl rfl ?_
    refine j_bipush (pc := 8) ok dX4_itemAtColumn_8 (by decide) ?_
    refine j_icmp_ge (pc := 10) 53 ok dX4_itemAtColumn_10 (by decide) h (fun h => ?_) (fun h => ?_)
    · refine j_lv [2] rfl ?_
      exact he7_53 (a0_column, y2, y3) h
    · refine j_aload_n (pc := 13) 0 ok dX4_itemAtColumn_13 rfl rfl ?_
      refine gf_X4_79_4 (pc := 14) 0 ok rfl dX4_itemAtColumn_14 ?_
      refine j_aload_n (pc := 17) 0 ok dX4_itemAtColumn_17 rfl rfl ?_
      refine j_aload_n (pc := 18) 1 ok dX4_itemAtColumn_18 rfl rfl ?_
      refine j_iload_n (pc := 19) 2 ok dX4_itemAtColumn_19 rfl rfl ?_
      obtain ⟨r1, hr1, h⟩ := bd_inv h
      refine j_callV (pc := 20) ok (k_X4_itemWidth (a0 := a0) (a0_widths := a0_widths) (a0_aboves := a0_aboves) (a0_belows := a0_belows) (a1 := a1) (a1_marks := a1_marks) (a1_ci := a1_ci) (a1_fx := a1_fx) (a1_marksN := a1_marksN) (a0_row := a0_row) (a0_column := a0_column) (a0_height := a0_height) (a0_widthsF := a0_widthsF) (a1_size := a1_size) (a1_marksF := a1_marksF) (x2 := y2) ha1 hr1) gV_X4_48 ⟨rfl, hd_X4_itemWidth⟩ [0, 1, 2, 3] (by decide) rfl rfl 0 rfl rfl rfl rfl ⟨Nat.zero_le _, Nat.zero_le _⟩ (Nat.le_of_ble_eq_true rfl) dX4_itemAtColumn_20 rfl [(a0, .inr (4, [.ref a0_widths, .ref a0_aboves, .ref a0_belows, .int (iI a0_row), .int (iI a0_column), .int (iI a0_height)])), (a0_widths, .inl (cs.1, 181, .inl (aI a0_widthsF))), (a1, .inr (a1_ci, .ref a1_marks :: .int (iI a1_size) :: a1_fx)), (a1_marks, .inl (cs.1, a1_marksN, .inl (aI a1_marksF)))] rfl ?_
      refine j_icmp_lt (pc := 23) 53 ok dX4_itemAtColumn_23 (by decide) h (fun h => ?_) (fun h => ?_)
      · refine j_lv [2] rfl ?_
        exact he7_53 (a0_column, y2, y3) h
      · refine j_aload_n (pc := 26) 0 ok dX4_itemAtColumn_26 rfl rfl ?_
        refine j_dup (pc := 27) ok dX4_itemAtColumn_27 rfl ?_
        refine gf_X4_79_4 (pc := 28) 0 ok rfl dX4_itemAtColumn_28 ?_
        refine j_aload_n (pc := 31) 0 ok dX4_itemAtColumn_31 rfl rfl ?_
        refine j_aload_n (pc := 32) 1 ok dX4_itemAtColumn_32 rfl rfl ?_
        refine j_iload_n (pc := 33) 2 ok dX4_itemAtColumn_33 rfl rfl ?_
        obtain ⟨r2, hr2, h⟩ := bd_inv h
        refine j_callV (pc := 34) ok (k_X4_itemWidth (a0 := a0) (a0_widths := a0_widths) (a0_aboves := a0_aboves) (a0_belows := a0_belows) (a1 := a1) (a1_marks := a1_marks) (a1_ci := a1_ci) (a1_fx := a1_fx) (a1_marksN := a1_marksN) (a0_row := a0_row) (a0_column := a0_column) (a0_height := a0_height) (a0_widthsF := a0_widthsF) (a1_size := a1_size) (a1_marksF := a1_marksF) (x2 := y2) ha1 hr2) gV_X4_48 ⟨rfl, hd_X4_itemWidth⟩ [0, 1, 2, 3] (by decide) rfl rfl 0 rfl rfl rfl rfl ⟨Nat.zero_le _, Nat.zero_le _⟩ (Nat.le_of_ble_eq_true rfl) dX4_itemAtColumn_34 rfl [(a0, .inr (4, [.ref a0_widths, .ref a0_aboves, .ref a0_belows, .int (iI a0_row), .int (iI a0_column), .int (iI a0_height)])), (a0_widths, .inl (cs.1, 181, .inl (aI a0_widthsF))), (a1, .inr (a1_ci, .ref a1_marks :: .int (iI a1_size) :: a1_fx)), (a1_marks, .inl (cs.1, a1_marksN, .inl (aI a1_marksF)))] rfl ?_
        refine j_isub (pc := 37) ok dX4_itemAtColumn_37 ?_
        refine pf_X4_79_4 (pc := 38) 0 ok rfl dX4_itemAtColumn_38 [(a0, .inr (4, [.ref a0_widths, .ref a0_aboves, .ref a0_belows, .int (iI a0_row), .int (iI (a0_column - r2)), .int (iI a0_height)])), (a0_widths, .inl (cs.1, 181, .inl (aI a0_widthsF))), (a1, .inr (a1_ci, .ref a1_marks :: .int (iI a1_size) :: a1_fx)), (a1_marks, .inl (cs.1, a1_marksN, .inl (aI a1_marksF)))] rfl ?_
        refine j_aload_n (pc := 41) 1 ok dX4_itemAtColumn_41 rfl rfl ?_
        refine j_iload_n (pc := 42) 2 ok dX4_itemAtColumn_42 rfl rfl ?_
        obtain ⟨r3, hr3, h⟩ := bd_inv h
        refine j_callM (pc := 43) ok ha1 (k_X3_itemEnd (a0 := a1) (a0_marks := a1_marks) (a0_ci := a1_ci) (a0_fx := a1_fx) (a0_marksN := a1_marksN) (a0_size := a1_size) (a0_marksF := a1_marksF) (x1 := y2) ha1 hr3) gU_X4_64 rfl hd_X3_itemEnd gV_X4_64 ⟨rfl, hd_X3_itemEnd⟩ [2, 3] (by decide) rfl rfl 2 rfl rfl rfl ⟨Nat.zero_le _, Nat.zero_le _⟩ (Nat.le_of_ble_eq_true rfl) dX4_itemAtColumn_43 rfl [(a0, .inr (4, [.ref a0_widths, .ref a0_aboves, .ref a0_belows, .int (iI a0_row), .int (iI (a0_column - r2)), .int (iI a0_height)])), (a0_widths, .inl (cs.1, 181, .inl (aI a0_widthsF))), (a1, .inr (a1_ci, .ref a1_marks :: .int (iI a1_size) :: a1_fx)), (a1_marks, .inl (cs.1, a1_marksN, .inl (aI a1_marksF)))] rfl ?_
        refine j_istore_n (pc := 46) (lv' := [(2, .int (iI r3)), (0, .ref a0), (1, .ref a1), (3, .int (iI y3))]) ok dX4_itemAtColumn_46 rfl (by decide) rfl ?_
        refine j_iinc (pc := 47) (lv' := [(3, .int (iI (y3 + 1))), (2, .int (iI r3)), (0, .ref a0), (1, .ref a1)]) 3 ok dX4_itemAtColumn_47 rfl (by decide) rfl ?_
        refine j_goto (pc := 50) 7 ok dX4_itemAtColumn_50 (by decide) ?_
        refine j_lv [2, 3, 1, 0] rfl ?_
        exact ih _ _ _ h
def f_X4_itemAtColumn (a1_marksN : Nat) (a0_row : Int) (a0_column : Int) (a0_widthsF : (Nat → Int)) (a1_size : Int) (a1_marksF : (Nat → Int)) : Option (Int × Int) := f_X4_itemAtColumn_7 a1_marksN a0_row a0_widthsF a1_size a1_marksF (fun (z4 : Int × Int × Int) => some (z4.2.1, z4.1)) fuel a0_column a0_row 0
set_option maxRecDepth 100000 in
set_option maxHeartbeats 4000000 in
theorem k_X4_itemAtColumn {D : va_G} {cs : q_CS} {a0 a0_widths a0_aboves a0_belows a1 a1_marks : Nat} {a1_marksN : Nat} {a1_ci : Nat} {a1_fx : List Value} {a0_row a0_column a0_height a1_size : Int} {a0_widthsF a1_marksF : (Nat → Int)} {r : (Int × Int)} (ha1 : q_mk a1_ci a1_fx) (h : f_X4_itemAtColumn a1_marksN a0_row a0_column a0_widthsF a1_size a1_marksF = some r) : q_M D cs yX4_itemAtColumn cX4_itemAtColumn 4 (some .int) 3 68 [.ref a0, .ref a1] [(a0, .inr (4, [.ref a0_widths, .ref a0_aboves, .ref a0_belows, .int (iI a0_row), .int (iI a0_column), .int (iI a0_height)])), (a0_widths, .inl (cs.1, 181, .inl (aI a0_widthsF))), (a1, .inr (a1_ci, .ref a1_marks :: .int (iI a1_size) :: a1_fx)), (a1_marks, .inl (cs.1, a1_marksN, .inl (aI a1_marksF)))] (some (.int (iI r.1))) [(a0, .inr (4, [.ref a0_widths, .ref a0_aboves, .ref a0_belows, .int (iI a0_row), .int (iI r.2), .int (iI a0_height)])), (a0_widths, .inl (cs.1, 181, .inl (aI a0_widthsF))), (a1, .inr (a1_ci, .ref a1_marks :: .int (iI a1_size) :: a1_fx)), (a1_marks, .inl (cs.1, a1_marksN, .inl (aI a1_marksF)))] := by
  refine q_start_i [(0, .ref a0), (1, .ref a1)] RX4 rfl (by decide +kernel) rfl (Nat.le_of_ble_eq_true rfl) rfl (fun κ ok fin => ?_)
  unfold f_X4_itemAtColumn at h
  refine j_aload_n (pc := 0) 0 ok dX4_itemAtColumn_0 rfl rfl ?_
  refine gf_X4_76_4 (pc := 1) 0 ok rfl dX4_itemAtColumn_1 ?_
  refine j_istore_n (pc := 4) (lv' := [(2, .int (iI a0_row)), (0, .ref a0), (1, .ref a1)]) ok dX4_itemAtColumn_4 rfl (by decide) rfl ?_
  refine j_iconst (pc := 5) ok dX4_itemAtColumn_5 ?_
  refine j_istore_n (pc := 6) (lv' := [(3, .int (iI 0)), (2, .int (iI a0_row)), (0, .ref a0), (1, .ref a1)]) ok dX4_itemAtColumn_6 rfl (by decide) rfl ?_
  refine j_lv [2, 3, 1, 0] rfl ?_
  refine l_X4_itemAtColumn_7 ha1 ok fin (fun z4 h => ?_) fuel _ _ _ h
  · refine j_iload_n (pc := 53) 0 ok dX4_itemAtColumn_53 rfl rfl ?_
    obtain rfl := Option.some.inj h
    exact fin _ 54 dX4_itemAtColumn_54
def f_X4_upwards (a0_belowsF : (Nat → Int)) (x1 : Int) : Option (Int) := bd (f_X4_below a0_belowsF x1) (fun r1 => some (((-1)) - r1))
set_option maxRecDepth 100000 in
set_option maxHeartbeats 4000000 in
theorem k_X4_upwards {D : va_G} {cs : q_CS} {a0 a0_widths a0_aboves a0_belows : Nat} {a0_row a0_column a0_height : Int} {a0_belowsF : (Nat → Int)} {x1 : Int} {r : (Int)} (h : f_X4_upwards a0_belowsF x1 = some r) : q_M D cs yX4_upwards cX4_upwards 2 (some .int) 1 21 [.ref a0, .int (iI x1)] [(a0, .inr (4, [.ref a0_widths, .ref a0_aboves, .ref a0_belows, .int (iI a0_row), .int (iI a0_column), .int (iI a0_height)])), (a0_belows, .inl (cs.1, 181, .inl (aI a0_belowsF)))] (some (.int (iI r))) [(a0, .inr (4, [.ref a0_widths, .ref a0_aboves, .ref a0_belows, .int (iI a0_row), .int (iI a0_column), .int (iI a0_height)])), (a0_belows, .inl (cs.1, 181, .inl (aI a0_belowsF)))] := by
  refine q_start_i [(0, .ref a0), (1, .int (iI x1))] RX4 rfl (by decide +kernel) rfl (Nat.le_of_ble_eq_true rfl) rfl (fun κ ok fin => ?_)
  unfold f_X4_upwards at h
  refine j_iconst (pc := 0) ok dX4_upwards_0 ?_
  refine j_aload_n (pc := 1) 0 ok dX4_upwards_1 rfl rfl ?_
  refine j_iload_n (pc := 2) 1 ok dX4_upwards_2 rfl rfl ?_
  obtain ⟨r1, hr1, h⟩ := bd_inv h
  refine j_callV (pc := 3) ok (k_X4_below (a0 := a0) (a0_widths := a0_widths) (a0_aboves := a0_aboves) (a0_belows := a0_belows) (a0_row := a0_row) (a0_column := a0_column) (a0_height := a0_height) (a0_belowsF := a0_belowsF) (x1 := x1) hr1) gV_X4_25 ⟨rfl, hd_X4_below⟩ [0, 1] (by decide) rfl rfl 0 rfl rfl rfl rfl ⟨Nat.zero_le _, Nat.zero_le _⟩ (Nat.le_of_ble_eq_true rfl) dX4_upwards_3 rfl [(a0, .inr (4, [.ref a0_widths, .ref a0_aboves, .ref a0_belows, .int (iI a0_row), .int (iI a0_column), .int (iI a0_height)])), (a0_belows, .inl (cs.1, 181, .inl (aI a0_belowsF)))] rfl ?_
  refine j_isub (pc := 6) ok dX4_upwards_6 ?_
  obtain rfl := Option.some.inj h
  exact fin _ 7 dX4_upwards_7
def f_X4_downwards (a0_abovesF : (Nat → Int)) (x1 : Int) : Option (Int) := bd (f_X4_above a0_abovesF x1) (fun r1 => some (1 + r1))
set_option maxRecDepth 100000 in
set_option maxHeartbeats 4000000 in
theorem k_X4_downwards {D : va_G} {cs : q_CS} {a0 a0_widths a0_aboves a0_belows : Nat} {a0_row a0_column a0_height : Int} {a0_abovesF : (Nat → Int)} {x1 : Int} {r : (Int)} (h : f_X4_downwards a0_abovesF x1 = some r) : q_M D cs yX4_downwards cX4_downwards 2 (some .int) 1 21 [.ref a0, .int (iI x1)] [(a0, .inr (4, [.ref a0_widths, .ref a0_aboves, .ref a0_belows, .int (iI a0_row), .int (iI a0_column), .int (iI a0_height)])), (a0_aboves, .inl (cs.1, 181, .inl (aI a0_abovesF)))] (some (.int (iI r))) [(a0, .inr (4, [.ref a0_widths, .ref a0_aboves, .ref a0_belows, .int (iI a0_row), .int (iI a0_column), .int (iI a0_height)])), (a0_aboves, .inl (cs.1, 181, .inl (aI a0_abovesF)))] := by
  refine q_start_i [(0, .ref a0), (1, .int (iI x1))] RX4 rfl (by decide +kernel) rfl (Nat.le_of_ble_eq_true rfl) rfl (fun κ ok fin => ?_)
  unfold f_X4_downwards at h
  refine j_iconst (pc := 0) ok dX4_downwards_0 ?_
  refine j_aload_n (pc := 1) 0 ok dX4_downwards_1 rfl rfl ?_
  refine j_iload_n (pc := 2) 1 ok dX4_downwards_2 rfl rfl ?_
  obtain ⟨r1, hr1, h⟩ := bd_inv h
  refine j_callV (pc := 3) ok (k_X4_above (a0 := a0) (a0_widths := a0_widths) (a0_aboves := a0_aboves) (a0_belows := a0_belows) (a0_row := a0_row) (a0_column := a0_column) (a0_height := a0_height) (a0_abovesF := a0_abovesF) (x1 := x1) hr1) gV_X4_21 ⟨rfl, hd_X4_above⟩ [0, 1] (by decide) rfl rfl 0 rfl rfl rfl rfl ⟨Nat.zero_le _, Nat.zero_le _⟩ (Nat.le_of_ble_eq_true rfl) dX4_downwards_3 rfl [(a0, .inr (4, [.ref a0_widths, .ref a0_aboves, .ref a0_belows, .int (iI a0_row), .int (iI a0_column), .int (iI a0_height)])), (a0_aboves, .inl (cs.1, 181, .inl (aI a0_abovesF)))] rfl ?_
  refine j_iadd (pc := 6) ok dX4_downwards_6 ?_
  obtain rfl := Option.some.inj h
  exact fin _ 7 dX4_downwards_7
def f_X4_isBeside (a0_height : Int) (a0_abovesF : (Nat → Int)) (a0_belowsF : (Nat → Int)) (x1 : Int) : Option (Int) := bd (f_X4_above a0_abovesF x1) (fun r1 => jn (fun (z6 : Int) => gB z6 (some z6)) (fun k3 => jn (fun (z5 : Unit) => k3 0) (fun k2 => cLt a0_height (-r1) (k2 ()) (bd (f_X4_below a0_belowsF x1) (fun r4 => cLt r4 a0_height (k2 ()) (k3 1))))))
set_option maxRecDepth 100000 in
set_option maxHeartbeats 4000000 in
theorem k_X4_isBeside {D : va_G} {cs : q_CS} {a0 a0_widths a0_aboves a0_belows : Nat} {a0_row a0_column a0_height : Int} {a0_abovesF a0_belowsF : (Nat → Int)} {x1 : Int} {r : (Int)} (h : f_X4_isBeside a0_height a0_abovesF a0_belowsF x1 = some r) : q_M D cs yX4_isBeside cX4_isBeside 2 (some .boolean) 1 21 [.ref a0, .int (iI x1)] [(a0, .inr (4, [.ref a0_widths, .ref a0_aboves, .ref a0_belows, .int (iI a0_row), .int (iI a0_column), .int (iI a0_height)])), (a0_aboves, .inl (cs.1, 181, .inl (aI a0_abovesF))), (a0_belows, .inl (cs.1, 181, .inl (aI a0_belowsF)))] (some (.int (iI r))) [(a0, .inr (4, [.ref a0_widths, .ref a0_aboves, .ref a0_belows, .int (iI a0_row), .int (iI a0_column), .int (iI a0_height)])), (a0_aboves, .inl (cs.1, 181, .inl (aI a0_abovesF))), (a0_belows, .inl (cs.1, 181, .inl (aI a0_belowsF)))] := by
  refine q_start_z [(0, .ref a0), (1, .int (iI x1))] RX4 rfl (by decide +kernel) rfl (Nat.le_of_ble_eq_true rfl) (fun κ ok fin => ?_)
  unfold f_X4_isBeside at h
  refine j_aload_n (pc := 0) 0 ok dX4_isBeside_0 rfl rfl ?_
  refine gf_X4_82_4 (pc := 1) 0 ok rfl dX4_isBeside_1 ?_
  refine j_aload_n (pc := 4) 0 ok dX4_isBeside_4 rfl rfl ?_
  refine j_iload_n (pc := 5) 1 ok dX4_isBeside_5 rfl rfl ?_
  obtain ⟨r1, hr1, h⟩ := bd_inv h
  refine j_callV (pc := 6) ok (k_X4_above (a0 := a0) (a0_widths := a0_widths) (a0_aboves := a0_aboves) (a0_belows := a0_belows) (a0_row := a0_row) (a0_column := a0_column) (a0_height := a0_height) (a0_abovesF := a0_abovesF) (x1 := x1) hr1) gV_X4_21 ⟨rfl, hd_X4_above⟩ [0, 1] (by decide) rfl rfl 0 rfl rfl rfl rfl ⟨Nat.zero_le _, Nat.zero_le _⟩ (Nat.le_of_ble_eq_true rfl) dX4_isBeside_6 rfl [(a0, .inr (4, [.ref a0_widths, .ref a0_aboves, .ref a0_belows, .int (iI a0_row), .int (iI a0_column), .int (iI a0_height)])), (a0_aboves, .inl (cs.1, 181, .inl (aI a0_abovesF))), (a0_belows, .inl (cs.1, 181, .inl (aI a0_belowsF)))] rfl ?_
  refine j_ineg (pc := 9) ok dX4_isBeside_9 ?_
  refine jn_use (P := fun z6 => q_J D κ 2 0 0 [(a0, .inr (4, [.ref a0_widths, .ref a0_aboves, .ref a0_belows, .int (iI a0_row), .int (iI a0_column), .int (iI a0_height)])), (a0_aboves, .inl (cs.1, 181, .inl (aI a0_abovesF))), (a0_belows, .inl (cs.1, 181, .inl (aI a0_belowsF)))] [] 30 [.int (iI z6)]) h (fun z6 h => ?_) (fun k3 hk3 h => ?_)
  · obtain ⟨hbo, h⟩ := gB_inv h
    obtain rfl := Option.some.inj h
    exact fin _ 30 hbo dX4_isBeside_30
  · refine jn_use (P := fun z5 => q_J D κ 2 0 0 [(a0, .inr (4, [.ref a0_widths, .ref a0_aboves, .ref a0_belows, .int (iI a0_row), .int (iI a0_column), .int (iI a0_height)])), (a0_aboves, .inl (cs.1, 181, .inl (aI a0_abovesF))), (a0_belows, .inl (cs.1, 181, .inl (aI a0_belowsF)))] [] 29 []) h (fun z5 h => ?_) (fun k2 hk2 h => ?_)
    · refine j_iconst (pc := 29) ok dX4_isBeside_29 ?_
      exact hk3 0 h
    · refine j_icmp_lt (pc := 10) 29 ok dX4_isBeside_10 (by decide) h (fun h => ?_) (fun h => ?_)
      · refine j_lv [] rfl ?_
        exact hk2 () h
      · refine j_aload_n (pc := 13) 0 ok dX4_isBeside_13 rfl rfl ?_
        refine gf_X4_82_4 (pc := 14) 0 ok rfl dX4_isBeside_14 ?_
        refine j_aload_n (pc := 17) 0 ok dX4_isBeside_17 rfl rfl ?_
        refine j_iload_n (pc := 18) 1 ok dX4_isBeside_18 rfl rfl ?_
        obtain ⟨r4, hr4, h⟩ := bd_inv h
        refine j_callV (pc := 19) ok (k_X4_below (a0 := a0) (a0_widths := a0_widths) (a0_aboves := a0_aboves) (a0_belows := a0_belows) (a0_row := a0_row) (a0_column := a0_column) (a0_height := a0_height) (a0_belowsF := a0_belowsF) (x1 := x1) hr4) gV_X4_25 ⟨rfl, hd_X4_below⟩ [0, 2] (by decide) rfl rfl 0 rfl rfl rfl rfl ⟨Nat.zero_le _, Nat.zero_le _⟩ (Nat.le_of_ble_eq_true rfl) dX4_isBeside_19 rfl [(a0, .inr (4, [.ref a0_widths, .ref a0_aboves, .ref a0_belows, .int (iI a0_row), .int (iI a0_column), .int (iI a0_height)])), (a0_aboves, .inl (cs.1, 181, .inl (aI a0_abovesF))), (a0_belows, .inl (cs.1, 181, .inl (aI a0_belowsF)))] rfl ?_
        refine j_icmp_gt (pc := 22) 29 ok dX4_isBeside_22 (by decide) h (fun h => ?_) (fun h => ?_)
        · refine j_lv [] rfl ?_
          exact hk2 () h
        · refine j_iconst (pc := 25) ok dX4_isBeside_25 ?_
          refine j_goto (pc := 26) 30 ok dX4_isBeside_26 (by decide) ?_
          refine j_lv [] rfl ?_
          exact hk3 1 h
