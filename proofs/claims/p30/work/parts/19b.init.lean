/-! the constructors (written by wip/whole/gen18.py) -/
theorem dv_X0 : ∀ j, j < 4 → defaultValue (tyX0 j) = vp_V [.null, .int (iI 0), .int (iI 0), .int (iI 0)] j := by
  intro j hj
  match j, hj with
  | 0, _ => rfl
  | 1, _ => rfl
  | 2, _ => rfl
  | 3, _ => rfl
  | k + 4, h => exact absurd h (by omega)
theorem dv_X1 : ∀ j, j < 3 → defaultValue (tyX1 j) = vp_V [.null, .int (iI 0), .int (iI 0)] j := by
  intro j hj
  match j, hj with
  | 0, _ => rfl
  | 1, _ => rfl
  | 2, _ => rfl
  | k + 3, h => exact absurd h (by omega)
theorem dv_X2 : ∀ j, j < 2 → defaultValue (tyX2 j) = vp_V [.null, .int (iI 0)] j := by
  intro j hj
  match j, hj with
  | 0, _ => rfl
  | 1, _ => rfl
  | k + 2, h => exact absurd h (by omega)
theorem dv_X3 : ∀ j, j < 2 → defaultValue (tyX3 j) = vp_V [.null, .int (iI 0)] j := by
  intro j hj
  match j, hj with
  | 0, _ => rfl
  | 1, _ => rfl
  | k + 2, h => exact absurd h (by omega)
theorem dv_X4 : ∀ j, j < 6 → defaultValue (tyX4 j) = vp_V [.null, .null, .null, .int (iI 0), .int (iI 0), .int (iI 0)] j := by
  intro j hj
  match j, hj with
  | 0, _ => rfl
  | 1, _ => rfl
  | 2, _ => rfl
  | 3, _ => rfl
  | 4, _ => rfl
  | 5, _ => rfl
  | k + 6, h => exact absurd h (by omega)
theorem dv_X5 : ∀ j, j < 13 → defaultValue (tyX5 j) = vp_V [.null, .int (iI 0), .null, .null, .int (iI 0), .int (iI 0), .int (iI 0), .int (iI 0), .int (iI 0), .int (iI 0), .int (iI 0), .int (iI 0), .int (iI 0)] j := by
  intro j hj
  match j, hj with
  | 0, _ => rfl
  | 1, _ => rfl
  | 2, _ => rfl
  | 3, _ => rfl
  | 4, _ => rfl
  | 5, _ => rfl
  | 6, _ => rfl
  | 7, _ => rfl
  | 8, _ => rfl
  | 9, _ => rfl
  | 10, _ => rfl
  | 11, _ => rfl
  | 12, _ => rfl
  | k + 13, h => exact absurd h (by omega)
theorem dv_X6 : ∀ j, j < 3 → defaultValue (tyX6 j) = vp_V [.null, .int (iI 0), .null] j := by
  intro j hj
  match j, hj with
  | 0, _ => rfl
  | 1, _ => rfl
  | 2, _ => rfl
  | k + 3, h => exact absurd h (by omega)
theorem dv_X7 : ∀ j, j < 9 → defaultValue (tyX7 j) = vp_V [.null, .null, .null, .null, .null, .null, .null, .null, .null] j := by
  intro j hj
  match j, hj with
  | 0, _ => rfl
  | 1, _ => rfl
  | 2, _ => rfl
  | 3, _ => rfl
  | 4, _ => rfl
  | 5, _ => rfl
  | 6, _ => rfl
  | 7, _ => rfl
  | 8, _ => rfl
  | k + 9, h => exact absurd h (by omega)
theorem hk_X3_init : yX3_init.cls ≠ "java/lang/invoke/MethodHandle" ∧ yX3_init.cls ≠ "java/lang/invoke/VarHandle" ∧ (parseMethodDescriptor yX3_init.desc).map (fun d => d.parameters.length) = some 1 := by decide +kernel
theorem gk_X3_init : GoodIn q_tbl [.code yX3_init cX3_init 2 none] := q_ins [77] (by decide +kernel) (by decide +kernel)
theorem ik_X3_init : Cond.instanceMethod yX3_init ∈ q_tbl := (q_in 76 (by decide +kernel) (by decide +kernel))
theorem jk_X3_init : Cond.initialized yX3_init.cls ∈ q_tbl := (q_in 47 (by decide +kernel) (by decide +kernel))
set_option maxRecDepth 100000 in
set_option maxHeartbeats 4000000 in
theorem k_X3_init_X3 {D : va_G} {cs : q_CS} {h : Nat} {N : Nat} (hN : N ≤ 3000) : q_Mk D cs yX3_init cX3_init 2 1 20 1 N [.ref h, .int (iI (N : Int))] [(h, .inr (3, [.null, .int (iI 0)]))] (fun w1 => ∃ q1 : Nat, w1 = [(h, .inr (3, [.ref q1, .int (iI 0)])), (q1, .inl (cs.1, N, .inl (aI (fun _ => 0))))]) := by
  refine q_startk [(0, .ref h), (1, .int (iI (N : Int)))] RX3 rfl (by decide +kernel) rfl rfl (Nat.le_of_ble_eq_true rfl) (fun κ ok kc fin => ?_)
  refine j_aload_n (pc := 0) 0 ok dX3_init_0 rfl rfl ?_
  refine j_objInit (pc := 1) ok (q_in 78 (by decide +kernel) (by decide +kernel)) (q_in 68 (by decide +kernel) (by decide +kernel)) (q_in 69 (by decide +kernel) (by decide +kernel)) dX3_init_1 ⟨Nat.le_of_ble_eq_true rfl, Nat.le_of_ble_eq_true rfl⟩ ?_
  refine j_aload_n (pc := 4) 0 ok dX3_init_4 rfl rfl ?_
  refine j_iconst (pc := 5) ok dX3_init_5 ?_
  refine j_iload_n (pc := 6) 1 ok dX3_init_6 rfl rfl ?_
  refine j_maxw (pc := 7) (ρ := Unit) (r := ()) (B := some ()) ok (q_in 79 (by decide +kernel) (by decide +kernel)) (q_in 80 (by decide +kernel) (by decide +kernel)) (q_in 49 (by decide +kernel) (by decide +kernel)) (q_in 81 (by decide +kernel) (by decide +kernel)) (Nat.le_of_ble_eq_true rfl) (Nat.le_of_ble_eq_true rfl) (Nat.zero_le _) (Nat.zero_le _) dX3_init_7 (by rw [z_gR (by omega), z_gR (by omega)]) (fun _ => ?_)
  rw [show mxI 0 (N : Int) = (N : Int) by unfold mxI; split <;> omega]
  refine j_newI (pc := 10) (N := N) ok (q_in 105 (by decide +kernel) (by decide +kernel)) rfl hN ⟨Nat.le_of_ble_eq_true rfl, Nat.le_of_eq (Nat.zero_add N)⟩ dX3_init_10 (fun q1 => ?_)
  refine j_eqW rfl (Nat.zero_add N) (ws2 := [(h, .inr (3, [.null, .int (iI 0)])), (q1, .inl (cs.1, N, .inl (aI (fun _ => 0))))]) rfl ?_
  refine j_putF (pc := 12) (ref := "FormulaEditor$Marks") (ty := tyX3 0) (C := RX3) (T := TX3) (N := 2) 0 0 tyX3 ok kc rfl rfl inT_X3 tyX3_ok nmX3 (by decide) (q_in 86 (by decide +kernel) (by decide +kernel)) rfl rfl rfl (by decide +kernel) rfl rfl (Nat.le_of_ble_eq_true rfl) dX3_init_12 [(h, .inr (3, [.ref q1, .int (iI 0)])), (q1, .inl (cs.1, N, .inl (aI (fun _ => 0))))] rfl ?_
  exact fin _ _ 15 ⟨q1, rfl⟩ dX3_init_15
set_option maxRecDepth 100000 in
set_option maxHeartbeats 4000000 in
theorem k_X3_init_X0 {D : va_G} {cs : q_CS} {h : Nat} {N : Nat} (hN : N ≤ 3000) : q_Mk D cs yX3_init cX3_init 2 1 20 1 N [.ref h, .int (iI (N : Int))] [(h, .inr (0, [.null, .int (iI 0), .int (iI 0), .int (iI 0)]))] (fun w1 => ∃ q1 : Nat, w1 = [(h, .inr (0, [.ref q1, .int (iI 0), .int (iI 0), .int (iI 0)])), (q1, .inl (cs.1, N, .inl (aI (fun _ => 0))))]) := by
  refine q_startk [(0, .ref h), (1, .int (iI (N : Int)))] RX3 rfl (by decide +kernel) rfl rfl (Nat.le_of_ble_eq_true rfl) (fun κ ok kc fin => ?_)
  refine j_aload_n (pc := 0) 0 ok dX3_init_0 rfl rfl ?_
  refine j_objInit (pc := 1) ok (q_in 78 (by decide +kernel) (by decide +kernel)) (q_in 68 (by decide +kernel) (by decide +kernel)) (q_in 69 (by decide +kernel) (by decide +kernel)) dX3_init_1 ⟨Nat.le_of_ble_eq_true rfl, Nat.le_of_ble_eq_true rfl⟩ ?_
  refine j_aload_n (pc := 4) 0 ok dX3_init_4 rfl rfl ?_
  refine j_iconst (pc := 5) ok dX3_init_5 ?_
  refine j_iload_n (pc := 6) 1 ok dX3_init_6 rfl rfl ?_
  refine j_maxw (pc := 7) (ρ := Unit) (r := ()) (B := some ()) ok (q_in 79 (by decide +kernel) (by decide +kernel)) (q_in 80 (by decide +kernel) (by decide +kernel)) (q_in 49 (by decide +kernel) (by decide +kernel)) (q_in 81 (by decide +kernel) (by decide +kernel)) (Nat.le_of_ble_eq_true rfl) (Nat.le_of_ble_eq_true rfl) (Nat.zero_le _) (Nat.zero_le _) dX3_init_7 (by rw [z_gR (by omega), z_gR (by omega)]) (fun _ => ?_)
  rw [show mxI 0 (N : Int) = (N : Int) by unfold mxI; split <;> omega]
  refine j_newI (pc := 10) (N := N) ok (q_in 105 (by decide +kernel) (by decide +kernel)) rfl hN ⟨Nat.le_of_ble_eq_true rfl, Nat.le_of_eq (Nat.zero_add N)⟩ dX3_init_10 (fun q1 => ?_)
  refine j_eqW rfl (Nat.zero_add N) (ws2 := [(h, .inr (0, [.null, .int (iI 0), .int (iI 0), .int (iI 0)])), (q1, .inl (cs.1, N, .inl (aI (fun _ => 0))))]) rfl ?_
  refine j_putF (pc := 12) (ref := "FormulaEditor$Marks") (ty := tyX0 0) (C := RX0) (T := TX0) (N := 4) 0 0 tyX0 ok kc rfl rfl inT_X0 tyX0_ok nmX0 (by decide) (q_in 86 (by decide +kernel) (by decide +kernel)) rfl rfl rfl (by decide +kernel) rfl rfl (Nat.le_of_ble_eq_true rfl) dX3_init_12 [(h, .inr (0, [.ref q1, .int (iI 0), .int (iI 0), .int (iI 0)])), (q1, .inl (cs.1, N, .inl (aI (fun _ => 0))))] rfl ?_
  exact fin _ _ 15 ⟨q1, rfl⟩ dX3_init_15
theorem hk_X0_init : yX0_init.cls ≠ "java/lang/invoke/MethodHandle" ∧ yX0_init.cls ≠ "java/lang/invoke/VarHandle" ∧ (parseMethodDescriptor yX0_init.desc).map (fun d => d.parameters.length) = some 0 := by decide +kernel
theorem gk_X0_init : GoodIn q_tbl [.code yX0_init cX0_init 1 none] := q_ins [74] (by decide +kernel) (by decide +kernel)
theorem ik_X0_init : Cond.instanceMethod yX0_init ∈ q_tbl := (q_in 73 (by decide +kernel) (by decide +kernel))
theorem jk_X0_init : Cond.initialized yX0_init.cls ∈ q_tbl := (q_in 48 (by decide +kernel) (by decide +kernel))
set_option maxRecDepth 100000 in
set_option maxHeartbeats 4000000 in
theorem k_X0_init {D : va_G} {cs : q_CS} {h : Nat} : q_Mk D cs yX0_init cX0_init 1 2 41 1 180 [.ref h] [(h, .inr (0, [.null, .int (iI 0), .int (iI 0), .int (iI 0)]))] (fun w1 => ∃ q1 : Nat, w1 = [(h, .inr (0, [.ref q1, .int (iI 0), .int (iI 0), .int (iI 0)])), (q1, .inl (cs.1, 180, .inl (aI (fun _ => 0))))]) := by
  refine q_startk [(0, .ref h)] RX0 rfl (by decide +kernel) rfl rfl (Nat.le_of_ble_eq_true rfl) (fun κ ok kc fin => ?_)
  refine j_aload_n (pc := 0) 0 ok dX0_init_0 rfl rfl ?_
  refine j_sipush (pc := 1) ok dX0_init_1 (by decide) ?_
  refine j_callI (pc := 4) (wr := []) ok kc.ao (k_X3_init_X0 (h := h) (N := 180) (by decide)) gk_X3_init jk_X3_init (q_in 75 (by decide +kernel) (by decide +kernel)) ik_X3_init rfl hk_X3_init [0] [] (by decide) rfl rfl (by decide) (by decide) rfl rfl ⟨Nat.le_of_ble_eq_true rfl, Nat.le_of_ble_eq_true rfl⟩ (Nat.le_of_ble_eq_true rfl) dX0_init_4 rfl (fun w1 hw1 => ?_)
  obtain ⟨q1, rfl⟩ := hw1
  refine j_eqW rfl rfl (ws2 := [(h, .inr (0, [.ref q1, .int (iI 0), .int (iI 0), .int (iI 0)])), (q1, .inl (cs.1, 180, .inl (aI (fun _ => 0))))]) rfl ?_
  exact fin _ _ 7 ⟨q1, rfl⟩ dX0_init_7
theorem hk_X2_init : yX2_init.cls ≠ "java/lang/invoke/MethodHandle" ∧ yX2_init.cls ≠ "java/lang/invoke/VarHandle" ∧ (parseMethodDescriptor yX2_init.desc).map (fun d => d.parameters.length) = some 0 := by decide +kernel
theorem gk_X2_init : GoodIn q_tbl [.code yX2_init cX2_init 1 none] := q_ins [110] (by decide +kernel) (by decide +kernel)
theorem ik_X2_init : Cond.instanceMethod yX2_init ∈ q_tbl := (q_in 109 (by decide +kernel) (by decide +kernel))
theorem jk_X2_init : Cond.initialized yX2_init.cls ∈ q_tbl := (q_in 50 (by decide +kernel) (by decide +kernel))
set_option maxRecDepth 100000 in
set_option maxHeartbeats 4000000 in
theorem k_X2_init {D : va_G} {cs : q_CS} {h : Nat} : q_Mk D cs yX2_init cX2_init 1 3 61 2 184 [.ref h] [(h, .inr (2, [.null, .int (iI 0)]))] (fun w1 => ∃ q1 q2 : Nat, w1 = [(h, .inr (2, [.ref q1, .int (iI 0)])), (q1, .inr (0, [.ref q2, .int (iI 0), .int (iI 0), .int (iI 0)])), (q2, .inl (cs.1, 180, .inl (aI (fun _ => 0))))]) := by
  refine q_startk [(0, .ref h)] RX2 rfl (by decide +kernel) rfl rfl (Nat.le_of_ble_eq_true rfl) (fun κ ok kc fin => ?_)
  refine j_aload_n (pc := 0) 0 ok dX2_init_0 rfl rfl ?_
  refine j_objInit (pc := 1) ok (q_in 111 (by decide +kernel) (by decide +kernel)) (q_in 68 (by decide +kernel) (by decide +kernel)) (q_in 69 (by decide +kernel) (by decide +kernel)) dX2_init_1 ⟨Nat.le_of_ble_eq_true rfl, Nat.le_of_ble_eq_true rfl⟩ ?_
  refine j_aload_n (pc := 4) 0 ok dX2_init_4 rfl rfl ?_
  refine j_new (pc := 5) (index := 7) (ci := 0) (C := RX0) (T := TX0) (N := 4) (fs := [.null, .int (iI 0), .int (iI 0), .int (iI 0)]) tyX0 ok inT_X0 tyX0_ok (q_in 112 (by decide +kernel) (by decide +kernel)) (q_in 71 (by decide +kernel) (by decide +kernel)) (q_in 48 (by decide +kernel) (by decide +kernel)) rfl dv_X0 ⟨Nat.le_of_ble_eq_true rfl, Nat.le_of_ble_eq_true rfl⟩ dX2_init_5 (fun q1 => ?_)
  refine j_eqW rfl rfl (ws2 := [(h, .inr (2, [.null, .int (iI 0)])), (q1, .inr (0, [.null, .int (iI 0), .int (iI 0), .int (iI 0)]))]) rfl ?_
  refine j_dup (pc := 8) ok dX2_init_8 rfl ?_
  refine j_callI (pc := 9) (wr := [(h, .inr (2, [.null, .int (iI 0)]))]) ok kc.ao (k_X0_init (h := q1)) gk_X0_init jk_X0_init (q_in 113 (by decide +kernel) (by decide +kernel)) ik_X0_init rfl hk_X0_init [1] [0] (by decide) rfl rfl (by decide) (by decide) rfl rfl ⟨Nat.le_of_ble_eq_true rfl, Nat.le_of_ble_eq_true rfl⟩ (Nat.le_of_ble_eq_true rfl) dX2_init_9 rfl (fun w1 hw1 => ?_)
  obtain ⟨q2, rfl⟩ := hw1
  refine j_eqW rfl rfl (ws2 := [(h, .inr (2, [.null, .int (iI 0)])), (q1, .inr (0, [.ref q2, .int (iI 0), .int (iI 0), .int (iI 0)])), (q2, .inl (cs.1, 180, .inl (aI (fun _ => 0))))]) rfl ?_
  refine j_putF (pc := 12) (ref := "FormulaEditor$Keep") (ty := tyX2 0) (C := RX2) (T := TX2) (N := 2) 0 0 tyX2 ok kc rfl rfl inT_X2 tyX2_ok nmX2 (by decide) (q_in 114 (by decide +kernel) (by decide +kernel)) rfl rfl rfl (by decide +kernel) rfl rfl (Nat.le_of_ble_eq_true rfl) dX2_init_12 [(h, .inr (2, [.ref q1, .int (iI 0)])), (q1, .inr (0, [.ref q2, .int (iI 0), .int (iI 0), .int (iI 0)])), (q2, .inl (cs.1, 180, .inl (aI (fun _ => 0))))] rfl ?_
  exact fin _ _ 15 ⟨q1, q2, rfl⟩ dX2_init_15
theorem hk_X5_init : yX5_init.cls ≠ "java/lang/invoke/MethodHandle" ∧ yX5_init.cls ≠ "java/lang/invoke/VarHandle" ∧ (parseMethodDescriptor yX5_init.desc).map (fun d => d.parameters.length) = some 0 := by decide +kernel
theorem gk_X5_init : GoodIn q_tbl [.code yX5_init cX5_init 1 none] := q_ins [152] (by decide +kernel) (by decide +kernel)
theorem ik_X5_init : Cond.instanceMethod yX5_init ∈ q_tbl := (q_in 151 (by decide +kernel) (by decide +kernel))
theorem jk_X5_init : Cond.initialized yX5_init.cls ∈ q_tbl := (q_in 52 (by decide +kernel) (by decide +kernel))
set_option maxRecDepth 100000 in
set_option maxHeartbeats 4000000 in
theorem k_X5_init {D : va_G} {cs : q_CS} {h : Nat} : q_Mk D cs yX5_init cX5_init 1 2 41 4 1202 [.ref h] [(h, .inr (5, [.null, .int (iI 0), .null, .null, .int (iI 0), .int (iI 0), .int (iI 0), .int (iI 0), .int (iI 0), .int (iI 0), .int (iI 0), .int (iI 0), .int (iI 0)]))] (fun w1 => ∃ q1 q2 q3 q4 : Nat, w1 = [(h, .inr (5, [.ref q1, .int (iI 0), .ref q2, .ref q4, .int (iI 0), .int (iI 0), .int (iI 0), .int (iI 0), .int (iI 0), .int (iI 0), .int (iI 0), .int (iI 0), .int (iI 0)])), (q1, .inl (cs.1, 120, .inl (aI (fun _ => 0)))), (q2, .inr (3, [.ref q3, .int (iI 0)])), (q3, .inl (cs.1, 360, .inl (aI (fun _ => 0)))), (q4, .inl (cs.1, 720, .inl (aI (fun _ => 0))))]) := by
  refine q_startk [(0, .ref h)] RX5 rfl (by decide +kernel) rfl rfl (Nat.le_of_ble_eq_true rfl) (fun κ ok kc fin => ?_)
  refine j_aload_n (pc := 0) 0 ok dX5_init_0 rfl rfl ?_
  refine j_objInit (pc := 1) ok (q_in 153 (by decide +kernel) (by decide +kernel)) (q_in 68 (by decide +kernel) (by decide +kernel)) (q_in 69 (by decide +kernel) (by decide +kernel)) dX5_init_1 ⟨Nat.le_of_ble_eq_true rfl, Nat.le_of_ble_eq_true rfl⟩ ?_
  refine j_aload_n (pc := 4) 0 ok dX5_init_4 rfl rfl ?_
  refine j_bipush (pc := 5) ok dX5_init_5 (by decide) ?_
  refine j_newI (pc := 7) (N := 120) ok (q_in 105 (by decide +kernel) (by decide +kernel)) rfl (by decide) ⟨Nat.le_of_ble_eq_true rfl, Nat.le_of_ble_eq_true rfl⟩ dX5_init_7 (fun q1 => ?_)
  refine j_eqW rfl rfl (ws2 := [(h, .inr (5, [.null, .int (iI 0), .null, .null, .int (iI 0), .int (iI 0), .int (iI 0), .int (iI 0), .int (iI 0), .int (iI 0), .int (iI 0), .int (iI 0), .int (iI 0)])), (q1, .inl (cs.1, 120, .inl (aI (fun _ => 0))))]) rfl ?_
  refine j_putF (pc := 9) (ref := "FormulaEditor$Reader") (ty := tyX5 0) (C := RX5) (T := TX5) (N := 13) 0 0 tyX5 ok kc rfl rfl inT_X5 tyX5_ok nmX5 (by decide) (q_in 156 (by decide +kernel) (by decide +kernel)) rfl rfl rfl (by decide +kernel) rfl rfl (Nat.le_of_ble_eq_true rfl) dX5_init_9 [(h, .inr (5, [.ref q1, .int (iI 0), .null, .null, .int (iI 0), .int (iI 0), .int (iI 0), .int (iI 0), .int (iI 0), .int (iI 0), .int (iI 0), .int (iI 0), .int (iI 0)])), (q1, .inl (cs.1, 120, .inl (aI (fun _ => 0))))] rfl ?_
  refine j_aload_n (pc := 12) 0 ok dX5_init_12 rfl rfl ?_
  refine j_new (pc := 13) (index := 15) (ci := 3) (C := RX3) (T := TX3) (N := 2) (fs := [.null, .int (iI 0)]) tyX3 ok inT_X3 tyX3_ok (q_in 154 (by decide +kernel) (by decide +kernel)) (q_in 143 (by decide +kernel) (by decide +kernel)) (q_in 47 (by decide +kernel) (by decide +kernel)) rfl dv_X3 ⟨Nat.le_of_ble_eq_true rfl, Nat.le_of_ble_eq_true rfl⟩ dX5_init_13 (fun q2 => ?_)
  refine j_eqW rfl rfl (ws2 := [(h, .inr (5, [.ref q1, .int (iI 0), .null, .null, .int (iI 0), .int (iI 0), .int (iI 0), .int (iI 0), .int (iI 0), .int (iI 0), .int (iI 0), .int (iI 0), .int (iI 0)])), (q1, .inl (cs.1, 120, .inl (aI (fun _ => 0)))), (q2, .inr (3, [.null, .int (iI 0)]))]) rfl ?_
  refine j_dup (pc := 16) ok dX5_init_16 rfl ?_
  refine j_sipush (pc := 17) ok dX5_init_17 (by decide) ?_
  refine j_callI (pc := 20) (wr := [(h, .inr (5, [.ref q1, .int (iI 0), .null, .null, .int (iI 0), .int (iI 0), .int (iI 0), .int (iI 0), .int (iI 0), .int (iI 0), .int (iI 0), .int (iI 0), .int (iI 0)])), (q1, .inl (cs.1, 120, .inl (aI (fun _ => 0))))]) ok kc.ao (k_X3_init_X3 (h := q2) (N := 360) (by decide)) gk_X3_init jk_X3_init (q_in 155 (by decide +kernel) (by decide +kernel)) ik_X3_init rfl hk_X3_init [2] [0, 1] (by decide) rfl rfl (by decide) (by decide) rfl rfl ⟨Nat.le_of_ble_eq_true rfl, Nat.le_of_ble_eq_true rfl⟩ (Nat.le_of_ble_eq_true rfl) dX5_init_20 rfl (fun w1 hw1 => ?_)
  obtain ⟨q3, rfl⟩ := hw1
  refine j_eqW rfl rfl (ws2 := [(h, .inr (5, [.ref q1, .int (iI 0), .null, .null, .int (iI 0), .int (iI 0), .int (iI 0), .int (iI 0), .int (iI 0), .int (iI 0), .int (iI 0), .int (iI 0), .int (iI 0)])), (q1, .inl (cs.1, 120, .inl (aI (fun _ => 0)))), (q2, .inr (3, [.ref q3, .int (iI 0)])), (q3, .inl (cs.1, 360, .inl (aI (fun _ => 0))))]) rfl ?_
  refine j_putF (pc := 23) (ref := "FormulaEditor$Reader") (ty := tyX5 2) (C := RX5) (T := TX5) (N := 13) 0 2 tyX5 ok kc rfl rfl inT_X5 tyX5_ok nmX5 (by decide) (q_in 159 (by decide +kernel) (by decide +kernel)) rfl rfl rfl (by decide +kernel) rfl rfl (Nat.le_of_ble_eq_true rfl) dX5_init_23 [(h, .inr (5, [.ref q1, .int (iI 0), .ref q2, .null, .int (iI 0), .int (iI 0), .int (iI 0), .int (iI 0), .int (iI 0), .int (iI 0), .int (iI 0), .int (iI 0), .int (iI 0)])), (q1, .inl (cs.1, 120, .inl (aI (fun _ => 0)))), (q2, .inr (3, [.ref q3, .int (iI 0)])), (q3, .inl (cs.1, 360, .inl (aI (fun _ => 0))))] rfl ?_
  refine j_aload_n (pc := 26) 0 ok dX5_init_26 rfl rfl ?_
  refine j_sipush (pc := 27) ok dX5_init_27 (by decide) ?_
  refine j_newI (pc := 30) (N := 720) ok (q_in 105 (by decide +kernel) (by decide +kernel)) rfl (by decide) ⟨Nat.le_of_ble_eq_true rfl, Nat.le_of_ble_eq_true rfl⟩ dX5_init_30 (fun q4 => ?_)
  refine j_eqW rfl rfl (ws2 := [(h, .inr (5, [.ref q1, .int (iI 0), .ref q2, .null, .int (iI 0), .int (iI 0), .int (iI 0), .int (iI 0), .int (iI 0), .int (iI 0), .int (iI 0), .int (iI 0), .int (iI 0)])), (q1, .inl (cs.1, 120, .inl (aI (fun _ => 0)))), (q2, .inr (3, [.ref q3, .int (iI 0)])), (q3, .inl (cs.1, 360, .inl (aI (fun _ => 0)))), (q4, .inl (cs.1, 720, .inl (aI (fun _ => 0))))]) rfl ?_
  refine j_putF (pc := 32) (ref := "FormulaEditor$Reader") (ty := tyX5 3) (C := RX5) (T := TX5) (N := 13) 0 3 tyX5 ok kc rfl rfl inT_X5 tyX5_ok nmX5 (by decide) (q_in 161 (by decide +kernel) (by decide +kernel)) rfl rfl rfl (by decide +kernel) rfl rfl (Nat.le_of_ble_eq_true rfl) dX5_init_32 [(h, .inr (5, [.ref q1, .int (iI 0), .ref q2, .ref q4, .int (iI 0), .int (iI 0), .int (iI 0), .int (iI 0), .int (iI 0), .int (iI 0), .int (iI 0), .int (iI 0), .int (iI 0)])), (q1, .inl (cs.1, 120, .inl (aI (fun _ => 0)))), (q2, .inr (3, [.ref q3, .int (iI 0)])), (q3, .inl (cs.1, 360, .inl (aI (fun _ => 0)))), (q4, .inl (cs.1, 720, .inl (aI (fun _ => 0))))] rfl ?_
  exact fin _ _ 35 ⟨q1, q2, q3, q4, rfl⟩ dX5_init_35
theorem hk_X6_init : yX6_init.cls ≠ "java/lang/invoke/MethodHandle" ∧ yX6_init.cls ≠ "java/lang/invoke/VarHandle" ∧ (parseMethodDescriptor yX6_init.desc).map (fun d => d.parameters.length) = some 0 := by decide +kernel
theorem gk_X6_init : GoodIn q_tbl [.code yX6_init cX6_init 1 none] := q_ins [202] (by decide +kernel) (by decide +kernel)
theorem ik_X6_init : Cond.instanceMethod yX6_init ∈ q_tbl := (q_in 201 (by decide +kernel) (by decide +kernel))
theorem jk_X6_init : Cond.initialized yX6_init.cls ∈ q_tbl := (q_in 53 (by decide +kernel) (by decide +kernel))
set_option maxRecDepth 100000 in
set_option maxHeartbeats 4000000 in
theorem k_X6_init {D : va_G} {cs : q_CS} {h : Nat} : q_Mk D cs yX6_init cX6_init 1 1 20 2 306 [.ref h] [(h, .inr (6, [.null, .int (iI 0), .null]))] (fun w1 => ∃ q1 q2 : Nat, w1 = [(h, .inr (6, [.ref q1, .int (iI 0), .ref q2])), (q1, .inl (cs.1, 300, .inl (aI (fun _ => 0)))), (q2, .inl (cs.2.1, 6, .inl (aI (fun _ => 0))))]) := by
  refine q_startk [(0, .ref h)] RX6 rfl (by decide +kernel) rfl rfl (Nat.le_of_ble_eq_true rfl) (fun κ ok kc fin => ?_)
  refine j_aload_n (pc := 0) 0 ok dX6_init_0 rfl rfl ?_
  refine j_objInit (pc := 1) ok (q_in 203 (by decide +kernel) (by decide +kernel)) (q_in 68 (by decide +kernel) (by decide +kernel)) (q_in 69 (by decide +kernel) (by decide +kernel)) dX6_init_1 ⟨Nat.le_of_ble_eq_true rfl, Nat.le_of_ble_eq_true rfl⟩ ?_
  refine j_aload_n (pc := 4) 0 ok dX6_init_4 rfl rfl ?_
  refine j_sipush (pc := 5) ok dX6_init_5 (by decide) ?_
  refine j_newI (pc := 8) (N := 300) ok (q_in 105 (by decide +kernel) (by decide +kernel)) rfl (by decide) ⟨Nat.le_of_ble_eq_true rfl, Nat.le_of_ble_eq_true rfl⟩ dX6_init_8 (fun q1 => ?_)
  refine j_eqW rfl rfl (ws2 := [(h, .inr (6, [.null, .int (iI 0), .null])), (q1, .inl (cs.1, 300, .inl (aI (fun _ => 0))))]) rfl ?_
  refine j_putF (pc := 10) (ref := "FormulaEditor$Writer") (ty := tyX6 0) (C := RX6) (T := TX6) (N := 3) 0 0 tyX6 ok kc rfl rfl inT_X6 tyX6_ok nmX6 (by decide) (q_in 204 (by decide +kernel) (by decide +kernel)) rfl rfl rfl (by decide +kernel) rfl rfl (Nat.le_of_ble_eq_true rfl) dX6_init_10 [(h, .inr (6, [.ref q1, .int (iI 0), .null])), (q1, .inl (cs.1, 300, .inl (aI (fun _ => 0))))] rfl ?_
  refine j_aload_n (pc := 13) 0 ok dX6_init_13 rfl rfl ?_
  refine j_bipush (pc := 14) ok dX6_init_14 (by decide) ?_
  refine j_newZ (pc := 16) (N := 6) ok (q_in 215 (by decide +kernel) (by decide +kernel)) rfl (by decide) ⟨Nat.le_of_ble_eq_true rfl, Nat.le_of_ble_eq_true rfl⟩ dX6_init_16 (fun q2 => ?_)
  refine j_eqW rfl rfl (ws2 := [(h, .inr (6, [.ref q1, .int (iI 0), .null])), (q1, .inl (cs.1, 300, .inl (aI (fun _ => 0)))), (q2, .inl (cs.2.1, 6, .inl (aI (fun _ => 0))))]) rfl ?_
  refine j_putF (pc := 18) (ref := "FormulaEditor$Writer") (ty := tyX6 2) (C := RX6) (T := TX6) (N := 3) 0 2 tyX6 ok kc rfl rfl inT_X6 tyX6_ok nmX6 (by decide) (q_in 207 (by decide +kernel) (by decide +kernel)) rfl rfl rfl (by decide +kernel) rfl rfl (Nat.le_of_ble_eq_true rfl) dX6_init_18 [(h, .inr (6, [.ref q1, .int (iI 0), .ref q2])), (q1, .inl (cs.1, 300, .inl (aI (fun _ => 0)))), (q2, .inl (cs.2.1, 6, .inl (aI (fun _ => 0))))] rfl ?_
  exact fin _ _ 21 ⟨q1, q2, rfl⟩ dX6_init_21
theorem hk_X4_init : yX4_init.cls ≠ "java/lang/invoke/MethodHandle" ∧ yX4_init.cls ≠ "java/lang/invoke/VarHandle" ∧ (parseMethodDescriptor yX4_init.desc).map (fun d => d.parameters.length) = some 0 := by decide +kernel
theorem gk_X4_init : GoodIn q_tbl [.code yX4_init cX4_init 1 none] := q_ins [220] (by decide +kernel) (by decide +kernel)
theorem ik_X4_init : Cond.instanceMethod yX4_init ∈ q_tbl := (q_in 219 (by decide +kernel) (by decide +kernel))
theorem jk_X4_init : Cond.initialized yX4_init.cls ∈ q_tbl := (q_in 54 (by decide +kernel) (by decide +kernel))
set_option maxRecDepth 100000 in
set_option maxHeartbeats 4000000 in
theorem k_X4_init {D : va_G} {cs : q_CS} {h : Nat} : q_Mk D cs yX4_init cX4_init 1 1 20 3 543 [.ref h] [(h, .inr (4, [.null, .null, .null, .int (iI 0), .int (iI 0), .int (iI 0)]))] (fun w1 => ∃ q1 q2 q3 : Nat, w1 = [(h, .inr (4, [.ref q1, .ref q2, .ref q3, .int (iI 0), .int (iI 0), .int (iI 0)])), (q1, .inl (cs.1, 181, .inl (aI (fun _ => 0)))), (q2, .inl (cs.1, 181, .inl (aI (fun _ => 0)))), (q3, .inl (cs.1, 181, .inl (aI (fun _ => 0))))]) := by
  refine q_startk [(0, .ref h)] RX4 rfl (by decide +kernel) rfl rfl (Nat.le_of_ble_eq_true rfl) (fun κ ok kc fin => ?_)
  refine j_aload_n (pc := 0) 0 ok dX4_init_0 rfl rfl ?_
  refine j_objInit (pc := 1) ok (q_in 221 (by decide +kernel) (by decide +kernel)) (q_in 68 (by decide +kernel) (by decide +kernel)) (q_in 69 (by decide +kernel) (by decide +kernel)) dX4_init_1 ⟨Nat.le_of_ble_eq_true rfl, Nat.le_of_ble_eq_true rfl⟩ ?_
  refine j_aload_n (pc := 4) 0 ok dX4_init_4 rfl rfl ?_
  refine j_sipush (pc := 5) ok dX4_init_5 (by decide) ?_
  refine j_newI (pc := 8) (N := 181) ok (q_in 105 (by decide +kernel) (by decide +kernel)) rfl (by decide) ⟨Nat.le_of_ble_eq_true rfl, Nat.le_of_ble_eq_true rfl⟩ dX4_init_8 (fun q1 => ?_)
  refine j_eqW rfl rfl (ws2 := [(h, .inr (4, [.null, .null, .null, .int (iI 0), .int (iI 0), .int (iI 0)])), (q1, .inl (cs.1, 181, .inl (aI (fun _ => 0))))]) rfl ?_
  refine j_putF (pc := 10) (ref := "FormulaEditor$Picture") (ty := tyX4 0) (C := RX4) (T := TX4) (N := 6) 0 0 tyX4 ok kc rfl rfl inT_X4 tyX4_ok nmX4 (by decide) (q_in 222 (by decide +kernel) (by decide +kernel)) rfl rfl rfl (by decide +kernel) rfl rfl (Nat.le_of_ble_eq_true rfl) dX4_init_10 [(h, .inr (4, [.ref q1, .null, .null, .int (iI 0), .int (iI 0), .int (iI 0)])), (q1, .inl (cs.1, 181, .inl (aI (fun _ => 0))))] rfl ?_
  refine j_aload_n (pc := 13) 0 ok dX4_init_13 rfl rfl ?_
  refine j_sipush (pc := 14) ok dX4_init_14 (by decide) ?_
  refine j_newI (pc := 17) (N := 181) ok (q_in 105 (by decide +kernel) (by decide +kernel)) rfl (by decide) ⟨Nat.le_of_ble_eq_true rfl, Nat.le_of_ble_eq_true rfl⟩ dX4_init_17 (fun q2 => ?_)
  refine j_eqW rfl rfl (ws2 := [(h, .inr (4, [.ref q1, .null, .null, .int (iI 0), .int (iI 0), .int (iI 0)])), (q1, .inl (cs.1, 181, .inl (aI (fun _ => 0)))), (q2, .inl (cs.1, 181, .inl (aI (fun _ => 0))))]) rfl ?_
  refine j_putF (pc := 19) (ref := "FormulaEditor$Picture") (ty := tyX4 1) (C := RX4) (T := TX4) (N := 6) 0 1 tyX4 ok kc rfl rfl inT_X4 tyX4_ok nmX4 (by decide) (q_in 223 (by decide +kernel) (by decide +kernel)) rfl rfl rfl (by decide +kernel) rfl rfl (Nat.le_of_ble_eq_true rfl) dX4_init_19 [(h, .inr (4, [.ref q1, .ref q2, .null, .int (iI 0), .int (iI 0), .int (iI 0)])), (q1, .inl (cs.1, 181, .inl (aI (fun _ => 0)))), (q2, .inl (cs.1, 181, .inl (aI (fun _ => 0))))] rfl ?_
  refine j_aload_n (pc := 22) 0 ok dX4_init_22 rfl rfl ?_
  refine j_sipush (pc := 23) ok dX4_init_23 (by decide) ?_
  refine j_newI (pc := 26) (N := 181) ok (q_in 105 (by decide +kernel) (by decide +kernel)) rfl (by decide) ⟨Nat.le_of_ble_eq_true rfl, Nat.le_of_ble_eq_true rfl⟩ dX4_init_26 (fun q3 => ?_)
  refine j_eqW rfl rfl (ws2 := [(h, .inr (4, [.ref q1, .ref q2, .null, .int (iI 0), .int (iI 0), .int (iI 0)])), (q1, .inl (cs.1, 181, .inl (aI (fun _ => 0)))), (q2, .inl (cs.1, 181, .inl (aI (fun _ => 0)))), (q3, .inl (cs.1, 181, .inl (aI (fun _ => 0))))]) rfl ?_
  refine j_putF (pc := 28) (ref := "FormulaEditor$Picture") (ty := tyX4 2) (C := RX4) (T := TX4) (N := 6) 0 2 tyX4 ok kc rfl rfl inT_X4 tyX4_ok nmX4 (by decide) (q_in 224 (by decide +kernel) (by decide +kernel)) rfl rfl rfl (by decide +kernel) rfl rfl (Nat.le_of_ble_eq_true rfl) dX4_init_28 [(h, .inr (4, [.ref q1, .ref q2, .ref q3, .int (iI 0), .int (iI 0), .int (iI 0)])), (q1, .inl (cs.1, 181, .inl (aI (fun _ => 0)))), (q2, .inl (cs.1, 181, .inl (aI (fun _ => 0)))), (q3, .inl (cs.1, 181, .inl (aI (fun _ => 0))))] rfl ?_
  exact fin _ _ 31 ⟨q1, q2, q3, rfl⟩ dX4_init_31
