/-! p30: a cell of the script -/
theorem zand_p (a : Int) : 0 ≤ zand a 2147483647 := by
  unfold zand
  have h : (iI a &&& iI 2147483647).toBitVec.msb = false := by
    rw [Int32.toBitVec_and, BitVec.msb_and, show (iI 2147483647).toBitVec.msb = false by decide, Bool.and_false]
  show 0 ≤ (iI a &&& iI 2147483647).toBitVec.toInt
  rw [BitVec.toInt_eq_toNat_of_msb h]
  exact Int.natCast_nonneg _
def zcl9 (N : Nat) (F : Nat → Int) (k : Int) : Int := zand (if k < (N : Int) then F k.toNat else 15513877 * (k + 5) + 9767) 2147483647
theorem zcl9_r (N : Nat) (F : Nat → Int) (k : Int) : 0 ≤ zcl9 N F k ∧ zcl9 N F k ≤ 2147483647 := ⟨zand_p _, (zand_r _ _).2⟩
theorem k_L_cell {D : va_G} {cs : q_CS} {b N : Nat} {F : Nat → Int} {k : Int} (hk : 0 ≤ k ∧ k ≤ 1000) (hN : N ≤ 2048) : q_Mo D cs yL_cell cL_cell 2 (some .int) 1 20 0 0 [.ref b, .int (iI k)] [(b, .inl (cs.1, N, .inl (aI F)))] (some (.int (iI (zcl9 N F k)))) [(b, .inl (cs.1, N, .inl (aI F)))] := by
  refine q_starto_i [(0, .ref b), (1, .int (iI k))] RL rfl (by decide +kernel) rfl (Nat.le_of_ble_eq_true rfl) (fun κ ok kx fin => ?_)
  refine j_iload_n (pc := 0) 1 ok dL_cell_0 rfl rfl ?_
  refine j_aload_n (pc := 1) 0 ok dL_cell_1 rfl rfl ?_
  refine j_alen (pc := 2) 0 0 ok rfl rfl dL_cell_2 ?_
  have last : ∀ v : Int, zand v 2147483647 = zcl9 N F k → q_J D κ 2 0 0 [(b, .inl (cs.1, N, .inl (aI F)))] [(0, .ref b), (1, .int (iI k))] 22 [.int (iI v)] := by
    intro v hv
    refine j_ldcI (pc := 22) 2147483647 ok dL_cell_22 (q_in 807 (by decide +kernel) (by decide +kernel)) ?_
    refine j_iand (pc := 24) ok dL_cell_24 ?_
    rw [hv]
    exact fin _ _ _ 25 (Nat.le_refl _) (Nat.le_refl _) dL_cell_25
  by_cases h : k < (N : Int)
  · refine j_icmp_ge (ρ := Unit) (r := ()) (A := none) (B := some ()) (a := k) (b := (N : Int)) (pc := 3) 12 ok dL_cell_3 (by decide) (z_lt_t (by omega)) (fun h => by cases h) (fun _ => ?_)
    refine j_aload_n (pc := 6) 0 ok dL_cell_6 rfl rfl ?_
    refine j_iload_n (pc := 7) 1 ok dL_cell_7 rfl rfl ?_
    refine j_iald (ρ := Unit) (r := ()) (B := some ()) (pc := 8) 0 ok rfl dL_cell_8 (z_in (by omega)) (fun _ => ?_)
    refine j_goto (pc := 9) 22 ok dL_cell_9 (by decide) ?_
    exact last _ (by unfold zcl9; rw [if_pos h])
  · refine j_icmp_ge (ρ := Unit) (r := ()) (A := some ()) (B := none) (a := k) (b := (N : Int)) (pc := 3) 12 ok dL_cell_3 (by decide) (z_lt_f (by omega)) (fun _ => ?_) (fun h => by cases h)
    refine j_ldcI (pc := 12) 15513877 ok dL_cell_12 (q_in 806 (by decide +kernel) (by decide +kernel)) ?_
    refine j_iload_n (pc := 14) 1 ok dL_cell_14 rfl rfl ?_
    refine j_iconst (pc := 15) ok dL_cell_15 ?_
    refine j_iadd (pc := 16) ok dL_cell_16 ?_
    refine j_imul (pc := 17) ok dL_cell_17 ?_
    refine j_sipush (pc := 18) ok dL_cell_18 (by decide) ?_
    refine j_iadd (pc := 21) ok dL_cell_21 ?_
    exact last _ (by unfold zcl9; rw [if_neg h])
