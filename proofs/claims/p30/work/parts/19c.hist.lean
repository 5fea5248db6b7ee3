/-! the constructor of the history: a loop that makes fourteen formulas -/
def q_rg (cs : q_CS) (Q M0 : Nat → Nat) (i : Nat) : va_W := (List.range i).flatMap (fun k => [(Q k, .inr (0, [.ref (M0 k), .int (iI 0), .int (iI 0), .int (iI 0)])), (M0 k, .inl (cs.1, 180, .inl (aI (fun _ => 0))))])
theorem q_rg_14 (cs : q_CS) (Q M0 : Nat → Nat) : q_rg cs Q M0 14 = q_ring cs Q M0 (fun _ => 0) (fun _ => 0) (fun _ => 0) (fun _ _ => 0) := rfl
theorem q_fm {α : Type} {f g : Nat → List α} : ∀ (l : List Nat), (∀ k ∈ l, f k = g k) → l.flatMap f = l.flatMap g
  | [], _ => rfl
  | k :: l, h => by
    rw [List.flatMap_cons, List.flatMap_cons, h k List.mem_cons_self, q_fm l (fun j hj => h j (List.mem_cons_of_mem _ hj))]
theorem q_rg_s (cs : q_CS) (Q M0 : Nat → Nat) (i q a : Nat) : q_rg cs (va_up Q i q) (va_up M0 i a) (i + 1) = q_rg cs Q M0 i ++ [(q, .inr (0, [.ref a, .int (iI 0), .int (iI 0), .int (iI 0)])), (a, .inl (cs.1, 180, .inl (aI (fun _ => 0))))] := by
  unfold q_rg
  rw [List.range_succ, List.flatMap_append]
  congr 1
  · refine q_fm _ (fun k hk => ?_)
    have hk := List.mem_range.mp hk
    rw [vup_ne (show k ≠ i by omega), vup_ne (show k ≠ i by omega)]
  · simp [va_up]
section QHL
variable {D : va_G} {cs : q_CS} {κ : q_X} {h ra : Nat}
set_option maxRecDepth 100000 in
theorem hist_loop (ok : q_ok D cs κ cX1_init 2 RX1 (q_rk 3 61 29 2590)) (kc : q_kc κ) (fin : ∀ (Q M0 : Nat → Nat) (f : Nat → Option Nat) (lv : List (Nat × Value)), (∀ j, j < 14 → f j = some (Q j)) → q_J D κ 2 29 2590 ([(h, .inr (1, [.ref ra, .int (iI 0), .int (iI 0)])), (ra, .inl (cs.2.2.1, 14, .inr (.inr (.inr (.inr f)))))] ++ q_rg cs Q M0 14) lv 43 []) : ∀ (k i : Nat) (Q M0 : Nat → Nat) (f : Nat → Option Nat), i + k = 14 → (∀ j, j < i → f j = some (Q j)) → q_J D κ 2 (1 + 2 * i) (14 + 184 * i) ([(h, .inr (1, [.ref ra, .int (iI 0), .int (iI 0)])), (ra, .inl (cs.2.2.1, 14, .inr (.inr (.inr (.inr f)))))] ++ q_rg cs Q M0 i) [(1, .int (iI (i : Int))), (0, .ref h)] 15 [] := by
  intro k
  induction k with
  | zero =>
    intro i Q M0 f hik hf
    have hi : i = 14 := by omega
    subst hi
    refine j_iload_n (pc := 15) 0 ok dX1_init_15 rfl rfl ?_
    refine j_aload_n (pc := 16) 1 ok dX1_init_16 rfl rfl ?_
    refine gf_X1_11_1 (pc := 17) 0 ok rfl dX1_init_17 ?_
    refine j_alen (pc := 20) 1 2 ok rfl rfl dX1_init_20 ?_
    refine j_icmp_ge (pc := 21) (ρ := Unit) (r := ()) (A := some ()) (B := none) 43 ok dX1_init_21 (by decide) (z_lt_f (by omega)) (fun _ => ?_) (fun h => by cases h)
    exact fin Q M0 f _ hf
  | succ k ih =>
    intro i Q M0 f hik hf
    refine j_iload_n (pc := 15) 0 ok dX1_init_15 rfl rfl ?_
    refine j_aload_n (pc := 16) 1 ok dX1_init_16 rfl rfl ?_
    refine gf_X1_11_1 (pc := 17) 0 ok rfl dX1_init_17 ?_
    refine j_alen (pc := 20) 1 2 ok rfl rfl dX1_init_20 ?_
    refine j_icmp_ge (pc := 21) (ρ := Unit) (r := ()) (A := none) (B := some ()) 43 ok dX1_init_21 (by decide) (z_lt_t (by omega)) (fun h => by cases h) (fun _ => ?_)
    refine j_aload_n (pc := 24) 1 ok dX1_init_24 rfl rfl ?_
    refine gf_X1_11_1 (pc := 25) 0 ok rfl dX1_init_25 ?_
    refine j_iload_n (pc := 28) 0 ok dX1_init_28 rfl rfl ?_
    refine j_newG (pc := 29) (index := 9) (ci := 0) (C := RX0) (T := TX0) (N := 4) (fs := [.null, .int (iI 0), .int (iI 0), .int (iI 0)]) tyX0 ok inT_X0 tyX0_ok (q_in 128 (by decide +kernel) (by decide +kernel)) (q_in 71 (by decide +kernel) (by decide +kernel)) (q_in 48 (by decide +kernel) (by decide +kernel)) rfl dv_X0 ⟨by show _ ≤ 29; omega, by show _ ≤ 2590; omega⟩ dX1_init_29 (fun q => ?_)
    refine j_dup (pc := 32) ok dX1_init_32 rfl ?_
    refine j_callIG (pc := 33) (wr := [(h, .inr (1, [.ref ra, .int (iI 0), .int (iI 0)])), (ra, .inl (cs.2.2.1, 14, .inr (.inr (.inr (.inr f)))))]) ok kc.ao (k_X0_init (h := q)) gk_X0_init jk_X0_init (q_in 130 (by decide +kernel) (by decide +kernel)) ik_X0_init rfl hk_X0_init [2] [0, 1] (by decide) rfl rfl (by decide) (by decide) rfl rfl ⟨by show _ ≤ 29; omega, by show _ ≤ 2590; omega⟩ (Nat.le_of_ble_eq_true rfl) dX1_init_33 rfl (fun w1 hw1 => ?_)
    obtain ⟨a, rfl⟩ := hw1
    refine j_aast (pc := 36) (vs := [.ref a, .int (iI 0), .int (iI 0), .int (iI 0)]) 1 2 ok rfl rfl ⟨by omega, by omega⟩ dX1_init_36 ?_
    refine j_iinc (pc := 37) (lv' := [(1, .int (iI ((i : Int) + 1))), (0, .ref h)]) 0 ok dX1_init_37 rfl (by decide) rfl ?_
    refine j_goto (pc := 40) 15 ok dX1_init_40 (by decide) ?_
    refine j_eqW (cl2 := 1 + 2 * (i + 1)) (sl2 := 14 + 184 * (i + 1)) (ws2 := ([(h, .inr (1, [.ref ra, .int (iI 0), .int (iI 0)])), (ra, .inl (cs.2.2.1, 14, .inr (.inr (.inr (.inr (va_up f i (some q)))))))] ++ [(q, .inr (0, [.ref a, .int (iI 0), .int (iI 0), .int (iI 0)])), (a, .inl (cs.1, 180, .inl (aI (fun _ => 0))))]) ++ q_rg cs Q M0 i) (by omega) (by omega) (by rw [Int.toNat_natCast]; rfl) ?_
    refine j_perm (q_pr1 _ _ _) ?_
    rw [List.append_assoc, ← q_rg_s]
    have e : (i : Int) + 1 = ((i + 1 : Nat) : Int) := by omega
    rw [e]
    refine ih (i + 1) _ _ _ (by omega) (fun j hj => ?_)
    by_cases hji : j = i
    · subst hji
      rw [vup_eq, vup_eq]
    · rw [vup_ne hji, vup_ne hji]
      exact hf j (by omega)
end QHL
set_option maxRecDepth 100000 in
theorem k_X1_init {D : va_G} {cs : q_CS} {h : Nat} : q_Mk D cs yX1_init cX1_init 2 3 61 29 2590 [.ref h] [(h, .inr (1, [.null, .int (iI 0), .int (iI 0)]))] (fun w1 => ∃ (ra : Nat) (rQ rM : Nat → Nat), w1 = [(h, .inr (1, [.ref ra, .int (iI 0), .int (iI 0)])), (ra, .inl (cs.2.2.1, 14, .inr (.inr (.inr (.inr (fun j => some (rQ j)))))))] ++ q_ring cs rQ rM (fun _ => 0) (fun _ => 0) (fun _ => 0) (fun _ _ => 0)) := by
  refine q_startk [(0, .ref h)] RX1 rfl (by decide +kernel) rfl rfl (Nat.le_of_ble_eq_true rfl) (fun κ ok kc fin => ?_)
  refine j_aload_n (pc := 0) 0 ok dX1_init_0 rfl rfl ?_
  refine j_objInit (pc := 1) ok (q_in 127 (by decide +kernel) (by decide +kernel)) (q_in 68 (by decide +kernel) (by decide +kernel)) (q_in 69 (by decide +kernel) (by decide +kernel)) dX1_init_1 ⟨Nat.le_of_ble_eq_true rfl, Nat.le_of_ble_eq_true rfl⟩ ?_
  refine j_aload_n (pc := 4) 0 ok dX1_init_4 rfl rfl ?_
  refine j_bipush (pc := 5) ok dX1_init_5 (by decide) ?_
  refine j_newQ (pc := 7) (N := 14) ok kc (q_in 128 (by decide +kernel) (by decide +kernel)) rfl (by decide) ⟨Nat.le_of_ble_eq_true rfl, Nat.le_of_ble_eq_true rfl⟩ dX1_init_7 (fun ra => ?_)
  refine j_putF (pc := 10) (ref := "FormulaEditor$History") (ty := tyX1 0) (C := RX1) (T := TX1) (N := 3) 0 0 tyX1 ok kc rfl rfl inT_X1 tyX1_ok nmX1 (by decide) (q_in 131 (by decide +kernel) (by decide +kernel)) rfl rfl rfl (by decide +kernel) rfl rfl (Nat.le_of_ble_eq_true rfl) dX1_init_10 ([(h, .inr (1, [.ref ra, .int (iI 0), .int (iI 0)])), (ra, .inl (cs.2.2.1, 14, .inr (.inr (.inr (.inr (fun _ => none))))))] ++ q_rg cs (fun _ => 0) (fun _ => 0) 0) rfl ?_
  refine j_iconst (pc := 13) ok dX1_init_13 ?_
  refine j_istore_n (pc := 14) (lv' := [(1, .int (iI 0)), (0, .ref h)]) ok dX1_init_14 rfl (by decide) rfl ?_
  refine hist_loop ok kc (fun Q M0 f lv hf => ?_) 14 0 _ _ _ rfl (fun j hj => by omega)
  refine j_ringc (wa := [(h, .inr (1, [.ref ra, .int (iI 0), .int (iI 0)]))]) (wb := q_rg cs Q M0 14) (g := fun j => some (Q j)) hf ?_
  exact fin _ _ 43 ⟨ra, Q, M0, rfl⟩ dX1_init_43
