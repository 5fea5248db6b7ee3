/-! wrapping -/
theorem zI.of {W A B : List Int} (e : A ++ B = W) (h1 : zbal W) (h2 : zcnt W ≤ 60) (h3 : zpk W ≤ 5) : zI A [] B := by
  subst e
  exact ⟨⟨h1, rfl⟩, h2, h3⟩
def zwE (k : Int) (B : List Int) : List Int := if k = 1 then 6 :: 11 :: B else (k + 10) :: B
def zwA (k : Int) (A S : List Int) : List Int := if S = [] then A ++ [k] else A ++ k :: (S ++ (if k = 1 then [6] else [k + 10]))
def zwB (k : Int) (S B : List Int) : List Int := if S = [] then zwE k B else (if k = 1 then 11 :: B else B)
theorem zwAB (k : Int) (A S B : List Int) : zwA k A S ++ zwB k S B = A ++ k :: (S ++ zwE k B) := by
  unfold zwA zwB zwE
  split
  · rename_i h; subst h; simp
  · split <;> simp
theorem zI.wrap {A S B : List Int} {k : Int} (h : zI A S B) (hk : 1 ≤ k ∧ k ≤ 5) (hl : zcnt (A ++ (S ++ B)) < 60) (hd : zlv A + 1 + zpk S ≤ 5) : zI (zwA k A S) [] (zwB k S B) := by
  obtain ⟨s, h1, h2⟩ := zrun_app_inv h.1.1
  refine zI.of (zwAB k A S B) ?_ ?_ ?_
  · rw [zbal, zrun_app_s h1, zrun_cons (zst_opn hk), zrun_app_s (zbal_over _ h.1.2)]
    unfold zwE
    split
    · rename_i e; subst e
      rw [zrun_cons zst_mid, zrun_cons (zst_cls (Or.inl ⟨rfl, rfl⟩))]; exact h2
    · rw [zrun_cons (zst_cls (Or.inr ⟨by omega, by omega, by omega⟩))]; exact h2
  · have e1 : zsi 6 = false := by decide
    have e2 : zsi 11 = false := by decide
    have e3 : zsi (k + 10) = false := by simp only [zsi, decide_eq_false_iff_not]; omega
    have e4 : zcnt (zwE k B) = zcnt B := by
      unfold zwE
      split
      · simp [zcnt, e1, e2]
      · simp [zcnt, e3]
    simp only [zcnt_app, zcnt, e4] at hl ⊢
    split <;> omega
  · have h3 := h.2.2
    have e2 := zlv_bal h.1.2
    have b0 := zpk_0 B
    have a1 := mx_s (zpk A) (zlv A + mxI (zpk S) (zlv S + zpk B))
    have a2 := mx_s (zpk S) (zlv S + zpk B)
    have a3 := zpk_lv A
    have a4 := zpk_0 S
    have a5 := zpk_0 A
    simp only [zpk_app] at h3
    have key : zpk (zwE k B) ≤ mxI 0 (zpk B - 1) := by
      have c1 := mx_s 0 (zpk B - 1)
      unfold zwE
      split
      · simp only [zpk_cons, zop_6, zop_cl (m := 11) (by omega)]
        have c2 := mx_s 0 (-1 + zpk B)
        have c3 := mx_s 0 (0 + mxI 0 (-1 + zpk B))
        omega
      · simp only [zpk_cons, zop_cl (m := k + 10) (by omega)]
        have c2 := mx_s 0 (-1 + zpk B)
        omega
    have c1 := mx_s 0 (zpk B - 1)
    simp only [zpk_app, zpk_cons, zop_op hk]
    have d1 := mx_s (zpk S) (zlv S + zpk (zwE k B))
    have d2 := mx_s 0 (1 + mxI (zpk S) (zlv S + zpk (zwE k B)))
    have d3 := mx_s (zpk A) (zlv A + mxI 0 (1 + mxI (zpk S) (zlv S + zpk (zwE k B))))
    omega
def zwc (A S B : List Int) : Bool := decide (zcnt (A ++ (S ++ B)) < 60 ∧ zlv A + 1 + zpk S ≤ 5)
theorem c_canStr {n ca fr : Int} {F : Nat → Int} {A S B : List Int} (hI : zI A S B) (hC : zCs n ca fr F A S B) : f_X0_canHoldStructure n ca fr F = some (zbi (zwc A S B)) := by
  have hv := hI.lv
  have hp := zpk_0 S
  have hcn := hI.2.1
  have e1 := c_count hC.1 (A := A) (S := S) (B := B) rfl hC.2.2 hC.2.1
  have e2 := c_depth hC.1 (A := A) (S := S) (B := B) rfl hC.2.2 hC.2.1
  have e3 : zcnt S ≤ zcnt (A ++ (S ++ B)) := by simp only [zcnt_app]; omega
  have e5 : zcnt (A ++ B) + zcnt S = zcnt (A ++ (S ++ B)) := by simp only [zcnt_app]; omega
  unfold f_X0_canHoldStructure
  rw [e1, z_bd, e2, z_bd, c_ch hI hC (by unfold zpk at hp hv; omega), z_bd]
  unfold zwc
  have e4 : decide ((zcnt (A ++ B) : Int) + (1 + (zcnt S : Int)) ≤ 60 ∧ zlv A + (1 + zmx 0 0 S) ≤ 5) = decide (zcnt (A ++ (S ++ B)) < 60 ∧ zlv A + 1 + zpk S ≤ 5) := by
    refine decide_eq_decide.mpr ?_
    unfold zpk
    omega
  rw [e4]
  cases decide (zcnt (A ++ (S ++ B)) < 60 ∧ zlv A + 1 + zpk S ≤ 5) <;> rfl
theorem c_enclose {n ca fr k : Int} {F : Nat → Int} {A S B : List Int} (hI : zI A S B) (hC : zCs n ca fr F A S B) (hk : 1 ≤ k ∧ k ≤ 5) (hw : zwc A S B = true) : ∃ n' ca' G, f_X0_enclose n ca fr F k = some (n', ca', ca', G) ∧ zCs n' ca' ca' G (zwA k A S) [] (zwB k S B) := by
  have hw' := of_decide_eq_true hw
  have hI' := hI.wrap hk hw'.1 hw'.2
  have hN := hI'.len
  have hN2 : (A ++ k :: (S ++ zwE k B)).length ≤ 180 := by
    rw [← zwAB]; simp at hN ⊢; omega
  simp only [List.length_append, List.length_cons] at hN2
  obtain ⟨h1, h2, h3⟩ := hC
  have h180 := h1.1
  simp only [List.length_append] at h180
  have hs : f_X0_hasSelection ca fr = some (zbi (decide (S ≠ []))) := by
    unfold f_X0_hasSelection
    by_cases hS : S = []
    · subst hS
      simp only [List.length_nil] at h2
      simp (disch := omega) only [z_jn, z_lt_f, z_gB]
      rfl
    · have : 0 < S.length := List.length_pos_iff.mpr hS
      rw [show decide (S ≠ []) = true from decide_eq_true hS]
      simp (disch := omega) only [z_jn, z_lt_t, z_gB, zbi_t]
  have hl2 : (zwE k B).length ≤ B.length + 2 ∧ (k = 1 → (zwE k B).length = B.length + 2) ∧ (k ≠ 1 → (zwE k B).length = B.length + 1) := by
    unfold zwE; split <;> simp <;> omega
  obtain ⟨G1, a1, a2⟩ := c_insert (N := 180) h1 (x := fr) (m := k) h3 (by unfold zv; omega) (by simp; omega)
  have fin : ∃ n' G, (∀ (ρ : Type) (q : (Int × (Nat → Int)) → Option ρ), cEq k 1 (bd (f_X3_insert 180 (n + 1) G1 (ca + 1) 6) (fun r7 => bd (f_X3_insert 180 r7.1 r7.2 ((ca + 1) + 1) (10 + k)) (fun r8 => q (r8.1, r8.2)))) (bd (f_X3_insert 180 (n + 1) G1 (ca + 1) (10 + k)) (fun r6 => q (r6.1, r6.2))) = q (n', G)) ∧ zCx 180 n' G (A ++ k :: (S ++ zwE k B)) := by
    by_cases hk1 : k = 1
    · have hl3 := hl2.2.1 hk1
      obtain ⟨G2, b1, b2⟩ := c_insert (N := 180) (X := A ++ k :: S) (Y := B) (by simpa using a2) (x := ca + 1) (m := 6) (by simp; omega) (by unfold zv; omega) (by simp; omega)
      obtain ⟨G3, d1, d2⟩ := c_insert (N := 180) (X := A ++ k :: (S ++ [6])) (Y := B) (by simpa using b2) (x := ca + 1 + 1) (m := 10 + k) (by simp; omega) (by unfold zv; omega) (by simp; omega)
      refine ⟨n + 1 + 1 + 1, G3, fun ρ q => ?_, by subst hk1; simpa [zwE] using d2⟩
      simp (disch := omega) only [z_eq_t, b1, z_bd, d1]
    · have hl3 := hl2.2.2 hk1
      obtain ⟨G2, b1, b2⟩ := c_insert (N := 180) (X := A ++ k :: S) (Y := B) (by simpa using a2) (x := ca + 1) (m := 10 + k) (by simp; omega) (by unfold zv; omega) (by simp; omega)
      refine ⟨n + 1 + 1, G2, fun ρ q => ?_, by simpa [zwE, hk1, Int.add_comm] using b2⟩
      simp (disch := omega) only [z_eq_f, b1, z_bd]
  obtain ⟨n', G, f1, f2⟩ := fin
  refine ⟨n', if S = [] then fr + 1 else ca + 1 + 1, G, ?_, ?_, ?_, ?_⟩
  · unfold f_X0_enclose
    rw [hs, z_bd, z_jn]
    by_cases hS : S = []
    · rw [show decide (S ≠ []) = false from decide_eq_false (fun h => h hS), if_pos hS]
      simp (disch := omega) only [zbi_f, z_eq_t, z_eq_f, a1, z_bd, z_jn]
      exact f1 _ (fun r => bd (f_X0_putCaret ca fr (fr + 1)) (fun r12 => some (r.1, r12.1, r12.2, r.2)))
    · rw [show decide (S ≠ []) = true from decide_eq_true hS, if_neg hS]
      simp (disch := omega) only [zbi_t, z_eq_t, z_eq_f, a1, z_bd, z_jn]
      exact f1 _ (fun r => bd (f_X0_putCaret ca fr (ca + 1 + 1)) (fun r12 => some (r.1, r12.1, r12.2, r.2)))
  · rw [List.nil_append, zwAB]; exact f2
  · unfold zwA
    by_cases hS : S = []
    · rw [if_pos hS, if_pos hS, h3]; simp
    · rw [if_neg hS, if_neg hS, h2]; split <;> simp <;> omega
  · unfold zwA
    by_cases hS : S = []
    · rw [if_pos hS, if_pos hS, h3]; simp
    · rw [if_neg hS, if_neg hS, h2]; split <;> simp <;> omega
theorem r_from {F : Nat → Int} {A S B : List Int} (H : zRs F A S B) (hl : A.length ≤ 1000 ∧ S.length ≤ 1000) {ρ : Type} (k : Int → Option ρ) : jn k (fun k1 => cEq (F (182 : Int).toNat) ((-9)) (k1 (F (181 : Int).toNat)) (gIn 182 184 (k1 (F (182 : Int).toNat)))) = k (A.length : Int) := by
  obtain ⟨h1, h2, h3⟩ := H
  by_cases hS : S = []
  · subst hS
    rw [if_pos rfl] at h3
    simp (disch := omega) only [z181, z182, h2, h3, z_in, z_jn, z_eq_t]
    simp
  · rw [if_neg hS] at h3
    simp (disch := omega) only [z181, z182, h2, h3, z_in, z_jn, z_eq_f]
theorem r_wraps_k {F : Nat → Int} {A S B : List Int} {k : Int} (hI : zI A S B) (H : zRs F A S B) (hb : -2147483648 ≤ k ∧ k ≤ 2147483647) (hk : ¬ (1 ≤ k ∧ k ≤ 5)) : f_X8_wraps 184 F k = some (0, F) := by
  have hl := hI.len
  unfold f_X8_wraps
  rw [r_from H (by omega)]
  simp (disch := omega) only [z_in, z_gR, r_in_f, z_bd, z_jn, z_eq_t, z_gB]
theorem r_wraps_n {F : Nat → Int} {A S B : List Int} {k : Int} (hI : zI A S B) (H : zRs F A S B) (hk : 1 ≤ k ∧ k ≤ 5) (hw : zwc A S B = false) : f_X8_wraps 184 F k = some (0, F) := by
  have hl := hI.len
  have hv := hI.lv
  have hp := zpk_0 S
  have hcn := hI.2.1
  have hw' := of_decide_eq_false hw
  have e1 := r_all H.1.1 (A := []) (S := A ++ (S ++ B)) (B := []) (by simp) (x := 0) (y := F 180) rfl (by rw [H.1.2.1]; simp)
  have e2 := r_level H.1.1 (A := A) (B := S ++ B) rfl (x := (A.length : Int)) rfl
  have e3 := r_depth H.1.1 (A := A) (S := S) (B := B) rfl (x := (A.length : Int)) (y := F 181) rfl H.2.1
  unfold f_X8_wraps
  rw [r_from H (by omega)]
  by_cases h1 : zcnt (A ++ (S ++ B)) = 60
  · simp (disch := omega) only [z_in, z_gR, r_in_t, z_bd, z_jn, z_eq_t, z_eq_f, z_gB, z180, e1]
  · have h2 : ¬ (zlv A + 1 + zpk S ≤ 5) := fun h => hw' ⟨by omega, h⟩
    unfold zpk at h2 hp hv
    simp (disch := omega) only [z_in, z_gR, r_in_t, z_bd, z_jn, z_eq_f, z_gB, z180, z181, e1, e2, e3, z_lt_t]
theorem r_wraps_y {F : Nat → Int} {A S B : List Int} {k : Int} (hI : zI A S B) (H : zRs F A S B) (hk : 1 ≤ k ∧ k ≤ 5) (hw : zwc A S B = true) : ∃ G, f_X8_wraps 184 F k = some (1, G) ∧ zRs G (zwA k A S) [] (zwB k S B) := by
  have hl := hI.len
  have hv := hI.lv
  have hp := zpk_0 S
  have hcn := hI.2.1
  have hw' := of_decide_eq_true hw
  have hI' := hI.wrap hk hw'.1 hw'.2
  have hN := hI'.len
  have hN2 : (A ++ k :: (S ++ zwE k B)).length ≤ 180 := by
    rw [← zwAB]; simp at hN ⊢; omega
  simp only [List.length_append, List.length_cons] at hN2
  have hl2 : (zwE k B).length ≤ B.length + 2 ∧ (k = 1 → (zwE k B).length = B.length + 2) ∧ (k ≠ 1 → (zwE k B).length = B.length + 1) := by
    unfold zwE; split <;> simp <;> omega
  have e1 := r_all H.1.1 (A := []) (S := A ++ (S ++ B)) (B := []) (by simp) (x := 0) (y := F 180) rfl (by rw [H.1.2.1]; simp)
  have e2 := r_level H.1.1 (A := A) (B := S ++ B) rfl (x := (A.length : Int)) rfl
  have e3 := r_depth H.1.1 (A := A) (S := S) (B := B) rfl (x := (A.length : Int)) (y := F 181) rfl H.2.1
  have hc : F 181 = (A.length : Int) + S.length := H.2.1
  have fin : ∃ G, (∀ (ρ : Type) (q : (Nat → Int) → Option ρ), bd (f_X8_put 184 F (F 181) ((-11))) (fun r8 => jn q (fun k9 => cEq k 1 (bd (f_X8_put 184 r8 (F 181) ((-10))) (fun r10 => k9 r10)) (k9 r8))) = q G) ∧ zRy 184 G (A ++ (S ++ zwE k B)) ∧ G 181 = F 181 := by
    by_cases hk1 : k = 1
    · have hl3 := hl2.2.1 hk1
      obtain ⟨G1, a1, a2, a3, a4⟩ := r_put (N := 184) (X := A ++ S) (Y := B) (by simpa using H.1) (x := F 181) (m := 11) (z := -11) (by simp; omega) (by unfold zv; omega) (zr_cl (by omega)).symm (by simp; omega)
      obtain ⟨G2, b1, b2, b3, b4⟩ := r_put (N := 184) (X := A ++ S) (Y := 11 :: B) a2 (x := F 181) (m := 6) (z := -10) (by simp; omega) (by unfold zv; omega) zr_6.symm (by simp; omega)
      refine ⟨G2, fun ρ q => ?_, by subst hk1; simpa [zwE] using b2, by rw [b3, a3]⟩
      simp (disch := omega) only [z_eq_t, z_jn, a1, b1, z_bd]
    · have hl3 := hl2.2.2 hk1
      obtain ⟨G1, a1, a2, a3, a4⟩ := r_put (N := 184) (X := A ++ S) (Y := B) (by simpa using H.1) (x := F 181) (m := k + 10) (z := -11) (by simp; omega) (by unfold zv; omega) (zr_cl (by omega)).symm (by simp; omega)
      refine ⟨G1, fun ρ q => ?_, by simpa [zwE, hk1] using a2, a3⟩
      simp (disch := omega) only [z_eq_f, z_jn, a1, z_bd]
  obtain ⟨G, f1, f2, f3⟩ := fin
  obtain ⟨G3, d1, d2, d3, d4⟩ := r_put (N := 184) (X := A) (Y := S ++ zwE k B) f2 (x := (A.length : Int)) (m := k) (z := -k) rfl (by unfold zv; omega) (zr_op hk).symm (by simp; omega)
  refine ⟨va_up (va_up G3 181 (if S = [] then (A.length : Int) + 1 else (A.length : Int) + S.length + 2)) 182 (-9), ?_, ?_, ?_, ?_⟩
  · unfold f_X8_wraps
    rw [r_from H (by omega)]
    have hw2 := hw'.2
    unfold zpk at hp hv hw2
    simp (disch := omega) only [z_in, z_gR, r_in_t, z_bd, z_jn, z_eq_f, z_gB, z180, z181, z182, e1, e2, e3, z_lt_f]
    simp only [z_jn] at f1
    rw [f1, d1, z_bd]
    by_cases hS : S = []
    · rw [if_pos hS]
      have : S.length = 0 := by rw [hS]; rfl
      simp (disch := omega) only [z_eq_t]
    · rw [if_neg hS]
      have : 0 < S.length := List.length_pos_iff.mpr hS
      simp (disch := omega) only [z_eq_f, hc]
  · rw [List.nil_append, zwAB]
    exact (d2.up (by omega)).up (by omega)
  · rw [zup_ne (by omega), zup_eq]
    unfold zwA
    by_cases hS : S = []
    · rw [if_pos hS, if_pos hS]; simp
    · rw [if_neg hS, if_neg hS]; split <;> simp <;> omega
  · rw [zup_eq]; rfl
