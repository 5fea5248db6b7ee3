/-! symbols; a formula on both sides; typing, moving -/
def zbi (b : Bool) : Int := if b then 1 else 0
theorem zbi_t : zbi true = 1 := rfl
theorem zbi_f : zbi false = 0 := rfl
theorem c_le {x : Int} (h : -2147483648 ≤ x ∧ x ≤ 2147483647) : f_X7_isLetter x = some (zbi (zle x)) := by
  unfold f_X7_isLetter
  by_cases h1 : (97 ≤ x ∧ x ≤ 122) ∧ x ≠ 114
  · rw [show zle x = true from decide_eq_true h1]
    simp (disch := omega) only [z_lt_t, z_lt_f, z_eq_f, z_jn, z_gB, zbi_t]
  · rw [show zle x = false from decide_eq_false h1]
    by_cases h2 : x < 97
    · simp (disch := omega) only [z_lt_t, z_lt_f, z_eq_f, z_jn, z_gB, zbi_f]
    · by_cases h3 : 122 < x
      · simp (disch := omega) only [z_lt_t, z_lt_f, z_eq_f, z_jn, z_gB, zbi_f]
      · simp (disch := omega) only [z_lt_t, z_lt_f, z_eq_t, z_jn, z_gB, zbi_f]
theorem c_di {x : Int} (h : -2147483648 ≤ x ∧ x ≤ 2147483647) : f_X7_isDigit x = some (zbi (zdi x)) := by
  unfold f_X7_isDigit
  by_cases h1 : 48 ≤ x ∧ x ≤ 57
  · rw [show zdi x = true from decide_eq_true h1]
    simp (disch := omega) only [z_lt_t, z_lt_f, z_eq_f, z_jn, z_gB, zbi_t]
  · rw [show zdi x = false from decide_eq_false h1]
    by_cases h2 : x < 48
    · simp (disch := omega) only [z_lt_t, z_lt_f, z_jn, z_gB, zbi_f]
    · simp (disch := omega) only [z_lt_t, z_lt_f, z_jn, z_gB, zbi_f]
theorem c_mk {x : Int} (h : -2147483648 ≤ x ∧ x ≤ 2147483647) : f_X7_isOperator x = some (zbi (zmk x)) := by
  unfold f_X7_isOperator
  by_cases h1 : x = 43 ∨ x = 45 ∨ x = 42 ∨ x = 61 ∨ x = 44 ∨ x = 46
  · rw [show zmk x = true from decide_eq_true h1]
    rcases h1 with rfl | rfl | rfl | rfl | rfl | rfl <;> simp (disch := omega) only [z_eq_t, z_eq_f, z_jn, z_gB, zbi_t]
  · rw [show zmk x = false from decide_eq_false h1]
    simp (disch := omega) only [z_eq_f, z_jn, z_gB, zbi_f]
theorem c_sy {x : Int} (h : -2147483648 ≤ x ∧ x ≤ 2147483647) : f_X7_isSymbol x = some (zbi (zsy x)) := by
  unfold f_X7_isSymbol
  rw [c_le h, c_di h, c_mk h]
  simp only [zsy]
  cases zle x <;> cases zdi x <;> cases zmk x <;> rfl
theorem r_in_t {x a b : Int} (h : (-2147483648 ≤ a ∧ b ≤ 2147483647) ∧ a ≤ x ∧ x ≤ b) : f_X8_in x a b = some 1 := by
  unfold f_X8_in
  simp (disch := omega) only [z_dlt_f, z_jn, z_gB]
theorem r_in_f {x a b : Int} (h : ((-9223372036854775808 ≤ a ∧ a ≤ 9223372036854775807) ∧ (-9223372036854775808 ≤ b ∧ b ≤ 9223372036854775807) ∧ (-9223372036854775808 ≤ x ∧ x ≤ 9223372036854775807)) ∧ ¬ (a ≤ x ∧ x ≤ b)) : f_X8_in x a b = some 0 := by
  unfold f_X8_in
  by_cases h1 : x < a
  · simp (disch := omega) only [z_dlt_t, z_jn, z_gB]
  · simp (disch := omega) only [z_dlt_t, z_dlt_f, z_jn, z_gB]
theorem r_le {x : Int} (h : -2147483648 ≤ x ∧ x ≤ 2147483647) : f_X8_isLetter x = some (zbi (zle x)) := by
  unfold f_X8_isLetter
  by_cases h1 : (97 ≤ x ∧ x ≤ 122) ∧ x ≠ 114
  · rw [show zle x = true from decide_eq_true h1]
    simp (disch := omega) only [z_gR, r_in_t, z_bd, z_eq_f, z_jn, z_gB, zbi_t]
  · rw [show zle x = false from decide_eq_false h1]
    by_cases h2 : 97 ≤ x ∧ x ≤ 122
    · simp (disch := omega) only [z_gR, r_in_t, z_bd, z_eq_t, z_eq_f, z_jn, z_gB, zbi_f]
    · simp (disch := omega) only [z_gR, r_in_f, z_bd, z_eq_t, z_jn, z_gB, zbi_f]
theorem r_di {x : Int} (h : -2147483648 ≤ x ∧ x ≤ 2147483647) : f_X8_isDigit x = some (zbi (zdi x)) := by
  unfold f_X8_isDigit
  by_cases h1 : 48 ≤ x ∧ x ≤ 57
  · rw [show zdi x = true from decide_eq_true h1]
    simp (disch := omega) only [z_gR, r_in_t, z_bd, z_gB, zbi_t]
  · rw [show zdi x = false from decide_eq_false h1]
    simp (disch := omega) only [z_gR, r_in_f, z_bd, z_gB, zbi_f]
theorem r_mk {x : Int} (h : -2147483648 ≤ x ∧ x ≤ 2147483647) : f_X8_isMark x = some (zbi (zmk x)) := by
  unfold f_X8_isMark
  by_cases h1 : x = 43 ∨ x = 45 ∨ x = 42 ∨ x = 61 ∨ x = 44 ∨ x = 46
  · rw [show zmk x = true from decide_eq_true h1]
    rcases h1 with rfl | rfl | rfl | rfl | rfl | rfl <;> simp (disch := omega) only [z_eq_t, z_eq_f, z_jn, z_gB, zbi_t]
  · rw [show zmk x = false from decide_eq_false h1]
    simp (disch := omega) only [z_eq_f, z_jn, z_gB, zbi_f]
theorem r_sy {x : Int} (h : -2147483648 ≤ x ∧ x ≤ 2147483647) : f_X8_isSymbol x = some (zbi (zsy x)) := by
  unfold f_X8_isSymbol
  rw [r_le h, r_di h, r_mk h]
  simp only [zsy]
  cases zle x <;> cases zdi x <;> cases zmk x <;> rfl
/-- a formula: what is ahead of the selection, the selection, what is behind it -/
def zI (A S B : List Int) : Prop := (zbal (A ++ B) ∧ zbal S) ∧ zcnt (A ++ (S ++ B)) ≤ 60 ∧ zpk (A ++ (S ++ B)) ≤ 5
def zCs (n ca fr : Int) (F : Nat → Int) (A S B : List Int) : Prop := zCx 180 n F (A ++ (S ++ B)) ∧ ca = (A.length : Int) + S.length ∧ fr = (A.length : Int)
def zRs (F : Nat → Int) (A S B : List Int) : Prop := zRy 184 F (A ++ (S ++ B)) ∧ F 181 = (A.length : Int) + S.length ∧ F 182 = (if S = [] then -9 else (A.length : Int))
theorem z180 : (180 : Int).toNat = 180 := rfl
theorem z181 : (181 : Int).toNat = 181 := rfl
theorem z182 : (182 : Int).toNat = 182 := rfl
theorem zI.bal {A S B : List Int} (h : zI A S B) : zbal (A ++ (S ++ B)) := by
  obtain ⟨s, h1, h2⟩ := zrun_app_inv h.1.1
  rw [zbal, zrun_app_s h1, zrun_app_s (zbal_over s h.1.2)]
  exact h2
theorem zI.len {A S B : List Int} (h : zI A S B) : A.length + S.length + B.length ≤ 180 := by
  have h1 := zlen3 h.bal
  have h2 := h.2.1
  simp only [List.length_append] at h1
  omega
theorem zI.lv {A S B : List Int} (h : zI A S B) : zlv A + zpk S ≤ 5 ∧ 0 ≤ zlv A ∧ zlv (A ++ S) = zlv A := by
  have h1 := h.2.2
  rw [zpk_app, zpk_app] at h1
  obtain ⟨s, h2, h3⟩ := zrun_app_inv h.1.1
  have e1 := zlv_run h2
  simp only [List.length_nil] at e1
  have e2 := zlv_bal h.1.2
  have a1 := mx_s (zpk A) (zlv A + mxI (zpk S) (zlv S + zpk B))
  have a2 := mx_s (zpk S) (zlv S + zpk B)
  rw [zlv_app]
  omega
/-- the selection is gone -/
theorem zI.del {A S B : List Int} (h : zI A S B) : zI A [] B := by
  refine ⟨⟨h.1.1, rfl⟩, ?_, ?_⟩
  · have := h.2.1
    simp only [zcnt_app, zcnt] at this ⊢
    omega
  · have := h.2.2
    have e2 := zlv_bal h.1.2
    simp only [zpk_app, zpk_nil, zlv] at this ⊢
    have b0 := zpk_0 B
    have a1 := mx_s (zpk A) (zlv A + mxI (zpk S) (zlv S + zpk B))
    have a2 := mx_s (zpk S) (zlv S + zpk B)
    have a3 := mx_s (zpk A) (zlv A + mxI 0 (0 + zpk B))
    have a4 := mx_s 0 (0 + zpk B)
    have a5 := zpk_lv A
    omega
/-- the same line, another place -/
theorem zI.go {A S B A' B' : List Int} (h : zI A S B) (e : A' ++ B' = A ++ (S ++ B)) : zI A' [] B' := by
  refine ⟨⟨by rw [e]; exact h.bal, rfl⟩, ?_, ?_⟩
  · rw [List.nil_append, e]; exact h.2.1
  · rw [List.nil_append, e]; exact h.2.2
theorem zI.sel {A S B A' S' B' : List Int} (h : zI A S B) (e : A' ++ (S' ++ B') = A ++ (S ++ B)) (hS : zbal S') : zI A' S' B' := by
  refine ⟨⟨?_, hS⟩, by rw [e]; exact h.2.1, by rw [e]; exact h.2.2⟩
  have := h.bal
  rw [← e] at this
  obtain ⟨s, h1, h2⟩ := zrun_app_inv this
  rw [zrun_app_s (zbal_over s hS)] at h2
  rw [zbal, zrun_app_s h1]; exact h2
theorem zI.sym {A S B : List Int} {c : Int} (h : zI A S B) (hc : (42 ≤ c ∧ c ≤ 122) ∧ zsy c = true) (hl : zcnt (A ++ B) < 60) : zI (A ++ [c]) [] B := by
  obtain ⟨s, h1, h2⟩ := zrun_app_inv h.1.1
  have hd := h.del
  refine ⟨⟨?_, rfl⟩, ?_, ?_⟩
  · rw [zbal, zrun_app_s (zrun_snoc h1 (zst_sym hc))]; exact h2
  · simp only [zcnt_app, zcnt] at hl ⊢
    split <;> omega
  · have := hd.2.2
    have a := zpk_0 B
    have b := zpk_lv A
    simp only [zpk_app, zpk_nil, zlv, zlv_app, zpk_cons, zop_sy hc.1.1] at this ⊢
    have a1 := mx_s (zpk A) (zlv A + mxI 0 (0 + zpk B))
    have a2 := mx_s 0 (0 + zpk B)
    have a3 := mx_s (zpk A) (zlv A + mxI 0 (0 + 0))
    have a4 := mx_s 0 ((0 : Int) + 0)
    have a5 := mx_s (mxI (zpk A) (zlv A + mxI 0 (0 + 0))) (zlv A + (0 + 0) + mxI 0 (0 + zpk B))
    omega
/-! the reference's selection taken away -/
theorem r_clear {F : Nat → Int} {A S B : List Int} (H : zRs F A S B) : ∃ G, f_X8_clear 184 F = some G ∧ zRs G A [] B ∧ (S = [] → G = F) := by
  obtain ⟨h1, h2, h3⟩ := H
  have hl := h1.2.2.1
  simp only [List.length_append] at hl
  unfold f_X8_clear
  by_cases hS : S = []
  · subst hS
    rw [if_pos rfl] at h3
    refine ⟨F, ?_, ⟨h1, h2, by rw [if_pos rfl]; exact h3⟩, fun _ => rfl⟩
    simp (disch := omega) only [z182, h3, z_in, z_jn, z_eq_t]
  · rw [if_neg hS] at h3
    obtain ⟨G, a1, a2, a3, a4⟩ := r_remove h1 (x := F 182) (y := F 181) (by omega) (by omega)
    refine ⟨va_up (va_up G 181 (F 182)) 182 (-9), ?_, ⟨(a2.up (by omega)).up (by omega), ?_, ?_⟩, fun h => absurd h hS⟩
    · rw [h3, h2] at a1
      simp (disch := omega) only [z181, z182, h3, h2, z_in, z_jn, z_eq_f, z_bd, a1, a4]
    · rw [zup_ne (by omega), zup_eq]; simp; omega
    · rw [zup_eq, if_pos rfl]
/-! room for more -/
theorem c_ch {n ca fr x1 x2 : Int} {F : Nat → Int} {A S B : List Int} (hI : zI A S B) (hC : zCs n ca fr F A S B) (hx : 0 ≤ x1 ∧ x1 ≤ 1000 ∧ 0 ≤ x2 ∧ x2 ≤ 1000) : f_X0_canHold n ca fr F x1 x2 = some (zbi (decide ((zcnt (A ++ B) : Int) + x1 ≤ 60 ∧ zlv A + x2 ≤ 5))) := by
  obtain ⟨h1, h2, h3⟩ := hC
  have hl := hI.len
  have hv := hI.lv
  have e1 := c_count h1 (A := []) (S := A ++ (S ++ B)) (B := []) (by simp) (x := 0) (y := n) rfl (by rw [h1.1.1]; simp)
  have e2 := c_count h1 (A := A) (S := S) (B := B) rfl (x := fr) (y := ca) h3 h2
  have e3 := c_level h1 (A := A ++ S) (B := B) (by simp) (x := ca) (by rw [h2]; simp)
  rw [hv.2.2] at e3
  have ec : (zcnt (A ++ (S ++ B)) : Int) - zcnt S = zcnt (A ++ B) := by
    simp only [zcnt_app]; omega
  have eb := zcnt_b (A ++ B)
  have hc := hI.2.1
  have hp0 := zpk_0 S
  rw [List.length_append] at eb
  unfold f_X0_canHold
  rw [e1, z_bd, e2, z_bd, ec]
  by_cases h4 : (zcnt (A ++ B) : Int) + x1 ≤ 60
  · by_cases h5 : zlv A + x2 ≤ 5
    · rw [show decide ((zcnt (A ++ B) : Int) + x1 ≤ 60 ∧ zlv A + x2 ≤ 5) = true from decide_eq_true ⟨h4, h5⟩]
      simp (disch := omega) only [z_jn, z_lt_f, e3, z_bd, z_gB, zbi_t]
    · rw [show decide ((zcnt (A ++ B) : Int) + x1 ≤ 60 ∧ zlv A + x2 ≤ 5) = false from decide_eq_false (fun h => h5 h.2)]
      simp (disch := omega) only [z_jn, z_lt_f, z_lt_t, e3, z_bd, z_gB, zbi_f]
  · rw [show decide ((zcnt (A ++ B) : Int) + x1 ≤ 60 ∧ zlv A + x2 ≤ 5) = false from decide_eq_false (fun h => h4 h.1)]
    simp (disch := omega) only [z_jn, z_lt_f, z_lt_t, e3, z_bd, z_gB, zbi_f]
theorem c_canSym {n ca fr : Int} {F : Nat → Int} {A S B : List Int} (hI : zI A S B) (hC : zCs n ca fr F A S B) : f_X0_canHoldSymbol n ca fr F = some (zbi (decide (zcnt (A ++ B) < 60))) := by
  have hv := hI.lv
  have hp := zpk_0 S
  unfold f_X0_canHoldSymbol
  rw [c_ch hI hC (by omega), z_bd]
  by_cases h : zcnt (A ++ B) < 60
  · rw [show decide ((zcnt (A ++ B) : Int) + 1 ≤ 60 ∧ zlv A + 0 ≤ 5) = true from decide_eq_true ⟨by omega, by omega⟩, decide_eq_true h]
    rfl
  · rw [show decide ((zcnt (A ++ B) : Int) + 1 ≤ 60 ∧ zlv A + 0 ≤ 5) = false from decide_eq_false (fun h2 => by omega), decide_eq_false h]
    rfl
theorem c_rmSel {n ca fr : Int} {F : Nat → Int} {A S B : List Int} (hC : zCs n ca fr F A S B) : ∃ G, f_X0_removeSelection n ca fr F = some (n - S.length, fr, fr, G) ∧ zCs (n - S.length) fr fr G A [] B := by
  obtain ⟨h1, h2, h3⟩ := hC
  obtain ⟨G, a1, a2⟩ := c_remove h1 h3 h2
  refine ⟨G, ?_, a2, by simpa using h3, h3⟩
  unfold f_X0_removeSelection
  rw [a1]; rfl
theorem c_putSym {n ca fr c : Int} {F : Nat → Int} {A S B : List Int} (hI : zI A S B) (hC : zCs n ca fr F A S B) (hc : (42 ≤ c ∧ c ≤ 122) ∧ zsy c = true) (hl : zcnt (A ++ B) < 60) : ∃ n' ca' G, f_X0_putSymbol n ca fr F c = some (n', ca', ca', G) ∧ zCs n' ca' ca' G (A ++ [c]) [] B := by
  obtain ⟨G, a1, a2⟩ := c_rmSel hC
  have hN := (hI.sym hc hl).len
  simp only [List.length_append, List.length_cons, List.length_nil] at hN
  obtain ⟨G2, b1, b2⟩ := c_insert (X := A) (Y := B) (by simpa using a2.1) a2.2.2 (m := c) (by unfold zv; omega) (by omega)
  refine ⟨n - S.length + 1, fr + 1, G2, ?_, by simpa using b2, by rw [hC.2.2]; simp, by rw [hC.2.2]; simp⟩
  unfold f_X0_putSymbol
  rw [a1, z_bd, b1]; rfl
theorem r_gone {F : Nat → Int} {A S B : List Int} (hI : zI A S B) (H : zRs F A S B) {ρ : Type} (k : Int → Option ρ) : gIn 182 184 (jn k (fun k1 => cEq (F (182 : Int).toNat) ((-9)) (k1 0) (gIn 182 184 (gIn 181 184 (bd (f_X8_allIn 184 F (F (182 : Int).toNat) (F (181 : Int).toNat)) (fun r2 => k1 r2)))))) = k (zcnt S) := by
  obtain ⟨h1, h2, h3⟩ := H
  have hl := hI.len
  by_cases hS : S = []
  · subst hS
    rw [if_pos rfl] at h3
    simp (disch := omega) only [z182, h3, z_in, z_jn, z_eq_t, zcnt]
    rfl
  · rw [if_neg hS] at h3
    have e := r_all h1.1 (A := A) (S := S) (B := B) rfl (x := F 182) (y := F 181) h3 h2
    rw [h3, h2] at e
    simp (disch := omega) only [z181, z182, h2, h3, z_in, z_jn, z_eq_f, z_bd, e]
theorem r_types_n {F : Nat → Int} {A S B : List Int} {c : Int} (hI : zI A S B) (H : zRs F A S B) (hb : -2147483648 ≤ c ∧ c ≤ 2147483647) (hc : ¬ (zsy c = true ∧ zcnt (A ++ B) < 60)) : f_X8_types 184 F c = some (0, F) := by
  unfold f_X8_types
  rw [r_gone hI H]
  have e1 := r_all H.1.1 (A := []) (S := A ++ (S ++ B)) (B := []) (by simp) (x := 0) (y := F 180) rfl (by rw [H.1.2.1]; simp)
  have ec : (zcnt (A ++ (S ++ B)) : Int) - zcnt S = zcnt (A ++ B) := by
    simp only [zcnt_app]; omega
  have hcn := hI.2.1
  rw [r_sy hb, z_bd, z180, e1]
  cases hs : zsy c with
  | false =>
    simp (disch := omega) only [zbi_f, z_jn, z_eq_t, z_gB]
  | true =>
    have h6 : zcnt (A ++ B) = 60 := by
      have h7 : ¬ zcnt (A ++ B) < 60 := fun h => hc ⟨hs, h⟩
      omega
    simp (disch := omega) only [zbi_t, z_jn, z_eq_f, z_in, z_bd, ec, z_eq_t, z_gB]
theorem r_types_y {F : Nat → Int} {A S B : List Int} {c : Int} (hI : zI A S B) (H : zRs F A S B) (hc : zsy c = true) (hl : zcnt (A ++ B) < 60) : ∃ G, f_X8_types 184 F c = some (1, G) ∧ zRs G (A ++ [c]) [] B := by
  have hb := zsy_b hc
  unfold f_X8_types
  rw [r_gone hI H]
  have e1 := r_all H.1.1 (A := []) (S := A ++ (S ++ B)) (B := []) (by simp) (x := 0) (y := F 180) rfl (by rw [H.1.2.1]; simp)
  have ec : (zcnt (A ++ (S ++ B)) : Int) - zcnt S = zcnt (A ++ B) := by
    simp only [zcnt_app]; omega
  have hcn := hI.2.1
  have hN := (hI.sym ⟨hb, hc⟩ hl).len
  simp only [List.length_append, List.length_cons, List.length_nil] at hN
  obtain ⟨G, a1, ⟨a2, a3, a4⟩, a5⟩ := r_clear H
  have a3' : G 181 = (A.length : Int) := by rw [a3]; simp
  obtain ⟨G2, b1, b2, b3, b4⟩ := r_put (N := 184) (X := A) (Y := B) (by simpa using a2) (x := G 181) (m := c) (z := c) a3' (by unfold zv; omega) (zr_sy hb.1).symm (by omega)
  refine ⟨va_up G2 181 (G2 181 + 1), ?_, by simpa using b2.up (by omega), ?_, ?_⟩
  · rw [r_sy (by omega), z_bd, z180, z181, e1, hc]
    simp (disch := omega) only [zbi_t, z_jn, z_eq_f, z_in, z_bd, ec, a1, b1, z_gB]
  · rw [zup_eq, b3, a3']; simp
  · rw [zup_ne (by omega), b4, a4]; rfl
/-! moves -/
theorem c_move {n ca fr x : Int} {F : Nat → Int} {A S B A' B' : List Int} (hC : zCs n ca fr F A S B) (e : A' ++ B' = A ++ (S ++ B)) (hx : x = (A'.length : Int)) : zCs n x x F A' [] B' := by
  refine ⟨?_, by simpa using hx, hx⟩
  rw [List.nil_append, e]; exact hC.1
theorem r_move {x : Int} {F : Nat → Int} {A S B A' B' : List Int} (hR : zRs F A S B) (e : A' ++ B' = A ++ (S ++ B)) (hx : x = (A'.length : Int)) : zRs (va_up (va_up F 181 x) 182 (-9)) A' [] B' := by
  refine ⟨?_, ?_, ?_⟩
  · rw [List.nil_append, e]; exact (hR.1.up (by omega)).up (by omega)
  · rw [zup_ne (by omega), zup_eq]; simpa using hx
  · rw [zup_eq]; rfl
theorem zat {L : List Int} {x : Int} (h : 0 ≤ x ∧ x ≤ L.length) : ∃ A B : List Int, A ++ B = L ∧ x = (A.length : Int) :=
  ⟨L.take x.toNat, L.drop x.toNat, List.take_append_drop _ _, by rw [List.length_take]; omega⟩
theorem mn_s (a b : Int) : (mnI a b ≤ a ∧ mnI a b ≤ b) ∧ (mnI a b = a ∨ mnI a b = b) := by
  unfold mnI; split <;> omega
theorem e_moves {n ca fr x : Int} {F R : Nat → Int} {A S B : List Int} (hI : zI A S B) (hC : zCs n ca fr F A S B) (hR : zRs R A S B) (hx : -1000 ≤ x ∧ x ≤ 1000) : ∃ (A' B' : List Int) (p : Int) (G : Nat → Int), f_X0_shiftCaret n ca fr x = some (p, p) ∧ zCs n p p F A' [] B' ∧ f_X8_moves 184 R x = some G ∧ zRs G A' [] B' ∧ zI A' [] B' ∧ G 181 = p := by
  have hl := hI.len
  have hn : n = (A.length : Int) + S.length + B.length := by rw [hC.1.1.1]; simp; omega
  have hr : R 180 = n := by rw [hR.1.2.1, hC.1.1.1]
  have hc : ca = (A.length : Int) + S.length := hC.2.1
  have hc2 : R 181 = ca := by rw [hR.2.1, hc]
  have m1 := mn_s n (ca + x)
  have m2 := mx_s 0 (mnI n (ca + x))
  obtain ⟨A', B', e1, e2⟩ := zat (L := A ++ (S ++ B)) (x := mxI 0 (mnI n (ca + x))) (by simp; omega)
  refine ⟨A', B', mxI 0 (mnI n (ca + x)), va_up (va_up R 181 (mxI 0 (mnI n (ca + x)))) 182 (-9), ?_, c_move hC e1 e2, ?_, r_move hR e1 e2, hI.go e1, by rw [zup_ne (by omega), zup_eq]⟩
  · unfold f_X0_shiftCaret
    simp (disch := omega) only [z_gR, f_X0_putCaret, z_bd]
  · unfold f_X8_moves
    simp only [z180, z181, z182, hc2, hr]
    by_cases h1 : ca + x < 0
    · have : mxI 0 (mnI n (ca + x)) = 0 := by omega
      rw [this]
      simp (disch := omega) only [z_in, z_jn, z_lt_t]
    · by_cases h2 : n < ca + x
      · have : mxI 0 (mnI n (ca + x)) = n := by omega
        rw [this]
        simp (disch := omega) only [z_in, z_jn, z_lt_t, z_lt_f]
      · have : mxI 0 (mnI n (ca + x)) = ca + x := by omega
        rw [this]
        simp (disch := omega) only [z_in, z_jn, z_lt_f]
