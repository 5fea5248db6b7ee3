/-! the linear text, on both sides -/
theorem c_put {n : Nat} {sg : Nat → Int} {m : Int} (h : n < 300) : f_X6_put (n : Int) sg m = some ((n : Int) + 1, va_up sg n m) := by
  unfold f_X6_put
  simp (disch := omega) only [z_jn, z_lt_f, z_lt_t, z_in, Int.toNat_natCast]
theorem r_say {n : Nat} {sg : Nat → Int} {m : Int} (h : n < 1024) : f_X8_say (n : Int) sg m = some ((n : Int) + 1, va_up sg n m) := by
  unfold f_X8_say
  simp (disch := omega) only [z_in, Int.toNat_natCast]
theorem r_sayU {n : Nat} {sg : Nat → Int} {m : Int} (b : Bool) (h : n < 1024) : f_X8_sayUnless (n : Int) sg (zbi b) m = some (if b then (n : Int) else (n : Int) + 1, if b then sg else va_up sg n m) := by
  unfold f_X8_sayUnless
  cases b
  · simp (disch := omega) only [zbi_f, z_jn, z_eq_t, r_say h, z_bd]
    simp
  · simp (disch := omega) only [zbi_t, z_jn, z_eq_f]
    simp
theorem c_beginS {n : Nat} {br sg : Nat → Int} {d : Int} (b : Bool) (h : n < 300) (hd : 0 ≤ d ∧ d ≤ 5) : f_X6_beginSlot (n : Int) br sg d (zbi (!b)) = some (if b then (n : Int) else (n : Int) + 1, va_up br d.toNat (zbi (!b)), if b then sg else va_up sg n 40) := by
  unfold f_X6_beginSlot
  cases b
  · simp (disch := omega) only [Bool.not_false, zbi_t, z_jn, z_lt_f, z_lt_t, z_in, z_gB, z_eq_f, c_put h, z_bd]
    simp
  · simp (disch := omega) only [Bool.not_true, zbi_f, z_jn, z_lt_f, z_lt_t, z_in, z_gB, z_eq_t]
    simp
theorem c_endS {n : Nat} {br sg : Nat → Int} {d : Int} (b : Bool) (h : n < 300) (hd : 0 ≤ d ∧ d ≤ 5) (hb : br d.toNat = zbi (!b)) : f_X6_endSlot (n : Int) br sg d = some (if b then (n : Int) else (n : Int) + 1, if b then sg else va_up sg n 41) := by
  unfold f_X6_endSlot
  cases b
  · rw [Bool.not_false, zbi_t] at hb
    simp (disch := omega) only [z_jn, z_lt_f, z_lt_t, z_in, hb, z_eq_f, c_put h, z_bd]
    simp
  · rw [Bool.not_true, zbi_f] at hb
    simp (disch := omega) only [z_jn, z_lt_f, z_lt_t, z_in, hb, z_eq_t]
    simp
/-- one more sign, unless b -/
def zwu (b : Bool) (W : List Int) (m : Int) : List Int := if b then W else W ++ [m]
theorem zwu_len (b : Bool) (W : List Int) (m : Int) : ((zwu b W m).length : Int) = if b then (W.length : Int) else (W.length : Int) + 1 := by
  unfold zwu; cases b <;> simp
theorem zwu_le (b : Bool) (W : List Int) (m : Int) : W.length ≤ (zwu b W m).length ∧ (zwu b W m).length ≤ W.length + 1 := by
  unfold zwu; cases b <;> simp
/-- the linear text read, with bounds -/
def zCW (F : Nat → Int) (W : List Int) : Prop := zC F W ∧ ∀ m ∈ W, 32 ≤ m ∧ m ≤ 122
theorem zCW_nil {F : Nat → Int} : zCW F [] := ⟨by intro X m T e; simp at e, by intro m hm; simp at hm⟩
theorem zCW_add {F : Nat → Int} {X : List Int} {m : Int} (h : zCW F X) (hm : 32 ≤ m ∧ m ≤ 122) : zCW (va_up F X.length m) (X ++ [m]) := by
  refine ⟨zC_add h.1, fun q hq => ?_⟩
  rcases List.mem_append.mp hq with hq | hq
  · exact h.2 q hq
  · rw [List.mem_singleton.mp hq]; exact hm
theorem zwu_C {sg : Nat → Int} {W : List Int} {b : Bool} {m : Int} (h : zCW sg W) (hm : 32 ≤ m ∧ m ≤ 122) : zCW (if b then sg else va_up sg W.length m) (zwu b W m) := by
  unfold zwu; cases b
  · exact zCW_add h hm
  · exact h
theorem c_putE {sg : Nat → Int} {W : List Int} (m : Int) (hW : zCW sg W) (h : W.length < 300) (hm : 32 ≤ m ∧ m ≤ 122 := by first | omega | (split <;> omega)) : ∃ sg', f_X6_put (W.length : Int) sg m = some (((W ++ [m]).length : Int), sg') ∧ zCW sg' (W ++ [m]) := by
  refine ⟨_, ?_, zCW_add hW hm⟩
  rw [c_put h]; simp
theorem r_sayE {sg : Nat → Int} {W : List Int} (m : Int) (hW : zCW sg W) (h : W.length < 1024) (hm : 32 ≤ m ∧ m ≤ 122 := by first | omega | (split <;> omega)) : ∃ sg', f_X8_say (W.length : Int) sg m = some (((W ++ [m]).length : Int), sg') ∧ zCW sg' (W ++ [m]) := by
  refine ⟨_, ?_, zCW_add hW hm⟩
  rw [r_say h]; simp
theorem r_sayUE {sg : Nat → Int} {W : List Int} (b : Bool) (m : Int) (hW : zCW sg W) (h : W.length < 1024) (hm : 32 ≤ m ∧ m ≤ 122 := by first | omega | (split <;> omega)) : ∃ sg', f_X8_sayUnless (W.length : Int) sg (zbi b) m = some (((zwu b W m).length : Int), sg') ∧ zCW sg' (zwu b W m) := by
  refine ⟨_, ?_, zwu_C (b := b) (m := m) hW hm⟩
  rw [r_sayU b h, zwu_len]
theorem c_beginE {br sg : Nat → Int} {W : List Int} {d : Int} (b : Bool) (hW : zCW sg W) (h : W.length < 300) (hd : 0 ≤ d ∧ d ≤ 5) : ∃ sg', f_X6_beginSlot (W.length : Int) br sg d (zbi (!b)) = some (((zwu b W 40).length : Int), va_up br d.toNat (zbi (!b)), sg') ∧ zCW sg' (zwu b W 40) := by
  refine ⟨_, ?_, zwu_C (b := b) (m := 40) hW (by omega)⟩
  rw [c_beginS b h hd, zwu_len]
theorem c_endE {br sg : Nat → Int} {W : List Int} {d : Int} (b : Bool) (hW : zCW sg W) (h : W.length < 300) (hd : 0 ≤ d ∧ d ≤ 5) (hb : br d.toNat = zbi (!b)) : ∃ sg', f_X6_endSlot (W.length : Int) br sg d = some (((zwu b W 41).length : Int), sg') ∧ zCW sg' (zwu b W 41) := by
  refine ⟨_, ?_, zwu_C (b := b) (m := 41) hW (by omega)⟩
  rw [c_endS b h hd hb, zwu_len]
/-- whether an item ahead is a fraction -/
theorem e_behind {n : Int} {F R : Nat → Int} {L A B : List Int} (hC : zCx 180 n F L) (hR : zRy 184 R L) (hb : zbal L) (hL : L = A ++ B) {x : Int} (hx : x = (A.length : Int)) : ∃ (m1 : Int) (b : Bool) (p : Int), f_X3_mark 180 n F (x - 1) = some m1 ∧ (m1 = 11 ↔ b = true) ∧ (-2147483648 ≤ m1 ∧ m1 ≤ 2147483647) ∧ f_X8_rowStart 184 R x = some p ∧ 0 ≤ p ∧ ((b = false ∧ p = x) ∨ (p < x ∧ ∃ q, f_X8_itemStart 184 R x = some q ∧ (0 ≤ q ∧ q < 184) ∧ (R q.toNat = -1 ↔ b = true) ∧ -122 ≤ R q.toNat ∧ R q.toNat ≤ 122)) := by
  have h180 := hC.1
  have lL : L.length = A.length + B.length := by rw [hL]; simp
  obtain ⟨P, R0, R2, Q, eA, eB, hP, hQ, b1, b2, -⟩ := zrow2 (A := A) (B := B) (by rw [← hL]; exact hb)
  have rs := r_rs hR (P := P) (R := R0) (T := B) (by rw [hL, eA]; simp) hP b1 (x := x) (by rw [hx, eA]; simp)
  by_cases h0 : R0 = []
  · subst h0
    simp only [List.append_nil] at eA
    subst eA
    rcases hP with rfl | ⟨P0, o, rfl, h1, h2⟩
    · exact ⟨0, false, _, hC.out (by simp at hx; omega), by simp, by omega, rs, by omega, Or.inl ⟨rfl, hx.symm⟩⟩
    · have hm := (hC.at (A := P0) (m := o) (T := B) (by rw [hL]; simp) (x := x - 1) (by simp at hx; omega)).1
      exact ⟨o, false, _, hm, by simp; omega, by omega, rs, by omega, Or.inl ⟨rfl, hx.symm⟩⟩
  · obtain ⟨X, R1, e1, hX, hR1⟩ := zitB b1 h0
    have hXl := zit_ne hX
    have eL : L = (P ++ R1) ++ (X ++ B) := by rw [hL, eA, e1]; simp
    have lA : A.length = P.length + R1.length + X.length := by rw [eA, e1]; simp; omega
    have lPR : (P ++ R1).length = P.length + R1.length := by simp
    have ri := r_itemStart hR.1 (A := P ++ R1) (X := X) (T := B) eL hX (x := x) (by omega)
    rcases zit_form hX with ⟨m, rfl, a, b⟩ | ⟨o, c, Y, rfl, a, b, rfl, hY⟩
    · have lX : ([m] : List Int).length = 1 := rfl
      have hm := (hC.at (A := P ++ R1) (m := m) (T := B) (by rw [eL]; simp) (x := x - 1) (by omega)).1
      have hr := (hR.1.at (A := P ++ R1) (m := m) (T := B) (by rw [eL]; simp) (x := ((P ++ R1).length : Int)) rfl).1
      rw [zr_sy a] at hr
      exact ⟨m, false, _, hm, by simp; omega, by omega, rs, by omega, Or.inr ⟨by omega, _, ri, by omega, by rw [hr]; simp; omega, by omega, by omega⟩⟩
    · have lX : (o :: (Y ++ [o + 10])).length = Y.length + 2 := by simp
      have hm := (hC.at (A := P ++ R1 ++ o :: Y) (m := o + 10) (T := B) (by rw [eL]; simp) (x := x - 1) (by simp; omega)).1
      have hr := (hR.1.at (A := P ++ R1) (m := o) (T := Y ++ [o + 10] ++ B) (by rw [eL]; simp) (x := ((P ++ R1).length : Int)) rfl).1
      rw [zr_op ⟨a, b⟩] at hr
      exact ⟨o + 10, decide (o = 1), _, hm, by simp; omega, by omega, rs, by omega, Or.inr ⟨by omega, _, ri, by omega, by rw [hr]; simp, by omega, by omega⟩⟩
def zWr (n : Int) (F R : Nat → Int) (e e2 : Int × (Nat → Int) × (Nat → Int) × Int × Int → Option (Int × (Nat → Int) × (Nat → Int))) (L S : List Int) : Prop := ∀ (A B : List Int) (fu1 fu2 : Nat) (W : List Int) (br sg pile line : Nat → Int) (d : Int), L = A ++ (S ++ B) → S.length ≤ fu1 → S.length ≤ fu2 → zCW sg W → zCW line W → W.length + 5 * zcnt S ≤ 300 → 0 ≤ d → d + zpk S ≤ 5 → ∃ (W' : List Int) (br' sg' pile' line' : Nat → Int), f_X6_write_9 180 n F e fu1 (W.length : Int) br sg d (A.length : Int) = f_X6_write_9 180 n F e (fu1 - S.length) (W'.length : Int) br' sg' d ((A.length : Int) + S.length) ∧ f_X8_layLine_9 184 R e2 fu2 (W.length : Int) line pile d (A.length : Int) = f_X8_layLine_9 184 R e2 (fu2 - S.length) (W'.length : Int) line' pile' d ((A.length : Int) + S.length) ∧ zCW sg' W' ∧ zCW line' W' ∧ W'.length ≤ W.length + 5 * zcnt S ∧ (∀ j : Nat, (j : Int) ≤ d → br' j = br j) ∧ (∀ j : Nat, (j : Int) < d → pile' j = pile j)
section zwr
variable {n : Int} {F R : Nat → Int} {L : List Int} {e e2 : Int × (Nat → Int) × (Nat → Int) × Int × Int → Option (Int × (Nat → Int) × (Nat → Int))}
theorem zWr_nil : zWr n F R e e2 L [] := by
  intro A B fu1 fu2 W br sg pile line d hL h1 h2 h3 h4 h5 h6 h7
  refine ⟨W, br, sg, pile, line, ?_, ?_, h3, h4, by omega, fun _ _ => rfl, fun _ _ => rfl⟩ <;> simp
theorem zWr_app {S T : List Int} (hS : zWr n F R e e2 L S) (hT : zWr n F R e e2 L T) (hb : zbal S) : zWr n F R e e2 L (S ++ T) := by
  intro A B fu1 fu2 W br sg pile line d hL h1 h2 h3 h4 h5 h6 h7
  simp only [List.length_append] at h1 h2
  have hp : zpk (S ++ T) = mxI (zpk S) (zpk T) := by rw [zpk_app, zlv_bal hb, Int.zero_add]
  have hm := mx_s (zpk S) (zpk T)
  rw [zcnt_app] at h5
  obtain ⟨W1, br1, sg1, pile1, line1, a1, a2, a3, a4, a5, a6, a7⟩ := hS A (T ++ B) fu1 fu2 W br sg pile line d (by rw [hL]; simp) (by omega) (by omega) h3 h4 (by omega) h6 (by omega)
  obtain ⟨W2, br2, sg2, pile2, line2, c1, c2, c3, c4, c5, c6, c7⟩ := hT (A ++ S) B (fu1 - S.length) (fu2 - S.length) W1 br1 sg1 pile1 line1 d (by rw [hL]; simp) (by omega) (by omega) a3 a4 (by omega) h6 (by omega)
  simp only [List.length_append, Int.natCast_add] at c1 c2
  refine ⟨W2, br2, sg2, pile2, line2, ?_, ?_, c3, c4, by rw [zcnt_app]; omega, fun j hj => (c6 j hj).trans (a6 j hj), fun j hj => (c7 j hj).trans (a7 j hj)⟩
  · rw [a1, c1]; simp only [List.length_append, Int.natCast_add, Nat.sub_sub, Int.add_assoc]
  · rw [a2, c2]; simp only [List.length_append, Int.natCast_add, Nat.sub_sub, Int.add_assoc]
theorem zWr_sym (hC : zCx 180 n F L) (hR : zRy 184 R L) {m : Int} (hm : 42 ≤ m ∧ m ≤ 122) : zWr n F R e e2 L [m] := by
  intro A B fu1 fu2 W br sg pile line d hL h1 h2 h3 h4 h5 h6 h7
  have h180 := hC.1
  have hq := hR.2
  have lL : L.length = A.length + (1 + B.length) := by rw [hL]; simp; omega
  simp only [List.length_cons, List.length_nil] at h1 h2
  have hcn : zcnt [m] = 1 := by simp [zcnt, zsi]; omega
  rw [hcn] at h5
  have c1 := (hC.at (A := A) (m := m) (T := B) (by rw [hL]; simp) (x := (A.length : Int)) rfl).1
  have r1 := (hR.1.at (A := A) (m := m) (T := B) (by rw [hL]; simp) (x := (A.length : Int)) rfl).1
  rw [zr_sy hm.1] at r1
  obtain ⟨f1, rfl⟩ : ∃ f, fu1 = f + 1 := ⟨fu1 - 1, by omega⟩
  obtain ⟨f2, rfl⟩ : ∃ f, fu2 = f + 1 := ⟨fu2 - 1, by omega⟩
  refine ⟨W ++ [m], br, va_up sg W.length m, pile, va_up line W.length m, ?_, ?_, zCW_add h3 (by omega), zCW_add h4 (by omega), by rw [hcn]; simp, fun _ _ => rfl, fun _ _ => rfl⟩
  · simp (disch := omega) only [f_X6_write_9, z_lt_t, c1, z_bd, c_on_f, z_jn, z_eq_t, z_eq_f, c_cl_f, c_put (n := W.length) (sg := sg) (m := m) (by omega), List.length_cons, List.length_nil, List.length_append, Nat.add_sub_cancel, Int.natCast_add]
    rfl
  · simp (disch := omega) only [f_X8_layLine_9, z_in, z180, hq.1, z_lt_t, r1, z_jn, r_say (n := W.length) (sg := line) (m := m) (by omega), z_bd, List.length_cons, List.length_nil, List.length_append, Nat.add_sub_cancel, Int.natCast_add]
    rfl
/-- a structure's end, of one slot: the class and the reference say the same -/
theorem zWr_str (hC : zCx 180 n F L) (hR : zRy 184 R L) (hbL : zbal L) (hcL : zcnt L ≤ 60) {k : Int} {I : List Int} (hk : 2 ≤ k ∧ k ≤ 5) (hI : zbal I) (ih : zWr n F R e e2 L I) : zWr n F R e e2 L (k :: (I ++ [k + 10])) := by
  intro A B fu1 fu2 W br sg pile line d hL h1 h2 h3 h4 h5 h6 h7
  have h180 := hC.1
  have hq := hR.2
  have lS : (k :: (I ++ [k + 10])).length = I.length + 2 := by simp
  have lL : L.length = A.length + (I.length + 2 + B.length) := by rw [hL]; simp; omega
  have hcn : zcnt (k :: (I ++ [k + 10])) = 1 + zcnt I := by
    have e1 : zsi k = true := by simp [zsi]; omega
    have e2 : zsi (k + 10) = false := by simp [zsi]; omega
    simp [zcnt, zcnt_app, e1, e2]
  have hpk : d + 1 + zpk I ≤ 5 := by
    have p0 := zpk_0 I
    simp only [zpk_cons, zpk_app, zop_op (m := k) ⟨by omega, hk.2⟩] at h7
    have m1 := mx_s (zpk I) (zlv I + mxI 0 (zop (k + 10) + zpk []))
    have m2 := mx_s 0 (1 + mxI (zpk I) (zlv I + mxI 0 (zop (k + 10) + zpk [])))
    omega
  have hp0 := zpk_0 I
  rw [hcn] at h5 ⊢
  rw [lS] at h1 h2 ⊢
  obtain ⟨f1, rfl⟩ : ∃ f, fu1 = f + 1 := ⟨fu1 - 1, by omega⟩
  obtain ⟨f2, rfl⟩ : ∃ f, fu2 = f + 1 := ⟨fu2 - 1, by omega⟩
  have c1 := (hC.at (A := A) (m := k) (T := I ++ [k + 10] ++ B) (by rw [hL]; simp) (x := (A.length : Int)) rfl).1
  have r1 := (hR.1.at (A := A) (m := k) (T := I ++ [k + 10] ++ B) (by rw [hL]; simp) (x := (A.length : Int)) rfl).1
  rw [zr_op ⟨by omega, hk.2⟩] at r1
  have eL1 : L = (A ++ [k]) ++ (I ++ (k + 10) :: B) := by rw [hL]; simp
  have lA1 : ((A ++ [k]).length : Int) = (A.length : Int) + 1 := by simp
  -- the opening
  have opn' : ∃ (b : Bool) (W1 : List Int) (sg1 line1 : Nat → Int), f_X6_write_9 180 n F e (f1 + 1) (W.length : Int) br sg d (A.length : Int) = f_X6_write_9 180 n F e f1 (W1.length : Int) (va_up br (d + 1).toNat (zbi (!b))) sg1 (d + 1) ((A.length : Int) + 1) ∧ f_X8_layLine_9 184 R e2 (f2 + 1) (W.length : Int) line pile d (A.length : Int) = f_X8_layLine_9 184 R e2 f2 (W1.length : Int) line1 (va_up pile d.toNat (A.length : Int)) (d + 1) ((A.length : Int) + 1) ∧ zCW sg1 W1 ∧ zCW line1 W1 ∧ W1.length ≤ W.length + 3 ∧ (k ≤ 3 → f_X8_isShort 184 R ((A.length : Int) + 1) 0 = some (zbi b)) ∧ (4 ≤ k → b = false) := by
    by_cases hk3 : k ≤ 3
    · -- a script
      obtain ⟨m1, bh, p, b1, b2, b3, b4, b5, b6⟩ := e_behind hC hR hbL (A := A) (B := k :: (I ++ (k + 10) :: B)) (by rw [hL]; simp) (x := (A.length : Int)) rfl
      obtain ⟨b, s1, s2⟩ := e_base hC hR (Q := (k + 10) :: B) (Or.inr ⟨k + 10, B, rfl, by omega⟩) eL1 hI (x := (A.length : Int) + 1) lA1.symm
      have lz := zwu_le (!bh) W 32
      obtain ⟨sgb, x1, x2⟩ := r_sayUE (!bh) 32 h4 (by omega)
      obtain ⟨line2, y1, y2⟩ := r_sayE (if k = 2 then 94 else 95) x2 (by omega)
      have ll2 : (zwu (!bh) W 32 ++ [if k = 2 then 94 else 95]).length = (zwu (!bh) W 32).length + 1 := by simp
      obtain ⟨line3, z1, z2⟩ := r_sayUE b 40 y2 (by omega)
      have cb : ∃ sg1, zCW sg1 (zwu (!bh) W 32) ∧ (∀ {ρ : Type} (q : Int × (Nat → Int) → Option ρ), cEq m1 11 (bd (f_X6_put (W.length : Int) sg 32) (fun r10 => q (r10.1, r10.2))) (q ((W.length : Int), sg)) = q (((zwu (!bh) W 32).length : Int), sg1)) := by
        cases hbh : bh
        · have hm : ¬ m1 = 11 := by rw [b2, hbh]; simp
          refine ⟨sg, by simpa [zwu] using h3, fun q => ?_⟩
          rw [z_eq_f ⟨by omega, hm⟩]; simp [zwu]
        · have hm : m1 = 11 := b2.mpr hbh
          obtain ⟨sg1, v1, v2⟩ := c_putE 32 h3 (by omega)
          refine ⟨sg1, by simpa [zwu] using v2, fun q => ?_⟩
          rw [z_eq_t ⟨by omega, hm⟩, v1, z_bd]; simp [zwu]
      obtain ⟨sg1, w1, w2⟩ := cb
      obtain ⟨sg2, v1, v2⟩ := c_putE (if k = 2 then 94 else 95) w1 (by omega)
      obtain ⟨sg3, u1, u2⟩ := c_beginE (br := br) (d := d + 1) b v2 (by omega) (by omega)
      have lz3 := zwu_le b (zwu (!bh) W 32 ++ [if k = 2 then 94 else 95]) 40
      refine ⟨b, zwu b (zwu (!bh) W 32 ++ [if k = 2 then 94 else 95]) 40, sg3, line3, ?_, ?_, u2, z2, by omega, fun _ => s2, fun h => by omega⟩
      · have hbeg : f_X6_beginStructure 180 (W.length : Int) br sg n F (A.length : Int) (d + 1) = some (((zwu b (zwu (!bh) W 32 ++ [if k = 2 then 94 else 95]) 40).length : Int), va_up br (d + 1).toNat (zbi (!b)), sg3) := by
          unfold f_X6_beginStructure
          simp (disch := omega) only [c1, z_bd, z_jn, z_eq_f, c_sc_t, b1]
          have hcont := w2 (fun z11 => cEq k 2 (bd (f_X6_put z11.1 z11.2 94) (fun r14 => bd (f_X6_standsAsBase 180 n F ((A.length : Int) + 1)) (fun r15 => cEq r15 0 (bd (f_X6_beginSlot r14.1 br r14.2 (d + 1) 1) (fun r18 => some (r18.1, r18.2.1, r18.2.2))) (bd (f_X6_beginSlot r14.1 br r14.2 (d + 1) 0) (fun r18 => some (r18.1, r18.2.1, r18.2.2)))))) (bd (f_X6_put z11.1 z11.2 95) (fun r14 => bd (f_X6_standsAsBase 180 n F ((A.length : Int) + 1)) (fun r15 => cEq r15 0 (bd (f_X6_beginSlot r14.1 br r14.2 (d + 1) 1) (fun r18 => some (r18.1, r18.2.1, r18.2.2))) (bd (f_X6_beginSlot r14.1 br r14.2 (d + 1) 0) (fun r18 => some (r18.1, r18.2.1, r18.2.2)))))))
          refine Eq.trans hcont ?_
          have fin : ∀ c : Int, (if k = 2 then (94 : Int) else 95) = c → bd (f_X6_put ((zwu (!bh) W 32).length : Int) sg1 c) (fun r14 => bd (f_X6_standsAsBase 180 n F ((A.length : Int) + 1)) (fun r15 => cEq r15 0 (bd (f_X6_beginSlot r14.1 br r14.2 (d + 1) 1) (fun r18 => some (r18.1, r18.2.1, r18.2.2))) (bd (f_X6_beginSlot r14.1 br r14.2 (d + 1) 0) (fun r18 => some (r18.1, r18.2.1, r18.2.2))))) = some (((zwu b (zwu (!bh) W 32 ++ [if k = 2 then 94 else 95]) 40).length : Int), va_up br (d + 1).toNat (zbi (!b)), sg3) := by
            intro c hc
            rw [← hc, v1, z_bd, s1, z_bd]
            cases hbb : b
            · rw [hbb, Bool.not_false, zbi_t] at u1
              rw [zbi_f, z_eq_t (by omega)]
              simp only [u1, z_bd, Bool.not_false, zbi_t]
            · rw [hbb, Bool.not_true, zbi_f] at u1
              rw [zbi_t, z_eq_f (by omega)]
              simp only [u1, z_bd, Bool.not_true, zbi_f]
          by_cases hk2 : k = 2
          · rw [z_eq_t (by omega)]; exact fin 94 (if_pos hk2)
          · rw [z_eq_f (by omega)]; exact fin 95 (if_neg hk2)
        simp (disch := omega) only [f_X6_write_9, z_lt_t, c1, z_bd, c_on_t, z_jn, z_eq_f, hbeg]
      · have eb : ∀ {ρ : Type} (q : Int → Option ρ), (cLt p (A.length : Int) (bd (f_X8_itemStart 184 R (A.length : Int)) (fun r25 => gIn r25 184 (cEq (R r25.toNat) ((-1)) (q 1) (q 0)))) (q 0)) = q (zbi bh) := by
          intro ρ q
          rcases b6 with ⟨i1, i2⟩ | ⟨i1, w, i2, i3, i4, i5⟩
          · rw [z_lt_f (by omega), i1]; rfl
          · rw [z_lt_t (by omega), i2, z_bd, z_in (by omega)]
            cases hbh : bh
            · rw [z_eq_f ⟨by omega, by rw [i4, hbh]; simp⟩]; rfl
            · rw [z_eq_t ⟨by omega, i4.mpr hbh⟩]; rfl
        have eb2 : ∀ {ρ : Type} (q : Int → Option ρ), (cEq (zbi bh) 0 (q 1) (q 0)) = q (zbi (!bh)) := by
          intro ρ q
          cases bh
          · rw [zbi_f, z_eq_t (by omega)]; rfl
          · rw [zbi_t, z_eq_f (by omega)]; rfl
        have e94 : ∀ {ρ : Type} (q : Int → Option ρ), (cEq (-k) (-2) (q 94) (q 95)) = q (if k = 2 then 94 else 95) := by
          intro ρ q
          by_cases hk2 : k = 2
          · rw [z_eq_t (by omega), if_pos hk2]
          · rw [z_eq_f (by omega), if_neg hk2]
        rw [f_X8_layLine_9, z_in (by omega), z180, hq.1, z_lt_t (by omega), z_in (by omega), z_jn, r1, z_lt_f (by omega), r_bg_t (by omega), z_bd, z_eq_f (by omega), z_in (by omega), z_eq_f (by omega), z_lt_t (by omega), b4, z_bd]
        simp only [z_jn]
        refine Eq.trans (eb (fun z27 => cEq z27 0 (bd (f_X8_sayUnless (W.length : Int) line 1 32) (fun r30 => cEq (-k) (-2) (bd (f_X8_say r30.1 r30.2 94) (fun r33 => bd (f_X8_isShort 184 R ((A.length : Int) + 1) 0) (fun r34 => bd (f_X8_sayUnless r33.1 r33.2 r34 40) (fun r35 => f_X8_layLine_9 184 R e2 f2 r35.1 r35.2 (va_up pile d.toNat (A.length : Int)) (d + 1) ((A.length : Int) + 1))))) (bd (f_X8_say r30.1 r30.2 95) (fun r33 => bd (f_X8_isShort 184 R ((A.length : Int) + 1) 0) (fun r34 => bd (f_X8_sayUnless r33.1 r33.2 r34 40) (fun r35 => f_X8_layLine_9 184 R e2 f2 r35.1 r35.2 (va_up pile d.toNat (A.length : Int)) (d + 1) ((A.length : Int) + 1))))))) (bd (f_X8_sayUnless (W.length : Int) line 0 32) (fun r30 => cEq (-k) (-2) (bd (f_X8_say r30.1 r30.2 94) (fun r33 => bd (f_X8_isShort 184 R ((A.length : Int) + 1) 0) (fun r34 => bd (f_X8_sayUnless r33.1 r33.2 r34 40) (fun r35 => f_X8_layLine_9 184 R e2 f2 r35.1 r35.2 (va_up pile d.toNat (A.length : Int)) (d + 1) ((A.length : Int) + 1))))) (bd (f_X8_say r30.1 r30.2 95) (fun r33 => bd (f_X8_isShort 184 R ((A.length : Int) + 1) 0) (fun r34 => bd (f_X8_sayUnless r33.1 r33.2 r34 40) (fun r35 => f_X8_layLine_9 184 R e2 f2 r35.1 r35.2 (va_up pile d.toNat (A.length : Int)) (d + 1) ((A.length : Int) + 1))))))))) ?_
        refine Eq.trans (eb2 (fun z29 => bd (f_X8_sayUnless (W.length : Int) line z29 32) (fun r30 => cEq (-k) (-2) (bd (f_X8_say r30.1 r30.2 94) (fun r33 => bd (f_X8_isShort 184 R ((A.length : Int) + 1) 0) (fun r34 => bd (f_X8_sayUnless r33.1 r33.2 r34 40) (fun r35 => f_X8_layLine_9 184 R e2 f2 r35.1 r35.2 (va_up pile d.toNat (A.length : Int)) (d + 1) ((A.length : Int) + 1))))) (bd (f_X8_say r30.1 r30.2 95) (fun r33 => bd (f_X8_isShort 184 R ((A.length : Int) + 1) 0) (fun r34 => bd (f_X8_sayUnless r33.1 r33.2 r34 40) (fun r35 => f_X8_layLine_9 184 R e2 f2 r35.1 r35.2 (va_up pile d.toNat (A.length : Int)) (d + 1) ((A.length : Int) + 1)))))))) ?_
        rw [x1, z_bd]
        refine Eq.trans (e94 (fun z32 => bd (f_X8_say ((zwu (!bh) W 32).length : Int) sgb z32) (fun r33 => bd (f_X8_isShort 184 R ((A.length : Int) + 1) 0) (fun r34 => bd (f_X8_sayUnless r33.1 r33.2 r34 40) (fun r35 => f_X8_layLine_9 184 R e2 f2 r35.1 r35.2 (va_up pile d.toNat (A.length : Int)) (d + 1) ((A.length : Int) + 1)))))) ?_
        rw [y1, z_bd, s2, z_bd, z1, z_bd]
    · -- a root or parentheses
      have hk45 : k = 4 ∨ k = 5 := by omega
      have lz := zwu_le (decide (k = 5)) W 114
      obtain ⟨line2, y1, y2⟩ := r_sayUE (decide (k = 5)) 114 h4 (by omega)
      obtain ⟨line3, z1, z2⟩ := r_sayE 40 y2 (by omega)
      have cb : ∃ sg1, zCW sg1 (zwu (decide (k = 5)) W 114) ∧ (∀ {ρ : Type} (q : Int × (Nat → Int) → Option ρ), cEq k 4 (bd (f_X6_put (W.length : Int) sg 114) (fun r10 => q (r10.1, r10.2))) (q ((W.length : Int), sg)) = q (((zwu (decide (k = 5)) W 114).length : Int), sg1)) := by
        rcases hk45 with hk4 | hk5
        · obtain ⟨sg1, v1, v2⟩ := c_putE 114 h3 (by omega)
          have e5 : decide (k = 5) = false := decide_eq_false (by omega)
          refine ⟨sg1, by rw [e5]; simpa [zwu] using v2, fun q => ?_⟩
          rw [z_eq_t (by omega), v1, z_bd, e5]; simp [zwu]
        · have e5 : decide (k = 5) = true := decide_eq_true hk5
          refine ⟨sg, by rw [e5]; simpa [zwu] using h3, fun q => ?_⟩
          rw [z_eq_f (by omega), e5]; simp [zwu]
      obtain ⟨sg1, w1, w2⟩ := cb
      obtain ⟨sg3, u1, u2⟩ := c_beginE (br := br) (d := d + 1) false w1 (by omega) (by omega)
      rw [Bool.not_false, zbi_t] at u1
      have ll2 : (zwu (decide (k = 5)) W 114 ++ [40]).length = (zwu (decide (k = 5)) W 114).length + 1 := by simp
      refine ⟨false, zwu (decide (k = 5)) W 114 ++ [40], sg3, line3, ?_, ?_, by simpa [zwu] using u2, z2, by omega, fun h => by omega, fun _ => rfl⟩
      · have hbeg : f_X6_beginStructure 180 (W.length : Int) br sg n F (A.length : Int) (d + 1) = some (((zwu (decide (k = 5)) W 114 ++ [40]).length : Int), va_up br (d + 1).toNat (zbi (!false)), sg3) := by
          unfold f_X6_beginStructure
          simp (disch := omega) only [c1, z_bd, z_jn, z_eq_f, c_sc_f, z_eq_t]
          refine Eq.trans (w2 (fun z6 => bd (f_X6_beginSlot z6.1 br z6.2 (d + 1) 1) (fun r7 => some (r7.1, r7.2.1, r7.2.2)))) ?_
          simp only [u1, z_bd]
          simp [zwu, zbi]
        simp (disch := omega) only [f_X6_write_9, z_lt_t, c1, z_bd, c_on_t, z_jn, z_eq_f, hbeg]
      · have e5 : ∀ {ρ : Type} (q : Int → Option ρ), (cEq (-k) (-5) (q 1) (q 0)) = q (zbi (decide (k = 5))) := by
          intro ρ q
          rcases hk45 with hk4 | hk5
          · rw [z_eq_f (by omega), decide_eq_false (show ¬ k = 5 by omega)]; rfl
          · rw [z_eq_t (by omega), decide_eq_true hk5]; rfl
        rw [f_X8_layLine_9, z_in (by omega), z180, hq.1, z_lt_t (by omega), z_in (by omega), z_jn, r1, z_lt_f (by omega), r_bg_t (by omega), z_bd, z_eq_f (by omega), z_in (by omega), z_eq_f (by omega), z_lt_f (by omega)]
        simp only [z_jn]
        refine Eq.trans (e5 (fun z19 => bd (f_X8_sayUnless (W.length : Int) line z19 114) (fun r20 => bd (f_X8_say r20.1 r20.2 40) (fun r21 => f_X8_layLine_9 184 R e2 f2 r21.1 r21.2 (va_up pile d.toNat (A.length : Int)) (d + 1) ((A.length : Int) + 1))))) ?_
        rw [y1, z_bd, z1, z_bd]
  obtain ⟨b, W1, sg1, line1, o1, o2, o3, o4, o5, o6, o7⟩ := opn'
  obtain ⟨W2, br2, sg2, pile2, line2, i1, i2, i3, i4, i5, i6, i7⟩ := ih (A ++ [k]) ((k + 10) :: B) f1 f2 W1 (va_up br (d + 1).toNat (zbi (!b))) sg1 (va_up pile d.toNat (A.length : Int)) line1 (d + 1) eL1 (by omega) (by omega) o3 o4 (by omega) (by omega) hpk
  rw [lA1] at i1 i2
  have hb2 : br2 (d + 1).toNat = zbi (!b) := by rw [i6 _ (by omega), vup_eq]
  have hp2 : pile2 d.toNat = (A.length : Int) := by rw [i7 _ (by omega), vup_eq]
  obtain ⟨g1, hg1⟩ : ∃ f, f1 - I.length = f + 1 := ⟨f1 - I.length - 1, by omega⟩
  obtain ⟨g2, hg2⟩ : ∃ f, f2 - I.length = f + 1 := ⟨f2 - I.length - 1, by omega⟩
  rw [hg1] at i1
  rw [hg2] at i2
  have eL2 : L = (A ++ k :: I) ++ (k + 10) :: B := by rw [hL]; simp
  have c2 := (hC.at (A := A ++ k :: I) (m := k + 10) (T := B) eL2 (x := (A.length : Int) + 1 + I.length) (by simp; omega)).1
  have r2 := (hR.1.at (A := A ++ k :: I) (m := k + 10) (T := B) eL2 (x := (A.length : Int) + 1 + I.length) (by simp; omega)).1
  rw [zr_cl (by omega)] at r2
  obtain ⟨sg3, u1, u2⟩ := c_endE (br := br2) (d := d + 1) b i3 (by omega) (by omega) hb2
  obtain ⟨line3, v1, v2⟩ := r_sayUE b 41 i4 (by omega)
  have lz := zwu_le b W2 41
  refine ⟨zwu b W2 41, br2, sg3, pile2, line3, ?_, ?_, u2, v2, by omega, fun j hj => by rw [i6 j (by omega), vup_ne (by omega)], fun j hj => by rw [i7 j (by omega), vup_ne (by omega)]⟩
  · rw [o1, i1]
    have ef : f1 + 1 - (I.length + 2) = g1 := by omega
    rw [ef]
    have ed : d + 1 + (-1) = d := by omega
    have ex : (A.length : Int) + 1 + I.length + 1 = (A.length : Int) + ((I.length + 2 : Nat) : Int) := by omega
    simp (disch := omega) only [f_X6_write_9, z_lt_t, c2, z_bd, c_on_f, z_jn, z_eq_t, z_eq_f, c_cl_t, u1, ed, ex]
  · rw [o2, i2]
    have ef : f2 + 1 - (I.length + 2) = g2 := by omega
    rw [ef]
    have ed : d + 1 + (-1) = d := by omega
    have ex : (A.length : Int) + 1 + I.length + 1 = (A.length : Int) + ((I.length + 2 : Nat) : Int) := by omega
    have hkk : R (A.length : Int).toNat = -k := r1
    by_cases hk3 : k ≤ 3
    · have s2 := o6 hk3
      have hcs : cEq (zbi b) 0 (bd (f_X8_sayUnless (W2.length : Int) line2 0 41) (fun r12 => f_X8_layLine_9 184 R e2 g2 r12.1 r12.2 pile2 d ((A.length : Int) + ((I.length + 2 : Nat) : Int)))) (bd (f_X8_sayUnless (W2.length : Int) line2 1 41) (fun r12 => f_X8_layLine_9 184 R e2 g2 r12.1 r12.2 pile2 d ((A.length : Int) + ((I.length + 2 : Nat) : Int)))) = f_X8_layLine_9 184 R e2 g2 ((zwu b W2 41).length : Int) line3 pile2 d ((A.length : Int) + ((I.length + 2 : Nat) : Int)) := by
        cases hbb : b
        · rw [hbb, zbi_f] at v1
          rw [zbi_f, z_eq_t (by omega), v1, z_bd]
        · rw [hbb, zbi_t] at v1
          rw [zbi_t, z_eq_f (by omega), v1, z_bd]
      by_cases hk2 : k = 2
      · simp (disch := omega) only [f_X8_layLine_9, z_in, z180, hq.1, z_lt_t, z_lt_f, r2, r_bg_f, z_bd, z_jn, z_eq_t, z_eq_f, ed, hp2, hkk, s2, ex]
        exact hcs
      · simp (disch := omega) only [f_X8_layLine_9, z_in, z180, hq.1, z_lt_t, z_lt_f, r2, r_bg_f, z_bd, z_jn, z_eq_t, z_eq_f, ed, hp2, hkk, s2, ex]
        exact hcs
    · have hbf := o7 (by omega)
      subst hbf
      rw [zbi_f] at v1
      simp (disch := omega) only [f_X8_layLine_9, z_in, z180, hq.1, z_lt_t, z_lt_f, r2, r_bg_f, z_bd, z_jn, z_eq_t, z_eq_f, ed, hp2, hkk, v1, ex]
end zwr
