/-! ints as whole numbers; the combinators of the mirrored methods -/
def iI (a : Int) : Int32 := Int32.ofInt a
def iL (a : Int) : Int64 := Int64.ofInt a
abbrev inR (a : Int) : Prop := -2147483648 ≤ a ∧ a ≤ 2147483647
abbrev inL (a : Int) : Prop := -9223372036854775808 ≤ a ∧ a ≤ 9223372036854775807
theorem iI_toInt {a : Int} (h : inR a) : (iI a).toInt = a := Int32.toInt_ofInt_of_le (by omega) (by omega)
theorem iL_toInt {a : Int} (h : inL a) : (iL a).toInt = a := Int64.toInt_ofInt_of_le (by omega) (by omega)
theorem iI_of (x : Int32) : iI x.toInt = x := Int32.ofInt_toInt x
theorem iL_of (x : Int64) : iL x.toInt = x := Int64.ofInt_toInt x
theorem iI_inR (x : Int32) : inR x.toInt := ⟨by have := x.le_toInt; omega, by have := x.toInt_lt; omega⟩
theorem iL_inL (x : Int64) : inL x.toInt := ⟨by have := x.le_toInt; omega, by have := x.toInt_lt; omega⟩
theorem iI_add (a b : Int) : iI a + iI b = iI (a + b) := (Int32.ofInt_add a b).symm
theorem iI_sub (a b : Int) : iI a - iI b = iI (a - b) := (Int32.ofInt_sub a b).symm
theorem iI_mul (a b : Int) : iI a * iI b = iI (a * b) := (Int32.ofInt_mul a b).symm
theorem iI_neg (a : Int) : -iI a = iI (-a) := (Int32.ofInt_neg a).symm
theorem iL_add (a b : Int) : iL a + iL b = iL (a + b) := (Int64.ofInt_add a b).symm
theorem iL_sub (a b : Int) : iL a - iL b = iL (a - b) := (Int64.ofInt_sub a b).symm
theorem iL_mul (a b : Int) : iL a * iL b = iL (a * b) := (Int64.ofInt_mul a b).symm
theorem iI_lt {a b : Int} (ha : inR a) (hb : inR b) : iI a < iI b ↔ a < b := by rw [Int32.lt_iff_toInt_lt, iI_toInt ha, iI_toInt hb]
theorem iI_le {a b : Int} (ha : inR a) (hb : inR b) : iI a ≤ iI b ↔ a ≤ b := by rw [Int32.le_iff_toInt_le, iI_toInt ha, iI_toInt hb]
theorem iI_eq {a b : Int} (ha : inR a) (hb : inR b) : iI a = iI b ↔ a = b := by rw [← Int32.toInt_inj, iI_toInt ha, iI_toInt hb]
theorem iL_lt {a b : Int} (ha : inL a) (hb : inL b) : iL a < iL b ↔ a < b := by rw [Int64.lt_iff_toInt_lt, iL_toInt ha, iL_toInt hb]
theorem iL_eq {a b : Int} (ha : inL a) (hb : inL b) : iL a = iL b ↔ a = b := by rw [← Int64.toInt_inj, iL_toInt ha, iL_toInt hb]
theorem iI_div {a b : Int} (ha : inR a) (hb : inR b) : iI a / iI b = iI (a.tdiv b) := by
  have e1 : Int32.minValue.toInt = -2147483648 := by decide
  have e2 : Int32.maxValue.toInt = 2147483647 := by decide
  exact (Int32.ofInt_tdiv (by omega) (by omega) (by omega) (by omega)).symm
theorem iL_div {a b : Int} (ha : inL a) (hb : inL b) : iL a / iL b = iL (a.tdiv b) := by
  have e1 : Int64.minValue.toInt = -9223372036854775808 := by decide
  have e2 : Int64.maxValue.toInt = 9223372036854775807 := by decide
  exact (Int64.ofInt_tdiv (by omega) (by omega) (by omega) (by omega)).symm
theorem iI_rem {a b : Int} (ha : inR a) (hb : inR b) : iI a - iI a / iI b * iI b = iI (a.tmod b) := by
  rw [iI_div ha hb, iI_mul, iI_sub, Int.tmod_def, Int.mul_comm]
theorem iL_rem {a b : Int} (ha : inL a) (hb : inL b) : iL a - iL a / iL b * iL b = iL (a.tmod b) := by
  rw [iL_div ha hb, iL_mul, iL_sub, Int.tmod_def, Int.mul_comm]
theorem iI_nat (n : Nat) : Int32.ofNat n = iI (n : Int) := Int32.ofInt_eq_ofNat.symm
theorem iI_L {a : Int} (h : inR a) : (iI a).toInt64 = iL a := by
  have e1 : Int32.minValue.toInt = -2147483648 := by decide
  have e2 : Int32.maxValue.toInt = 2147483647 := by decide
  exact Int32.toInt64_ofInt (by omega) (by omega)
theorem iL_I (a : Int) : (iL a).toInt32 = iI a := Int64.toInt32_ofInt
theorem iI_in {a : Int} {n : Nat} (h : 0 ≤ a ∧ a < (n : Int) ∧ a ≤ 2147483647) : vp_in (iI a) n := by
  rw [vp_in_iff, iI_toInt ⟨by omega, by omega⟩]
  exact ⟨h.1, h.2.1⟩
theorem iI_cl {a : Int} (h0 : 0 ≤ a) (h1 : a ≤ 2147483647) : (iI a).toNatClampNeg = a.toNat := Int32.toNatClampNeg_ofInt_of_le (by omega) (by omega)
theorem iI_n0 {a : Int} (h0 : 0 ≤ a) (h1 : a ≤ 2147483647) : ¬ iI a < 0 := by
  rw [show (0 : Int32) = iI 0 from by decide, iI_lt ⟨by omega, by omega⟩ ⟨by decide, by decide⟩]
  omega
theorem iI_zero : iI 0 = 0 := by decide
def aI (F : Nat → Int) : Nat → Int32 := fun j => iI (F j)
def aL (F : Nat → Int) : Nat → Int64 := fun j => iL (F j)
theorem aI_up (F : Nat → Int) (k : Nat) (x : Int) : upd (aI F) k (iI x) = aI (va_up F k x) := by
  funext j
  simp only [upd, aI, va_up]
  split <;> rfl
theorem aL_up (F : Nat → Int) (k : Nat) (x : Int) : vp_updL (aL F) k (iL x) = aL (va_up F k x) := by
  funext j
  simp only [vp_updL, aL, va_up]
  split <;> rfl
theorem aI_cpy (F G : Nat → Int) (sp dp n : Nat) : va_cpy (aI F) (aI G) sp dp n = aI (va_cpy F G sp dp n) := by
  funext j
  simp only [va_cpy, aI]
  split <;> rfl
theorem nar_b {a : Int} (h : a = 0 ∨ a = 1) : narrow .boolean (.int (iI a)) = .int (iI a) ∧ fits .boolean (.int (iI a)) = true ∧ vp_nar .boolean (iI a) = iI a := by
  rcases h with rfl | rfl
  · exact ⟨by decide +kernel, by decide +kernel, by decide +kernel⟩
  · exact ⟨by decide +kernel, by decide +kernel, by decide +kernel⟩
def gIn {ρ : Type} (a : Int) (n : Nat) (A : Option ρ) : Option ρ := if 0 ≤ a ∧ a < (n : Int) ∧ a ≤ 2147483647 then A else none
def gB {ρ : Type} (a : Int) (A : Option ρ) : Option ρ := if a = 0 ∨ a = 1 then A else none
def gR {ρ : Type} (a : Int) (A : Option ρ) : Option ρ := if inR a then A else none
def gL {ρ : Type} (a : Int) (A : Option ρ) : Option ρ := if inL a then A else none
def gC {ρ : Type} (sp dp n : Int) (n0 n1 : Nat) (A : Option ρ) : Option ρ := if (0 ≤ sp ∧ 0 ≤ dp ∧ 0 ≤ n) ∧ sp + n ≤ (n0 : Int) ∧ dp + n ≤ (n1 : Int) ∧ sp ≤ 2147483647 ∧ dp ≤ 2147483647 ∧ n ≤ 2147483647 then A else none
def cLt {ρ : Type} (a b : Int) (A B : Option ρ) : Option ρ := if inR a ∧ inR b then (if a < b then A else B) else none
def cEq {ρ : Type} (a b : Int) (A B : Option ρ) : Option ρ := if inR a ∧ inR b then (if a = b then A else B) else none
def dLt {ρ : Type} (a b : Int) (A B : Option ρ) : Option ρ := if inL a ∧ inL b then (if a < b then A else B) else none
def dEq {ρ : Type} (a b : Int) (A B : Option ρ) : Option ρ := if inL a ∧ inL b then (if a = b then A else B) else none
def bd {α ρ : Type} (x : Option α) (f : α → Option ρ) : Option ρ := x.bind f
theorem gIn_inv {ρ : Type} {a : Int} {n : Nat} {A : Option ρ} {r : ρ} (h : gIn a n A = some r) : (0 ≤ a ∧ a < (n : Int) ∧ a ≤ 2147483647) ∧ A = some r := by
  unfold gIn at h; split at h
  · exact ⟨by assumption, h⟩
  · cases h
theorem gB_inv {ρ : Type} {a : Int} {A : Option ρ} {r : ρ} (h : gB a A = some r) : (a = 0 ∨ a = 1) ∧ A = some r := by
  unfold gB at h; split at h
  · exact ⟨by assumption, h⟩
  · cases h
theorem gR_inv {ρ : Type} {a : Int} {A : Option ρ} {r : ρ} (h : gR a A = some r) : inR a ∧ A = some r := by
  unfold gR at h; split at h
  · exact ⟨by assumption, h⟩
  · cases h
theorem gL_inv {ρ : Type} {a : Int} {A : Option ρ} {r : ρ} (h : gL a A = some r) : inL a ∧ A = some r := by
  unfold gL at h; split at h
  · exact ⟨by assumption, h⟩
  · cases h
theorem gC_inv {ρ : Type} {sp dp n : Int} {n0 n1 : Nat} {A : Option ρ} {r : ρ} (h : gC sp dp n n0 n1 A = some r) : ((0 ≤ sp ∧ 0 ≤ dp ∧ 0 ≤ n) ∧ sp + n ≤ (n0 : Int) ∧ dp + n ≤ (n1 : Int) ∧ sp ≤ 2147483647 ∧ dp ≤ 2147483647 ∧ n ≤ 2147483647) ∧ A = some r := by
  unfold gC at h; split at h
  · exact ⟨by assumption, h⟩
  · cases h
theorem cLt_inv {ρ : Type} {a b : Int} {A B : Option ρ} {r : ρ} (h : cLt a b A B = some r) : (inR a ∧ inR b) ∧ (a < b → A = some r) ∧ (¬ a < b → B = some r) := by
  unfold cLt at h; split at h
  · refine ⟨by assumption, fun q => ?_, fun q => ?_⟩
    · rw [if_pos q] at h; exact h
    · rw [if_neg q] at h; exact h
  · cases h
theorem cEq_inv {ρ : Type} {a b : Int} {A B : Option ρ} {r : ρ} (h : cEq a b A B = some r) : (inR a ∧ inR b) ∧ (a = b → A = some r) ∧ (¬ a = b → B = some r) := by
  unfold cEq at h; split at h
  · refine ⟨by assumption, fun q => ?_, fun q => ?_⟩
    · rw [if_pos q] at h; exact h
    · rw [if_neg q] at h; exact h
  · cases h
theorem dLt_inv {ρ : Type} {a b : Int} {A B : Option ρ} {r : ρ} (h : dLt a b A B = some r) : (inL a ∧ inL b) ∧ (a < b → A = some r) ∧ (¬ a < b → B = some r) := by
  unfold dLt at h; split at h
  · refine ⟨by assumption, fun q => ?_, fun q => ?_⟩
    · rw [if_pos q] at h; exact h
    · rw [if_neg q] at h; exact h
  · cases h
theorem dEq_inv {ρ : Type} {a b : Int} {A B : Option ρ} {r : ρ} (h : dEq a b A B = some r) : (inL a ∧ inL b) ∧ (a = b → A = some r) ∧ (¬ a = b → B = some r) := by
  unfold dEq at h; split at h
  · refine ⟨by assumption, fun q => ?_, fun q => ?_⟩
    · rw [if_pos q] at h; exact h
    · rw [if_neg q] at h; exact h
  · cases h
theorem bd_inv {α ρ : Type} {x : Option α} {f : α → Option ρ} {r : ρ} (h : bd x f = some r) : ∃ a, x = some a ∧ f a = some r := by
  unfold bd at h
  cases x with
  | none => cases h
  | some a => exact ⟨a, rfl, h⟩
