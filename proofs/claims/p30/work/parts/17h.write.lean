/-! p30: the class writes the text of each row -/
def zfl : List Int → Bool
  | [] => false
  | [m] => decide (m = 11)
  | _ :: b :: t => zfl (b :: t)
theorem zfl_snoc : ∀ {A : List Int} {m : Int}, zfl (A ++ [m]) = decide (m = 11)
  | [], m => rfl
  | [a], m => rfl
  | a :: b :: t, m => by
    have := zfl_snoc (A := b :: t) (m := m)
    exact this
theorem zvf_it {X A : List Int} (hX : zit X) (fr : Bool) : zvf X fr = zfl (A ++ X) := by
  rcases hX with ⟨m, rfl, a, b⟩ | ⟨k, I, rfl, a, b, hI⟩ | ⟨I, J, rfl, hI, hJ⟩
  · rw [(zvt_one a.1).2, zfl_snoc, decide_eq_false (by omega)]
  · have e : A ++ k :: (I ++ [k + 10]) = (A ++ k :: I) ++ [k + 10] := by simp
    rw [e, zfl_snoc, decide_eq_false (by omega)]
    have hk : (k = 2 ∨ k = 3) ∨ k = 4 ∨ k = 5 := by omega
    rcases hk with hk | rfl | rfl
    · exact (zvt_s hk hI).2
    · exact (zvt_4 hI).2
    · exact (zvt_5 hI).2
  · have e : A ++ 1 :: (I ++ 6 :: (J ++ [11])) = (A ++ 1 :: (I ++ 6 :: J)) ++ [11] := by simp
    rw [e, zfl_snoc, (zvt_q hI hJ).2]
    rfl
theorem zvf_fl {S : List Int} (hS : zbal S) : ∀ A : List Int, zvf S (zfl A) = zfl (A ++ S) := by
  refine zbal_ind (P := fun S => ∀ A : List Int, zvf S (zfl A) = zfl (A ++ S)) (fun A => by rw [zvf_nil, List.append_nil]) ?_ S.length S (Nat.le_refl _) hS
  intro X R hX hR ih A
  rw [zvf_app (zit_bal hX) hR, zvf_it (A := A) hX, ih (A ++ X), List.append_assoc]
theorem zopd_len {I : List Int} {c : Nat} : (zopd I c).length ≤ I.length + 2 := by
  unfold zopd; split
  · omega
  · simp
theorem zbas_len {I : List Int} {c : Nat} : (zbas I c).length ≤ I.length + 2 := by
  unfold zbas; split
  · omega
  · simp
theorem zcnt_str {k : Int} {I : List Int} (hk : 2 ≤ k ∧ k ≤ 5) : zcnt (k :: (I ++ [k + 10])) = 1 + zcnt I := by
  have e1 : zsi k = true := by simp [zsi]; omega
  have e2 : zsi (k + 10) = false := by simp [zsi]; omega
  simp [zcnt, zcnt_app, e1, e2]
theorem zcnt_frac {I J : List Int} : zcnt (1 :: (I ++ 6 :: (J ++ [11]))) = 1 + zcnt I + zcnt J := by
  have e1 : zsi 1 = true := by decide
  have e2 : zsi 6 = false := by decide
  have e3 : zsi 11 = false := by decide
  simp [zcnt, zcnt_app, e1, e2, e3]; omega
theorem zvt_len {S : List Int} (hS : zbal S) : ∀ fr : Bool, (zvt S fr).length ≤ 5 * zcnt S := by
  have it : ∀ n : Nat, ∀ S : List Int, S.length ≤ n → zbal S → ∀ fr : Bool, (zvt S fr).length ≤ 5 * zcnt S := by
    intro n
    induction n with
    | zero =>
      intro S hl _ fr
      have hS0 : S = [] := List.length_eq_zero_iff.mp (by omega)
      rw [hS0]; exact Nat.le_refl _
    | succ n ih =>
      intro S hl hb fr
      by_cases hn : S = []
      · rw [hn]; exact Nat.le_refl _
      · obtain ⟨X, R, rfl, hX, hR⟩ := zitF hb hn
        have hXl := zit_ne hX
        rw [List.length_append] at hl
        rw [zvt_app (zit_bal hX) hR, List.length_append, zcnt_app]
        have hr := ih R (by omega) hR (zvf X fr)
        have hx : (zvt X fr).length ≤ 5 * zcnt X := by
          rcases hX with ⟨m, rfl, a, b⟩ | ⟨k, I, rfl, a, b, hI⟩ | ⟨I, J, rfl, hI, hJ⟩
          · rw [(zvt_one a.1).1]
            have : zsi m = true := by simp [zsi]; omega
            simp [zcnt, this]
          · have hi : (ztx I).length ≤ 5 * zcnt I := ih I (by simp at hl; omega) hI false
            rw [zcnt_str ⟨a, b⟩]
            have hk : (k = 2 ∨ k = 3) ∨ k = 4 ∨ k = 5 := by omega
            rcases hk with hk | rfl | rfl
            · rw [(zvt_s hk hI).1]
              have := zbas_len (I := ztx I) (c := zcl I)
              simp only [List.length_append, List.length_cons]
              have : ((if fr = true then [32] else []) : List Int).length ≤ 1 := by split <;> simp
              omega
            · have e := (zvt_4 (fr := fr) hI).1
              have e2 := congrArg List.length e
              simp only [List.length_append, List.length_cons, List.length_nil] at e2
              show (zvt (4 :: (I ++ [14])) fr).length ≤ _
              omega
            · have e := (zvt_5 (fr := fr) hI).1
              have e2 := congrArg List.length e
              simp only [List.length_append, List.length_cons, List.length_nil] at e2
              show (zvt (5 :: (I ++ [15])) fr).length ≤ _
              omega
          · have hi : (ztx I).length ≤ 5 * zcnt I := ih I (by simp at hl; omega) hI false
            have hj : (ztx J).length ≤ 5 * zcnt J := ih J (by simp at hl; omega) hJ false
            rw [(zvt_q hI hJ).1, zcnt_frac]
            have h1 := zopd_len (I := ztx I) (c := zcl I)
            have h2 := zopd_len (I := ztx J) (c := zcl J)
            simp only [List.length_append, List.length_cons]
            omega
        omega
  exact it S.length S (Nat.le_refl _) hS
/-- the class writes S: its text, behind what stands -/
def zWc (n : Int) (F : Nat → Int) (e : Int × (Nat → Int) × (Nat → Int) × Int × Int → Option (Int × (Nat → Int) × (Nat → Int))) (L S : List Int) : Prop := ∀ (A B : List Int) (fu : Nat) (W : List Int) (br sg : Nat → Int) (d : Int), L = A ++ (S ++ B) → S.length ≤ fu → zCW sg W → W.length + 5 * zcnt S ≤ 300 → 0 ≤ d → d + zpk S ≤ 5 → ∃ (br' sg' : Nat → Int), f_X6_write_9 180 n F e fu (W.length : Int) br sg d (A.length : Int) = f_X6_write_9 180 n F e (fu - S.length) ((W ++ zvt S (zfl A)).length : Int) br' sg' d ((A.length : Int) + S.length) ∧ zCW sg' (W ++ zvt S (zfl A)) ∧ (∀ j : Nat, (j : Int) ≤ d → br' j = br j)
section WC
variable {n : Int} {F : Nat → Int} {L : List Int} {e : Int × (Nat → Int) × (Nat → Int) × Int × Int → Option (Int × (Nat → Int) × (Nat → Int))}
theorem zWc_nil : zWc n F e L [] := by
  intro A B fu W br sg d hL h1 h3 h5 h6 h7
  refine ⟨br, sg, ?_, ?_, fun _ _ => rfl⟩
  · rw [zvt_nil]; simp
  · rw [zvt_nil, List.append_nil]; exact h3
theorem zWc_app {S T : List Int} (hS : zWc n F e L S) (hT : zWc n F e L T) (hb : zbal S) (hb2 : zbal T) : zWc n F e L (S ++ T) := by
  intro A B fu W br sg d hL h1 h3 h5 h6 h7
  simp only [List.length_append] at h1
  have hp : zpk (S ++ T) = mxI (zpk S) (zpk T) := by rw [zpk_app, zlv_bal hb, Int.zero_add]
  have hm := mx_s (zpk S) (zpk T)
  rw [zcnt_app] at h5
  have hl := zvt_len hb (zfl A)
  obtain ⟨br1, sg1, a1, a3, a6⟩ := hS A (T ++ B) fu W br sg d (by rw [hL]; simp) (by omega) h3 (by omega) h6 (by omega)
  obtain ⟨br2, sg2, c1, c3, c6⟩ := hT (A ++ S) B (fu - S.length) (W ++ zvt S (zfl A)) br1 sg1 d (by rw [hL]; simp) (by omega) a3 (by rw [List.length_append]; omega) h6 (by omega)
  have et : W ++ zvt (S ++ T) (zfl A) = W ++ zvt S (zfl A) ++ zvt T (zfl (A ++ S)) := by
    rw [zvt_app hb hb2, zvf_fl hb A, List.append_assoc]
  rw [et]
  rw [show ((A ++ S).length : Int) = (A.length : Int) + S.length by simp] at c1
  refine ⟨br2, sg2, ?_, c3, fun j hj => (c6 j hj).trans (a6 j hj)⟩
  rw [a1, c1]
  simp only [List.length_append, Int.natCast_add, Nat.sub_sub, Int.add_assoc]
theorem zWc_sym (hC : zCx 180 n F L) {m : Int} (hm : 42 ≤ m ∧ m ≤ 122) : zWc n F e L [m] := by
  intro A B fu W br sg d hL h1 h3 h5 h6 h7
  have h180 := hC.1
  have lL : L.length = A.length + (1 + B.length) := by rw [hL]; simp; omega
  simp only [List.length_cons, List.length_nil] at h1
  have hcn : zcnt [m] = 1 := by simp [zcnt, zsi]; omega
  rw [hcn] at h5
  rw [(zvt_one hm.1).1]
  have c1 := (hC.at (A := A) (m := m) (T := B) (by rw [hL]; simp) (x := (A.length : Int)) rfl).1
  obtain ⟨f1, rfl⟩ : ∃ f, fu = f + 1 := ⟨fu - 1, by omega⟩
  refine ⟨br, va_up sg W.length m, ?_, zCW_add h3 (by omega), fun _ _ => rfl⟩
  simp (disch := omega) only [f_X6_write_9, z_lt_t, c1, z_bd, c_on_f, z_jn, z_eq_t, z_eq_f, c_cl_f, c_put (n := W.length) (sg := sg) (m := m) (by omega), List.length_cons, List.length_nil, List.length_append, Nat.add_sub_cancel, Int.natCast_add]
  rfl
/-- the mark before a place -/
theorem c_behind (hC : zCx 180 n F L) {A B : List Int} (hL : L = A ++ B) {x : Int} (hx : x = (A.length : Int)) : ∃ m1 : Int, f_X3_mark 180 n F (x - 1) = some m1 ∧ (m1 = 11 ↔ zfl A = true) ∧ -2147483648 ≤ m1 ∧ m1 ≤ 2147483647 := by
  rcases List.eq_nil_or_concat A with h | ⟨A0, m, h⟩
  · refine ⟨0, hC.out ?_, ?_, by decide, by decide⟩
    · rw [hx, h]; simp
    · rw [h]; decide
  · rw [List.concat_eq_append] at h
    have h1 := hC.at (A := A0) (m := m) (T := B) (by rw [hL, h]; simp) (x := x - 1) (by rw [hx, h]; simp)
    have hv := zv_rc h1.2.1
    refine ⟨m, h1.1, ?_, by omega, by omega⟩
    rw [h, zfl_snoc]
    simp
theorem zWc_str (hC : zCx 180 n F L) {k : Int} {I : List Int} (hk : 2 ≤ k ∧ k ≤ 5) (hI : zbal I) (ih : zWc n F e L I) : zWc n F e L (k :: (I ++ [k + 10])) := by
  intro A B fu W br sg d hL h1 h3 h5 h6 h7
  have h180 := hC.1
  have lS : (k :: (I ++ [k + 10])).length = I.length + 2 := by simp
  have lL : L.length = A.length + (I.length + 2 + B.length) := by rw [hL]; simp; omega
  have hpk : d + 1 + zpk I ≤ 5 := by
    have p0 := zpk_0 I
    simp only [zpk_cons, zpk_app, zop_op (m := k) ⟨by omega, hk.2⟩] at h7
    have m1 := mx_s (zpk I) (zlv I + mxI 0 (zop (k + 10) + zpk []))
    have m2 := mx_s 0 (1 + mxI (zpk I) (zlv I + mxI 0 (zop (k + 10) + zpk [])))
    omega
  have hp0 := zpk_0 I
  rw [zcnt_str hk] at h5
  rw [lS] at h1 ⊢
  obtain ⟨f1, rfl⟩ : ∃ f, fu = f + 1 := ⟨fu - 1, by omega⟩
  have c1 := (hC.at (A := A) (m := k) (T := I ++ [k + 10] ++ B) (by rw [hL]; simp) (x := (A.length : Int)) rfl).1
  have eL1 : L = (A ++ [k]) ++ (I ++ (k + 10) :: B) := by rw [hL]; simp
  have lA1 : ((A ++ [k]).length : Int) = (A.length : Int) + 1 := by simp
  have hlI := zvt_len hI false
  -- the opening
  have opn : ∃ (b : Bool) (P : List Int) (sg1 : Nat → Int), f_X6_write_9 180 n F e (f1 + 1) (W.length : Int) br sg d (A.length : Int) = f_X6_write_9 180 n F e f1 ((W ++ P).length : Int) (va_up br (d + 1).toNat (zbi (!b))) sg1 (d + 1) ((A.length : Int) + 1) ∧ zCW sg1 (W ++ P) ∧ P.length ≤ 3 ∧ zvt (k :: (I ++ [k + 10])) (zfl A) = P ++ zwu b (ztx I) 41 := by
    by_cases hk3 : k ≤ 3
    · have hk23 : k = 2 ∨ k = 3 := by omega
      obtain ⟨m1, b1, b2, b3⟩ := c_behind hC (A := A) (B := k :: (I ++ (k + 10) :: B)) (by rw [hL]; simp) (x := (A.length : Int)) rfl
      have s1 := c_base hC (Q := (k + 10) :: B) (Or.inr ⟨k + 10, B, rfl, by omega⟩) eL1 hI (x := (A.length : Int) + 1) lA1.symm
      have cb : ∃ sg1, zCW sg1 (zwu (!zfl A) W 32) ∧ (∀ {ρ : Type} (q : Int × (Nat → Int) → Option ρ), cEq m1 11 (bd (f_X6_put (W.length : Int) sg 32) (fun r10 => q (r10.1, r10.2))) (q ((W.length : Int), sg)) = q (((zwu (!zfl A) W 32).length : Int), sg1)) := by
        cases hbh : zfl A
        · have hm : ¬ m1 = 11 := by rw [b2, hbh]; simp
          refine ⟨sg, by simpa [zwu] using h3, fun q => ?_⟩
          rw [z_eq_f ⟨by omega, hm⟩]; simp [zwu]
        · have hm : m1 = 11 := b2.mpr hbh
          obtain ⟨sg1, v1, v2⟩ := c_putE 32 h3 (by omega)
          refine ⟨sg1, by simpa [zwu] using v2, fun q => ?_⟩
          rw [z_eq_t ⟨by omega, hm⟩, v1, z_bd]; simp [zwu]
      have lz := zwu_le (!zfl A) W 32
      obtain ⟨sg1, w1, w2⟩ := cb
      obtain ⟨sg2, v1, v2⟩ := c_putE (if k = 2 then 94 else 95) w1 (by omega)
      have ll2 : (zwu (!zfl A) W 32 ++ [if k = 2 then 94 else 95]).length = (zwu (!zfl A) W 32).length + 1 := by simp
      obtain ⟨b, hb⟩ : ∃ b : Bool, b = decide (zcl I = 1) := ⟨_, rfl⟩
      have s2 : f_X6_standsAsBase 180 n F ((A.length : Int) + 1) = some (zbi b) := by
        rw [s1, hb]
        by_cases hz : zcl I = 1
        · rw [if_pos hz, decide_eq_true hz]; rfl
        · rw [if_neg hz, decide_eq_false hz]; rfl
      obtain ⟨sg3, u1, u2⟩ := c_beginE (br := br) (d := d + 1) b v2 (by omega) (by omega)
      have lz3 := zwu_le b (zwu (!zfl A) W 32 ++ [if k = 2 then 94 else 95]) 40
      have eP : zwu b (zwu (!zfl A) W 32 ++ [if k = 2 then 94 else 95]) 40 = W ++ ((if zfl A = true then [32] else []) ++ (if k = 2 then 94 else 95) :: (if b = true then [] else [40])) := by
        cases zfl A <;> cases b <;> simp [zwu]
      refine ⟨b, (if zfl A = true then [32] else []) ++ (if k = 2 then 94 else 95) :: (if b = true then [] else [40]), sg3, ?_, by rw [← eP]; exact u2, ?_, ?_⟩
      · have hbeg : f_X6_beginStructure 180 (W.length : Int) br sg n F (A.length : Int) (d + 1) = some (((zwu b (zwu (!zfl A) W 32 ++ [if k = 2 then 94 else 95]) 40).length : Int), va_up br (d + 1).toNat (zbi (!b)), sg3) := by
          unfold f_X6_beginStructure
          simp (disch := omega) only [c1, z_bd, z_jn, z_eq_f, c_sc_t, b1]
          have hcont := w2 (fun z11 => cEq k 2 (bd (f_X6_put z11.1 z11.2 94) (fun r14 => bd (f_X6_standsAsBase 180 n F ((A.length : Int) + 1)) (fun r15 => cEq r15 0 (bd (f_X6_beginSlot r14.1 br r14.2 (d + 1) 1) (fun r18 => some (r18.1, r18.2.1, r18.2.2))) (bd (f_X6_beginSlot r14.1 br r14.2 (d + 1) 0) (fun r18 => some (r18.1, r18.2.1, r18.2.2)))))) (bd (f_X6_put z11.1 z11.2 95) (fun r14 => bd (f_X6_standsAsBase 180 n F ((A.length : Int) + 1)) (fun r15 => cEq r15 0 (bd (f_X6_beginSlot r14.1 br r14.2 (d + 1) 1) (fun r18 => some (r18.1, r18.2.1, r18.2.2))) (bd (f_X6_beginSlot r14.1 br r14.2 (d + 1) 0) (fun r18 => some (r18.1, r18.2.1, r18.2.2)))))))
          refine Eq.trans hcont ?_
          have fin : ∀ c : Int, (if k = 2 then (94 : Int) else 95) = c → bd (f_X6_put ((zwu (!zfl A) W 32).length : Int) sg1 c) (fun r14 => bd (f_X6_standsAsBase 180 n F ((A.length : Int) + 1)) (fun r15 => cEq r15 0 (bd (f_X6_beginSlot r14.1 br r14.2 (d + 1) 1) (fun r18 => some (r18.1, r18.2.1, r18.2.2))) (bd (f_X6_beginSlot r14.1 br r14.2 (d + 1) 0) (fun r18 => some (r18.1, r18.2.1, r18.2.2))))) = some (((zwu b (zwu (!zfl A) W 32 ++ [if k = 2 then 94 else 95]) 40).length : Int), va_up br (d + 1).toNat (zbi (!b)), sg3) := by
            intro c hc
            rw [← hc, v1, z_bd, s2, z_bd]
            cases hbb : b
            · rw [hbb, Bool.not_false, zbi_t] at u1
              rw [zbi_f, z_eq_t (by omega)]
              simp only [u1, z_bd, Bool.not_false, zbi_t]
            · rw [hbb, Bool.not_true, zbi_f] at u1
              rw [zbi_t, z_eq_f (by omega)]
              simp only [u1, z_bd, Bool.not_true, zbi_f]
          by_cases hk2 : k = 2
          · rw [z_eq_t (by omega)]; exact fin 94 (if_pos hk2)
          · rw [z_eq_f (by omega)]; exact fin 95 (if_neg hk2)
        rw [eP] at hbeg
        simp (disch := omega) only [f_X6_write_9, z_lt_t, c1, z_bd, c_on_t, z_jn, z_eq_f, hbeg]
      · cases zfl A <;> cases b <;> simp
      · rw [(zvt_s hk23 hI).1, hb]
        unfold zbas
        by_cases hz : zcl I = 1
        · rw [if_pos hz, decide_eq_true hz]; simp [zwu]
        · rw [if_neg hz, decide_eq_false hz]; simp [zwu]
    · have hk45 : k = 4 ∨ k = 5 := by omega
      have lz := zwu_le (decide (k = 5)) W 114
      have cb : ∃ sg1, zCW sg1 (zwu (decide (k = 5)) W 114) ∧ (∀ {ρ : Type} (q : Int × (Nat → Int) → Option ρ), cEq k 4 (bd (f_X6_put (W.length : Int) sg 114) (fun r10 => q (r10.1, r10.2))) (q ((W.length : Int), sg)) = q (((zwu (decide (k = 5)) W 114).length : Int), sg1)) := by
        rcases hk45 with hk4 | hk5
        · obtain ⟨sg1, v1, v2⟩ := c_putE 114 h3 (by omega)
          have e5 : decide (k = 5) = false := decide_eq_false (by omega)
          refine ⟨sg1, by rw [e5]; simpa [zwu] using v2, fun q => ?_⟩
          rw [z_eq_t (by omega), v1, z_bd, e5]; simp [zwu]
        · have e5 : decide (k = 5) = true := decide_eq_true hk5
          refine ⟨sg, by rw [e5]; simpa [zwu] using h3, fun q => ?_⟩
          rw [z_eq_f (by omega), e5]; simp [zwu]
      obtain ⟨sg1, w1, w2⟩ := cb
      obtain ⟨sg3, u1, u2⟩ := c_beginE (br := br) (d := d + 1) false w1 (by omega) (by omega)
      rw [Bool.not_false, zbi_t] at u1
      have eP : zwu false (zwu (decide (k = 5)) W 114) 40 = W ++ (if k = 5 then [40] else [114, 40]) := by
        rcases hk45 with hk4 | hk5
        · rw [if_neg (by omega), decide_eq_false (show ¬ k = 5 by omega)]; simp [zwu]
        · rw [if_pos hk5, decide_eq_true hk5]; simp [zwu]
      refine ⟨false, if k = 5 then [40] else [114, 40], sg3, ?_, by rw [← eP]; exact u2, ?_, ?_⟩
      · have hbeg : f_X6_beginStructure 180 (W.length : Int) br sg n F (A.length : Int) (d + 1) = some (((zwu false (zwu (decide (k = 5)) W 114) 40).length : Int), va_up br (d + 1).toNat (zbi (!false)), sg3) := by
          unfold f_X6_beginStructure
          simp (disch := omega) only [c1, z_bd, z_jn, z_eq_f, c_sc_f, z_eq_t]
          refine Eq.trans (w2 (fun z6 => bd (f_X6_beginSlot z6.1 br z6.2 (d + 1) 1) (fun r7 => some (r7.1, r7.2.1, r7.2.2)))) ?_
          simp only [u1, z_bd]
          rfl
        rw [eP] at hbeg
        simp (disch := omega) only [f_X6_write_9, z_lt_t, c1, z_bd, c_on_t, z_jn, z_eq_f, hbeg]
      · split <;> simp
      · rcases hk45 with hk4 | hk5
        · subst hk4
          have := (zvt_4 (fr := zfl A) hI).1
          show zvt (4 :: (I ++ [14])) (zfl A) = _
          rw [this]; simp [zwu]
        · subst hk5
          have := (zvt_5 (fr := zfl A) hI).1
          show zvt (5 :: (I ++ [15])) (zfl A) = _
          rw [this]; simp [zwu]
  obtain ⟨b, P, sg1, o1, o3, o5, o6⟩ := opn
  obtain ⟨br2, sg2, i1, i3, i6⟩ := ih (A ++ [k]) ((k + 10) :: B) f1 (W ++ P) (va_up br (d + 1).toNat (zbi (!b))) sg1 (d + 1) eL1 (by omega) o3 (by rw [List.length_append]; omega) (by omega) hpk
  rw [lA1] at i1
  have hfA : zfl (A ++ [k]) = false := by rw [zfl_snoc, decide_eq_false (by omega)]
  rw [hfA] at i1 i3
  have hb2 : br2 (d + 1).toNat = zbi (!b) := by rw [i6 _ (by omega), vup_eq]
  obtain ⟨g1, hg1⟩ : ∃ f, f1 - I.length = f + 1 := ⟨f1 - I.length - 1, by omega⟩
  rw [hg1] at i1
  have eL2 : L = (A ++ k :: I) ++ (k + 10) :: B := by rw [hL]; simp
  have c2 := (hC.at (A := A ++ k :: I) (m := k + 10) (T := B) eL2 (x := (A.length : Int) + 1 + I.length) (by simp; omega)).1
  have hlW : (W ++ P ++ zvt I false).length < 300 := by simp only [List.length_append]; omega
  obtain ⟨sg3, u1, u2⟩ := c_endE (br := br2) (d := d + 1) b i3 hlW (by omega) hb2
  have et : zwu b (W ++ P ++ zvt I false) 41 = W ++ zvt (k :: (I ++ [k + 10])) (zfl A) := by
    rw [o6]
    cases b <;> simp [zwu]
  rw [et] at u1 u2
  refine ⟨br2, sg3, ?_, u2, fun j hj => by rw [i6 j (by omega), vup_ne (by omega)]⟩
  rw [o1, i1]
  have ef : f1 + 1 - (I.length + 2) = g1 := by omega
  rw [ef]
  have ed : d + 1 + (-1) = d := by omega
  have ex : (A.length : Int) + 1 + I.length + 1 = (A.length : Int) + ((I.length + 2 : Nat) : Int) := by omega
  simp (disch := omega) only [f_X6_write_9, z_lt_t, c2, z_bd, c_on_f, z_jn, z_eq_t, z_eq_f, c_cl_t, u1, ed, ex]
set_option maxHeartbeats 4000000 in
theorem zWc_frac (hC : zCx 180 n F L) (hcL : zcnt L ≤ 60) {I J : List Int} (hI : zbal I) (hJ : zbal J) (ihI : zWc n F e L I) (ihJ : zWc n F e L J) : zWc n F e L (1 :: (I ++ 6 :: (J ++ [11]))) := by
  intro A B fu W br sg d hL h1 h3 h5 h6 h7
  have h180 := hC.1
  have lS : (1 :: (I ++ 6 :: (J ++ [11]))).length = I.length + J.length + 3 := by simp; omega
  have lL : L.length = A.length + (I.length + J.length + 3 + B.length) := by rw [hL]; simp; omega
  have hcI : zcnt I ≤ 60 ∧ zcnt J ≤ 60 := by
    have : zcnt L = zcnt A + (1 + zcnt I + zcnt J) + zcnt B := by rw [hL, zcnt_app, zcnt_app, zcnt_frac]; omega
    omega
  have hp0 := zpk_0 I
  have hp1 := zpk_0 J
  have hpk : d + 1 + zpk I ≤ 5 ∧ d + 1 + zpk J ≤ 5 := by
    have lI := zlv_bal hI
    simp only [zpk_cons, zpk_app, zop_op (m := 1) ⟨by omega, by omega⟩, zop_6, lI] at h7
    have m1 := mx_s (zpk J) (zlv J + mxI 0 (zop 11 + zpk []))
    have m2 := mx_s 0 (0 + mxI (zpk J) (zlv J + mxI 0 (zop 11 + zpk [])))
    have m3 := mx_s (zpk I) (0 + mxI 0 (0 + mxI (zpk J) (zlv J + mxI 0 (zop 11 + zpk []))))
    have m4 := mx_s 0 (1 + mxI (zpk I) (0 + mxI 0 (0 + mxI (zpk J) (zlv J + mxI 0 (zop 11 + zpk [])))))
    omega
  rw [zcnt_frac] at h5
  rw [lS] at h1 ⊢
  have hlI := zvt_len hI false
  have hlJ := zvt_len hJ false
  obtain ⟨f1, rfl⟩ : ∃ f, fu = f + 1 := ⟨fu - 1, by omega⟩
  have eL0 : L = A ++ 1 :: (I ++ 6 :: (J ++ 11 :: B)) := by rw [hL]; simp
  have c1 := (hC.at (A := A) (m := 1) eL0 (x := (A.length : Int)) rfl).1
  have eL1 : L = (A ++ [1]) ++ (I ++ 6 :: (J ++ 11 :: B)) := by rw [hL]; simp
  have lA1 : ((A ++ [1]).length : Int) = (A.length : Int) + 1 := by simp
  have eL2 : L = (A ++ 1 :: I) ++ 6 :: (J ++ 11 :: B) := by rw [hL]; simp
  have lA2 : ((A ++ 1 :: I).length : Int) = (A.length : Int) + 1 + I.length := by simp; omega
  have eL3 : L = (A ++ 1 :: (I ++ [6])) ++ (J ++ 11 :: B) := by rw [hL]; simp
  have lA3 : ((A ++ 1 :: (I ++ [6])).length : Int) = (A.length : Int) + 1 + I.length + 1 := by simp; omega
  have eL4 : L = (A ++ 1 :: (I ++ 6 :: J)) ++ 11 :: B := by rw [hL]; simp
  have lA4 : ((A ++ 1 :: (I ++ 6 :: J)).length : Int) = (A.length : Int) + 1 + I.length + 1 + J.length := by simp; omega
  have hzb : ∀ T : List Int, (if zcl T = 1 ∨ zcl T = 3 then (1 : Int) else 0) = zbi (decide (zcl T = 1 ∨ zcl T = 3)) := by
    intro T
    by_cases h : zcl T = 1 ∨ zcl T = 3
    · rw [if_pos h, decide_eq_true h]; rfl
    · rw [if_neg h, decide_eq_false h]; rfl
  have s1 := c_short hC (Q := 6 :: (J ++ 11 :: B)) (Or.inr ⟨6, _, rfl, by omega⟩) eL1 hI hcI.1 (x := (A.length : Int) + 1) lA1.symm
  have s3 := c_short hC (Q := 11 :: B) (Or.inr ⟨11, _, rfl, by omega⟩) eL3 hJ hcI.2 (x := (A.length : Int) + 1 + I.length + 1) lA3.symm
  rw [hzb] at s1 s3
  obtain ⟨b1, hb1⟩ : ∃ b : Bool, b = decide (zcl I = 1 ∨ zcl I = 3) := ⟨_, rfl⟩
  obtain ⟨b2, hb2'⟩ : ∃ b : Bool, b = decide (zcl J = 1 ∨ zcl J = 3) := ⟨_, rfl⟩
  rw [← hb1] at s1
  rw [← hb2'] at s3
  have hflip : ∀ (b : Bool) {ρ : Type} (q : Int → Option ρ), cEq (zbi b) 0 (q 1) (q 0) = q (zbi (!b)) := by
    intro b ρ q
    cases b
    · rw [zbi_f, z_eq_t (by omega)]; rfl
    · rw [zbi_t, z_eq_f (by omega)]; rfl
  -- the opening
  obtain ⟨sg1, u1, u2⟩ := c_beginE (br := br) (d := d + 1) b1 h3 (by omega) (by omega)
  have lz1 := zwu_le b1 W 40
  have o1 : f_X6_write_9 180 n F e (f1 + 1) (W.length : Int) br sg d (A.length : Int) = f_X6_write_9 180 n F e f1 ((zwu b1 W 40).length : Int) (va_up br (d + 1).toNat (zbi (!b1))) sg1 (d + 1) ((A.length : Int) + 1) := by
    have hbeg : f_X6_beginStructure 180 (W.length : Int) br sg n F (A.length : Int) (d + 1) = some (((zwu b1 W 40).length : Int), va_up br (d + 1).toNat (zbi (!b1)), sg1) := by
      unfold f_X6_beginStructure
      simp (disch := omega) only [c1, z_bd, z_jn, z_eq_t, s1]
      refine Eq.trans (hflip b1 (fun z21 => bd (f_X6_beginSlot (W.length : Int) br sg (d + 1) z21) (fun r22 => some (r22.1, r22.2.1, r22.2.2)))) ?_
      rw [u1, z_bd]
    simp (disch := omega) only [f_X6_write_9, z_lt_t, c1, z_bd, c_on_t, z_jn, z_eq_f, hbeg]
  obtain ⟨br2, sg2, i1, i3, i6⟩ := ihI (A ++ [1]) (6 :: (J ++ 11 :: B)) f1 (zwu b1 W 40) (va_up br (d + 1).toNat (zbi (!b1))) sg1 (d + 1) eL1 (by omega) u2 (by omega) (by omega) hpk.1
  rw [lA1] at i1
  have hfA : zfl (A ++ [1]) = false := by rw [zfl_snoc]; rfl
  rw [hfA] at i1 i3
  have hbr2 : br2 (d + 1).toNat = zbi (!b1) := by rw [i6 _ (by omega), vup_eq]
  obtain ⟨g1, hg1⟩ : ∃ f, f1 - I.length = f + 1 := ⟨f1 - I.length - 1, by omega⟩
  rw [hg1] at i1
  obtain ⟨W2, hW2⟩ : ∃ w, w = zwu b1 W 40 ++ zvt I false := ⟨_, rfl⟩
  rw [← hW2] at i1 i3
  have lW2 : W2.length = (zwu b1 W 40).length + (zvt I false).length := by rw [hW2, List.length_append]
  -- the middle
  have c2 := (hC.at (A := A ++ 1 :: I) (m := 6) eL2 (x := (A.length : Int) + 1 + I.length) lA2.symm).1
  have lz2 := zwu_le b1 W2 41
  have lz3 : (zwu b1 W2 41 ++ [47]).length = (zwu b1 W2 41).length + 1 := by simp
  have lz4 := zwu_le b2 (zwu b1 W2 41 ++ [47]) 40
  obtain ⟨sg3, p1, p2⟩ := c_endE (br := br2) (d := d + 1) b1 i3 (by omega) (by omega) hbr2
  obtain ⟨sg4, p3, p4⟩ := c_putE 47 p2 (by omega)
  obtain ⟨sg5, p5, p6⟩ := c_beginE (br := br2) (d := d + 1) b2 p4 (by omega) (by omega)
  have m1 : f_X6_write_9 180 n F e (g1 + 1) (W2.length : Int) br2 sg2 (d + 1) ((A.length : Int) + 1 + I.length) = f_X6_write_9 180 n F e g1 ((zwu b2 (zwu b1 W2 41 ++ [47]) 40).length : Int) (va_up br2 (d + 1).toNat (zbi (!b2))) sg5 (d + 1) ((A.length : Int) + 1 + I.length + 1) := by
    simp (disch := omega) only [f_X6_write_9, z_lt_t, c2, z_bd, c_on_f, z_jn, z_eq_t, p1, p3, s3]
    cases b2
    · rw [Bool.not_false, zbi_t] at p5
      rw [zbi_f, z_eq_t (by omega), p5, z_bd, Bool.not_false, zbi_t]
    · rw [Bool.not_true, zbi_f] at p5
      rw [zbi_t, z_eq_f (by omega), p5, z_bd, Bool.not_true, zbi_f]
  obtain ⟨br3, sg6, j1, j3, j6⟩ := ihJ (A ++ 1 :: (I ++ [6])) (11 :: B) g1 (zwu b2 (zwu b1 W2 41 ++ [47]) 40) (va_up br2 (d + 1).toNat (zbi (!b2))) sg5 (d + 1) eL3 (by omega) p6 (by omega) (by omega) hpk.2
  rw [lA3] at j1
  have hfB : zfl (A ++ 1 :: (I ++ [6])) = false := by
    have e : A ++ 1 :: (I ++ [6]) = (A ++ 1 :: I) ++ [6] := by simp
    rw [e, zfl_snoc]; rfl
  rw [hfB] at j1 j3
  have hbr3 : br3 (d + 1).toNat = zbi (!b2) := by rw [j6 _ (by omega), vup_eq]
  obtain ⟨q1, hq1⟩ : ∃ f, g1 - J.length = f + 1 := ⟨g1 - J.length - 1, by omega⟩
  rw [hq1] at j1
  obtain ⟨W3, hW3⟩ : ∃ w, w = zwu b2 (zwu b1 W2 41 ++ [47]) 40 ++ zvt J false := ⟨_, rfl⟩
  rw [← hW3] at j1 j3
  have lW3 : W3.length = (zwu b2 (zwu b1 W2 41 ++ [47]) 40).length + (zvt J false).length := by rw [hW3, List.length_append]
  -- the end
  have c3 := (hC.at (A := A ++ 1 :: (I ++ 6 :: J)) (m := 11) eL4 (x := (A.length : Int) + 1 + I.length + 1 + J.length) lA4.symm).1
  obtain ⟨sg7, y1, y2⟩ := c_endE (br := br3) (d := d + 1) b2 j3 (by omega) (by omega) hbr3
  have ed : d + 1 + (-1) = d := by omega
  have ex : (A.length : Int) + 1 + I.length + 1 + J.length + 1 = (A.length : Int) + ((I.length + J.length + 3 : Nat) : Int) := by omega
  have et : zwu b2 W3 41 = W ++ zvt (1 :: (I ++ 6 :: (J ++ [11]))) (zfl A) := by
    rw [(zvt_q hI hJ).1, hW3, hW2]
    unfold zopd
    by_cases z1 : zcl I = 1 ∨ zcl I = 3
    · rw [decide_eq_true z1] at hb1
      by_cases z2 : zcl J = 1 ∨ zcl J = 3
      · rw [decide_eq_true z2] at hb2'
        rw [if_pos z1, if_pos z2, hb1, hb2']; simp [zwu]
      · rw [decide_eq_false z2] at hb2'
        rw [if_pos z1, if_neg z2, hb1, hb2']; simp [zwu]
    · rw [decide_eq_false z1] at hb1
      by_cases z2 : zcl J = 1 ∨ zcl J = 3
      · rw [decide_eq_true z2] at hb2'
        rw [if_neg z1, if_pos z2, hb1, hb2']; simp [zwu]
      · rw [decide_eq_false z2] at hb2'
        rw [if_neg z1, if_neg z2, hb1, hb2']; simp [zwu]
  rw [et] at y1 y2
  refine ⟨br3, sg7, ?_, y2, fun j hj => by rw [j6 j (by omega), vup_ne (by omega), i6 j (by omega), vup_ne (by omega)]⟩
  rw [o1, i1, m1, j1]
  have ef : f1 + 1 - (I.length + J.length + 3) = q1 := by omega
  rw [ef]
  simp (disch := omega) only [f_X6_write_9, z_lt_t, c3, z_bd, c_on_f, z_jn, z_eq_t, z_eq_f, c_cl_t, y1, ed, ex]
theorem zWc_bal (hC : zCx 180 n F L) (hcL : zcnt L ≤ 60) : ∀ {S : List Int}, zbal S → zWc n F e L S := by
  intro S hS
  refine zbal_ind2 (P := fun S => zWc n F e L S) zWc_nil ?_ ?_ ?_ S.length S (Nat.le_refl _) hS
  · intro m T hm hT ih
    have := zWc_app (zWc_sym (e := e) hC hm.1) ih (zit_bal (Or.inl ⟨m, rfl, hm.1, hm.2⟩)) hT
    simpa using this
  · intro k I T hk hI hT ihI ihT
    have := zWc_app (zWc_str (e := e) hC hk hI ihI) ihT (zit_bal (Or.inr (Or.inl ⟨k, I, rfl, hk.1, hk.2, hI⟩))) hT
    simpa using this
  · intro I J T hI hJ hT ihI ihJ ihT
    have := zWc_app (zWc_frac (e := e) hC hcL hI hJ ihI ihJ) ihT (zit_bal (Or.inr (Or.inr ⟨I, J, rfl, hI, hJ⟩))) hT
    simpa using this
end WC
/-- the linear text of a formula -/
theorem c_write {n : Int} {F : Nat → Int} {L : List Int} (hC : zCx 180 n F L) (hbL : zbal L) (hcL : zcnt L ≤ 60) (hpL : zpk L ≤ 5) (wl : Int) (br sg : Nat → Int) : ∃ br' sg', f_X6_write 180 wl br sg n F = some (((ztx L).length : Int), br', sg') ∧ zCW sg' (ztx L) ∧ (ztx L).length ≤ 300 := by
  have h180 := hC.1
  have hl : (ztx L).length ≤ 5 * zcnt L := zvt_len hbL false
  obtain ⟨br', sg', a1, a2, a3⟩ := zWc_bal hC hcL (e := fun (z15 : Int × (Nat → Int) × (Nat → Int) × Int × Int) => some (z15.1, z15.2.1, z15.2.2.1)) hbL [] [] fuel [] br sg 0 (by simp) (by unfold fuel; omega) zCW_nil (by simp; omega) (Int.le_refl 0) (by omega)
  rw [show zfl [] = false from rfl] at a1 a2
  simp only [List.length_nil, List.nil_append] at a1 a2
  obtain ⟨f1, hf1⟩ : ∃ f, fuel - L.length = f + 1 := ⟨fuel - L.length - 1, by unfold fuel; omega⟩
  rw [hf1] at a1
  refine ⟨br', sg', ?_, a2, by omega⟩
  unfold f_X6_write
  refine Eq.trans a1 ?_
  rw [f_X6_write_9, z_lt_f (by simp; omega)]
