/-! p30: what stands without brackets, by the row's class -/
theorem zcc_n {X : List Int} (hX : zit X) {m : Int} {Y : List Int} (e : X = m :: Y) : (m = 2 ∨ m = 3 → ∀ c : Nat, (c = 1 ∨ c = 2 ∨ c = 3) → zcc X c = 3) ∧ (¬ (m = 2 ∨ m = 3) → ∀ c : Nat, c ≠ 0 → zcc X c = 4) ∧ zcc X 0 = (if zlt m = true ∨ m = 4 then 1 else if m = 5 then 2 else 4) := by
  rcases hX with ⟨m2, rfl, a, b⟩ | ⟨k, I, rfl, a, b, hI⟩ | ⟨I, J, rfl, hI, hJ⟩
  · obtain ⟨rfl, -⟩ := List.cons.inj e
    refine ⟨fun h => by omega, fun _ c hc => ?_, ?_⟩
    · rw [zcc_one a.1, if_neg (fun z => hc z.2)]
    · rw [zcc_one a.1]
      by_cases h : zlt m2 = true
      · rw [if_pos ⟨h, rfl⟩, if_pos (Or.inl h)]
      · rw [if_neg (fun z => h z.1), if_neg (fun z => by rcases z with z | z; exact h z; omega), if_neg (by omega)]
  · obtain ⟨rfl, -⟩ := List.cons.inj e
    have hl : zlt k = false := by
      unfold zlt; rw [(zle_op b).1, (zle_op b).2]; rfl
    have hk : (k = 2 ∨ k = 3) ∨ k = 4 ∨ k = 5 := by omega
    rcases hk with hk | rfl | rfl
    · refine ⟨fun _ c hc => by rw [zcc_s hk hI, if_pos hc], fun h => absurd hk h, ?_⟩
      rw [zcc_s hk hI, if_neg (by omega), hl, if_neg (fun z => by rcases z with z | z; cases z; omega), if_neg (by omega)]
    · refine ⟨fun h => by omega, fun _ c hc => ?_, ?_⟩
      · exact (zcc_4 hI).trans (if_neg hc)
      · exact (zcc_4 hI).trans (by rw [if_pos rfl, if_pos (Or.inr rfl)])
    · refine ⟨fun h => by omega, fun _ c hc => ?_, ?_⟩
      · exact (zcc_5 hI).trans (if_neg hc)
      · exact (zcc_5 hI).trans (by rw [if_pos rfl, hl, if_neg (fun z => by rcases z with z | z; cases z; omega), if_pos rfl])
  · obtain ⟨rfl, -⟩ := List.cons.inj e
    refine ⟨fun h => by omega, fun _ c hc => zcc_q hI hJ, ?_⟩
    rw [zcc_q hI hJ, if_neg (fun z => by rcases z with z | z; exact absurd z (by decide); omega), if_neg (by omega)]
theorem zcc_123 {T : List Int} (hT : zbal T) (hn : T ≠ []) : zcc T 1 = zcc T 3 ∧ zcc T 2 = zcc T 3 ∧ (zcc T 3 = 3 ∨ zcc T 3 = 4) := by
  have h34 : ∀ n : Nat, ∀ R : List Int, R.length ≤ n → zbal R → zcc R 3 = 3 ∨ zcc R 3 = 4 := by
    intro n
    induction n with
    | zero =>
      intro R hR _
      have hR0 : R = [] := List.length_eq_zero_iff.mp (by omega)
      rw [hR0]; exact Or.inl rfl
    | succ n ih =>
      intro R hR hb
      by_cases hr : R = []
      · rw [hr]; exact Or.inl rfl
      · obtain ⟨X, R1, rfl, hX, hR1⟩ := zitF hb hr
        obtain ⟨m, Y, e, -, -⟩ := zit_first hX
        obtain ⟨c1, c2, -⟩ := zcc_n hX e
        have hl := zit_ne hX
        rw [List.length_append] at hR
        rw [zcc_app (zit_bal hX) hR1]
        by_cases hm : m = 2 ∨ m = 3
        · rw [c1 hm 3 (by omega)]; exact ih R1 (by omega) hR1
        · rw [c2 hm 3 (by omega)]; exact Or.inr ((zcc_b hR1 4).1 rfl)
  obtain ⟨X, R1, rfl, hX, hR1⟩ := zitF hT hn
  obtain ⟨m, Y, e, -, -⟩ := zit_first hX
  obtain ⟨c1, c2, -⟩ := zcc_n hX e
  refine ⟨?_, ?_, h34 _ _ (Nat.le_refl _) hT⟩
  · rw [zcc_app (zit_bal hX) hR1, zcc_app (zit_bal hX) hR1]
    by_cases hm : m = 2 ∨ m = 3
    · rw [c1 hm 1 (by omega), c1 hm 3 (by omega)]
    · rw [c2 hm 1 (by omega), c2 hm 3 (by omega)]
  · rw [zcc_app (zit_bal hX) hR1, zcc_app (zit_bal hX) hR1]
    by_cases hm : m = 2 ∨ m = 3
    · rw [c1 hm 2 (by omega), c1 hm 3 (by omega)]
    · rw [c2 hm 2 (by omega), c2 hm 3 (by omega)]
section SH
variable {n : Int} {F : Nat → Int} {L Q : List Int}
theorem c_sc_loop (hC : zCx 180 n F L) (hQ : zbeg Q) {e : Int × Int × Int → Option Int} : ∀ (k : Nat) (T U : List Int) (fu : Nat) (x z i : Int), T.length ≤ k → zbal T → L = U ++ (T ++ Q) → T.length < fu → x = (U.length : Int) → 0 ≤ z → z ≤ i → i + zcnt T ≤ 59 → ∃ (z' p' i' mm : Int), f_X6_standsAsOperand_44 180 n F e fu z x i = e (z', p', i') ∧ z ≤ z' ∧ z' ≤ 60 ∧ (T ≠ [] → zcc T 3 = 3 → z < z') ∧ f_X3_mark 180 n F p' = some mm ∧ f_X7_startsItem mm = some (if zcc T 3 = 3 then 0 else 1) ∧ (T = [] → z' = z)
  | k, T, U, 0, x, z, i, hk, hT, hL, h1, hx, hz, hzi, hi => by omega
  | k, T, U, fu1 + 1, x, z, i, hk, hT, hL, h1, hx, hz, hzi, hi => by
    have h180 := hC.1
    have lL : L.length = U.length + (T.length + Q.length) := by rw [hL]; simp
    rcases c_next hC (A := U) (R2 := T) (Q := Q) hL hQ hT hx with ⟨i0, m, m1, m2⟩ | ⟨X, T1, m, m0, m1, m2, m3, m4, Y, m5⟩
    · refine ⟨z, x, i, m, ?_, by omega, by omega, fun h => absurd i0 h, m1, ?_, fun _ => rfl⟩
      · simp (disch := omega) only [f_X6_standsAsOperand_44, z_lt_t, m1, z_bd, c_sc_f, z_eq_t]
      · rw [c_st_f (by omega), i0]; rfl
    · have hXl := zit_ne m1
      have hTn : T ≠ [] := by intro h; rw [h] at m0; have := congrArg List.length m0; simp at this; omega
      have lT : T.length = X.length + T1.length := by rw [m0]; simp
      have ci := c_ie hC (A := U) (X := X) (T := T1 ++ Q) (by rw [hL, m0]; simp) m1 hx
      have hcX : zcnt T = zcnt X + zcnt T1 := by rw [m0, zcnt_app]
      have hcX1 : 1 ≤ zcnt X := by rw [m5]; simp only [zcnt]; rw [if_pos (by simp [zsi]; omega)]; omega
      obtain ⟨q1, q2, -⟩ := zcc_n m1 m5
      have hcc : zcc T 3 = zcc T1 (zcc X 3) := by rw [m0, zcc_app (zit_bal m1) m2]
      cases k with
      | zero => omega
      | succ k =>
        by_cases hs : m = 2 ∨ m = 3
        · rw [q1 hs 3 (by omega)] at hcc
          obtain ⟨z', p', i', mm, a1, a3, a4, a5, a6, a7, a8⟩ := c_sc_loop hC hQ (e := e) k T1 (U ++ X) fu1 ((U.length : Int) + X.length) (z + 1) (i + 1) (by omega) m2 (by rw [hL, m0]; simp) (by omega) (by simp) (by omega) (by omega) (by omega)
          refine ⟨z', p', i', mm, ?_, by omega, a4, fun _ _ => by omega, a6, by rw [hcc]; exact a7, fun h => absurd h hTn⟩
          simp (disch := omega) only [f_X6_standsAsOperand_44, z_lt_t, m3, z_bd, c_sc_t, z_eq_f, ci, a1]
        · rw [q2 hs 3 (by omega), (zcc_b m2 4).1 rfl] at hcc
          refine ⟨z, x, i, m, ?_, by omega, by omega, fun _ h => by omega, m3, ?_, fun h => absurd h hTn⟩
          · simp (disch := omega) only [f_X6_standsAsOperand_44, z_lt_t, m3, z_bd, c_sc_f, z_eq_t]
          · rw [c_st_t (by omega), hcc]; rfl
theorem c_short (hC : zCx 180 n F L) (hQ : zbeg Q) {T U : List Int} (hL : L = U ++ (T ++ Q)) (hT : zbal T) (hcn : zcnt T ≤ 60) {x : Int} (hx : x = (U.length : Int)) : f_X6_standsAsOperand 180 n F x = some (if zcl T = 1 ∨ zcl T = 3 then 1 else 0) := by
  have h180 := hC.1
  have lL : L.length = U.length + (T.length + Q.length) := by rw [hL]; simp
  rcases c_next hC (A := U) (R2 := T) (Q := Q) hL hQ hT hx with ⟨i0, m, m1, m2⟩ | ⟨X, T1, m, m0, m1, m2, m3, m4, Y, m5⟩
  · obtain ⟨k1, k2, k3, k4⟩ := zbs_n m2
    rw [i0, if_neg (by decide)]
    unfold f_X6_standsAsOperand
    rw [m1, z_bd, c_le (by omega), z_bd, k1, zbi_f]
    rw [z_jn, z_eq_t (by omega), c_di (by omega), z_bd, k2, zbi_f, z_eq_t (by omega), z_eq_f (by omega), z_eq_f (by omega), z_gB (by omega)]
  · have hXl := zit_ne m1
    have lT : T.length = X.length + T1.length := by rw [m0]; simp
    have ci := c_ie hC (A := U) (X := X) (T := T1 ++ Q) (by rw [hL, m0]; simp) m1 hx
    have hcX : zcnt T = zcnt X + zcnt T1 := by rw [m0, zcnt_app]
    have hcX1 : 1 ≤ zcnt X := by rw [m5]; simp only [zcnt]; rw [if_pos (by simp [zsi]; omega)]; omega
    have hmb : -2147483648 ≤ m ∧ m ≤ 2147483647 := by omega
    obtain ⟨-, -, q3⟩ := zcc_n m1 m5
    have hcc : zcl T = zcc T1 (zcc X 0) := by rw [m0]; exact zcc_app (zit_bal m1) m2 0
    have hzl : (zlt m = true ∨ m = 4) ↔ zbs m = true := by
      unfold zlt zbs
      simp
    have cfirst : ∀ {ρ : Type} (q : Unit → Option ρ) (z : Option ρ), cEq (zbi (zle m)) 0 (bd (f_X7_isDigit m) (fun r4 => cEq r4 0 (cEq m 4 (q ()) (cEq m 5 (q ()) z)) (q ()))) (q ()) = if zbs m = true ∨ m = 5 then q () else z := by
      intro ρ q z
      rw [c_di hmb, z_bd]
      unfold zbs
      cases hz1 : zle m
      · rw [zbi_f, z_eq_t (by omega)]
        cases hz2 : zdi m
        · rw [zbi_f, z_eq_t (by omega)]
          by_cases h4 : m = 4
          · rw [z_eq_t (by omega), if_pos]; left; simp [h4]
          · rw [z_eq_f (by omega)]
            by_cases h5 : m = 5
            · rw [z_eq_t (by omega), if_pos]; right; exact h5
            · rw [z_eq_f (by omega), if_neg]; simp [h4, h5]
        · rw [zbi_t, z_eq_f (by omega), if_pos]; left; simp
      · rw [zbi_t, z_eq_f (by omega), if_pos]; left; simp
    obtain ⟨z', p', i', mm, a1, a3, a4, a5, a6, a7, a8⟩ := c_sc_loop hC hQ (e := fun (z10 : Int × Int × Int) => bd (f_X3_mark 180 n F z10.2.1) (fun r11 => bd (f_X7_startsItem r11) (fun r12 => jn (fun (z14 : Int) => jn (fun (z20 : Int) => gB z20 (some z20)) (fun k16 => jn (fun (z19 : Unit) => k16 0) (fun k15 => cEq z14 0 (k15 ()) (jn (fun (z18 : Unit) => k16 1) (fun k17 => cEq m 5 (cLt 0 z10.1 (k17 ()) (k15 ())) (k17 ())))))) (fun k13 => cEq r12 0 (k13 1) (k13 0))))) T1.length T1 (U ++ X) fuel ((U.length : Int) + X.length) 0 0 (Nat.le_refl _) m2 (by rw [hL, m0]; simp) (by unfold fuel; omega) (by simp) (Int.le_refl 0) (Int.le_refl 0) (by omega)
    have ctail : f_X6_standsAsOperand 180 n F x = if zbs m = true ∨ m = 5 then some (if zcc T1 3 = 3 ∧ (m ≠ 5 ∨ 0 < z') then 1 else 0) else some 0 := by
      unfold f_X6_standsAsOperand
      rw [m3, z_bd, c_le hmb, z_bd, z_jn]
      rw [z_gB (by omega)]
      refine (cfirst (fun _ => bd (f_X3_itemEnd 180 n F x) (fun r6 => f_X6_standsAsOperand_44 180 n F (fun (z10 : Int × Int × Int) => bd (f_X3_mark 180 n F z10.2.1) (fun r11 => bd (f_X7_startsItem r11) (fun r12 => jn (fun (z14 : Int) => jn (fun (z20 : Int) => gB z20 (some z20)) (fun k16 => jn (fun (z19 : Unit) => k16 0) (fun k15 => cEq z14 0 (k15 ()) (jn (fun (z18 : Unit) => k16 1) (fun k17 => cEq m 5 (cLt 0 z10.1 (k17 ()) (k15 ())) (k17 ())))))) (fun k13 => cEq r12 0 (k13 1) (k13 0))))) fuel 0 r6 0)) (some 0)).trans ?_
      rw [ci, z_bd, a1]
      simp only [a6, z_bd, a7, z_jn]
      congr 1
      by_cases hb : zcc T1 3 = 3
      · simp only [if_pos hb]
        by_cases h5 : m = 5
        · by_cases hz : 0 < z'
          · rw [if_pos ⟨hb, Or.inr hz⟩]
            simp (disch := omega) only [z_eq_t, z_eq_f, z_lt_t, z_gB]
          · rw [if_neg (fun z => by rcases z.2 with y | y; exact y h5; exact hz y)]
            simp (disch := omega) only [z_eq_t, z_eq_f, z_lt_f, z_gB]
        · rw [if_pos ⟨hb, Or.inl h5⟩]
          simp (disch := omega) only [z_eq_t, z_eq_f, z_gB]
      · simp only [if_neg hb]
        rw [if_neg (fun z => hb z.1)]
        simp (disch := omega) only [z_eq_f, z_eq_t, z_gB]
    rw [ctail, hcc, q3]
    by_cases hb : zbs m = true
    · have hm5 : m ≠ 5 := by
        intro h
        rw [h] at hb
        exact absurd hb (by decide)
      rw [if_pos (Or.inl hb), if_pos (hzl.mpr hb)]
      by_cases hT1 : T1 = []
      · rw [hT1, if_pos ⟨rfl, Or.inl hm5⟩, zcc_nil, if_pos (Or.inl rfl)]
      · obtain ⟨c1, c2, c3⟩ := zcc_123 m2 hT1
        rw [c1]
        rcases c3 with c3 | c3
        · rw [if_pos ⟨c3, Or.inl hm5⟩, if_pos (Or.inr c3)]
        · rw [if_neg (fun z => by omega), if_neg (fun z => by omega)]
    · rw [if_neg (fun z => hb (hzl.mp z))]
      by_cases h5 : m = 5
      · rw [if_pos (Or.inr h5), if_pos h5]
        by_cases hT1 : T1 = []
        · have := a8 hT1
          rw [hT1, if_neg (fun z => by rcases z.2 with y | y; exact y h5; omega), if_neg (by decide)]
        · obtain ⟨c1, c2, c3⟩ := zcc_123 m2 hT1
          rw [c2]
          rcases c3 with c3 | c3
          · rw [if_pos ⟨c3, Or.inr (a5 hT1 c3)⟩, if_pos (Or.inr c3)]
          · rw [if_neg (fun z => by omega), if_neg (fun z => by omega)]
      · rw [if_neg (fun z => by rcases z with z | z; exact hb z; exact h5 z), if_neg h5, (zcc_b m2 4).1 rfl, if_neg (by decide)]
theorem c_base (hC : zCx 180 n F L) (hQ : zbeg Q) {T U : List Int} (hL : L = U ++ (T ++ Q)) (hT : zbal T) {x : Int} (hx : x = (U.length : Int)) : f_X6_standsAsBase 180 n F x = some (if zcl T = 1 then 1 else 0) := by
  have h180 := hC.1
  have lL : L.length = U.length + (T.length + Q.length) := by rw [hL]; simp
  rcases c_next hC (A := U) (R2 := T) (Q := Q) hL hQ hT hx with ⟨i0, m, m1, m2⟩ | ⟨X, T1, m, m0, m1, m2, m3, m4, Y, m5⟩
  · obtain ⟨k1, k2, k3, k4⟩ := zbs_n m2
    rw [i0, if_neg (by decide)]
    unfold f_X6_standsAsBase
    rw [m1, z_bd, c_le (by omega), z_bd, k1, zbi_f, c_di (by omega), k2, zbi_f]
    simp (disch := omega) only [z_jn, z_eq_t, z_eq_f, z_bd, z_gB]
  · have hXl := zit_ne m1
    have lT : T.length = X.length + T1.length := by rw [m0]; simp
    have ci := c_ie hC (A := U) (X := X) (T := T1 ++ Q) (by rw [hL, m0]; simp) m1 hx
    have hmb : -2147483648 ≤ m ∧ m ≤ 2147483647 := by omega
    obtain ⟨-, -, q3⟩ := zcc_n m1 m5
    have hcc : zcl T = zcc T1 (zcc X 0) := by rw [m0]; exact zcc_app (zit_bal m1) m2 0
    have hnext : ∃ (m2' : Int) (b2 : Bool), f_X3_mark 180 n F ((U.length : Int) + X.length) = some m2' ∧ f_X7_startsItem m2' = some (zbi b2) ∧ (b2 = true ↔ T1 ≠ []) := by
      rcases c_next hC (A := U ++ X) (R2 := T1) (Q := Q) (by rw [hL, m0]; simp) hQ m2 (x := (U.length : Int) + X.length) (by simp) with ⟨i0, w, w1, w2⟩ | ⟨X2, T2, w, w0, w1, w2, w3, w4, Y2, w5⟩
      · exact ⟨w, false, w1, by rw [c_st_f (by omega)]; rfl, by simp [i0]⟩
      · refine ⟨w, true, w3, by rw [c_st_t (by omega)]; rfl, by simp; intro h; rw [w0] at h; have := zit_ne w1; simp only [List.append_eq_nil_iff] at h; rw [h.1] at this; simp at this⟩
    obtain ⟨m2', b2, n1, n2, n3⟩ := hnext
    have p1 := c_le hmb
    have p2 := c_di hmb
    have hv : (zcl T = 1) ↔ (zbs m = true ∧ b2 = false) := by
      rw [hcc, q3]
      have hzl : (zlt m = true ∨ m = 4) ↔ zbs m = true := by
        unfold zlt zbs
        simp
      by_cases hb : zbs m = true
      · rw [if_pos (hzl.mpr hb)]
        by_cases hT1 : T1 = []
        · rw [hT1]
          have : b2 = false := by cases hb2 : b2; rfl; exact absurd hT1 (n3.mp hb2)
          exact ⟨fun _ => ⟨hb, this⟩, fun _ => rfl⟩
        · obtain ⟨c1, c2, c3⟩ := zcc_123 m2 hT1
          have : b2 = true := n3.mpr hT1
          rw [c1, this]
          exact ⟨fun h => by omega, fun h => by cases h.2⟩
      · rw [if_neg (fun z => hb (hzl.mp z))]
        refine ⟨fun h => ?_, fun h => absurd h.1 hb⟩
        exfalso
        by_cases h5 : m = 5
        · rw [if_pos h5] at h
          by_cases hT1 : T1 = []
          · rw [hT1] at h; cases h
          · obtain ⟨c1, c2, c3⟩ := zcc_123 m2 hT1
            rw [c2] at h
            omega
        · rw [if_neg h5, (zcc_b m2 4).1 rfl] at h
          cases h
    have hval : (if zcl T = 1 then (1 : Int) else 0) = zbi (zbs m && !b2) := by
      by_cases hz : zcl T = 1
      · obtain ⟨h1, h2⟩ := hv.mp hz
        rw [if_pos hz, h1, h2]; rfl
      · rw [if_neg hz]
        cases hzz : (zbs m && !b2)
        · rfl
        · exfalso
          simp at hzz
          exact hz (hv.mpr hzz)
    rw [hval]
    unfold f_X6_standsAsBase zbs
    rw [m3, z_bd, p1, z_bd, p2, ci]
    cases hz1 : zle m <;> cases hz2 : zdi m <;> by_cases h4 : m = 4 <;> cases b2 <;> simp (disch := omega) only [zbi_f, zbi_t, z_jn, z_eq_t, z_eq_f, z_bd, z_gB, n1, n2] <;> simp [h4, zbi]
end SH
