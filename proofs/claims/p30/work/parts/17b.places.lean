/-! p30: places follow one another -/
theorem jq_lt {α ρ : Type} {a b : Int} {K : α → Option ρ} {x y : α} (h : (-2147483648 ≤ a ∧ a ≤ 2147483647) ∧ (-2147483648 ≤ b ∧ b ≤ 2147483647)) : jn K (fun k => cLt a b (k x) (k y)) = K (if a < b then x else y) := by
  rw [z_jn]
  by_cases q : a < b
  · rw [if_pos q]
    exact z_lt_t ⟨h, q⟩
  · rw [if_neg q]
    exact z_lt_f ⟨h, q⟩
theorem jq_eq {α ρ : Type} {a b : Int} {K : α → Option ρ} {x y : α} (h : (-2147483648 ≤ a ∧ a ≤ 2147483647) ∧ (-2147483648 ≤ b ∧ b ≤ 2147483647)) : jn K (fun k => cEq a b (k x) (k y)) = K (if a = b then x else y) := by
  rw [z_jn]
  by_cases q : a = b
  · rw [if_pos q]
    exact z_eq_t ⟨h, q⟩
  · rw [if_neg q]
    exact z_eq_f ⟨h, q⟩
theorem q_plE {ρ : Type} {r10 r12 : Int} {K : Int → Option ρ} (h : (-2147483648 ≤ r10 ∧ r10 ≤ 2147483647) ∧ (-2147483648 ≤ r12 ∧ r12 ≤ 2147483647)) : jn K (fun k21 => jn (fun (_ : Unit) => k21 0) (fun k20 => cLt 0 r10 (cEq r12 0 (k21 1) (k20 ())) (k20 ()))) = K (if 0 < r10 ∧ r12 = 0 then 1 else 0) := by
  by_cases q : 0 < r10
  · by_cases q2 : r12 = 0
    · rw [if_pos ⟨q, q2⟩]
      simp (disch := omega) only [z_jn, z_lt_t, z_eq_t]
    · rw [if_neg (fun z => q2 z.2)]
      simp (disch := omega) only [z_jn, z_lt_t, z_eq_f]
  · rw [if_neg (fun z => q z.1)]
    simp (disch := omega) only [z_jn, z_lt_f]
theorem q_plC {ρ : Type} {r10 r11 r12 r13 r14 r15 : Int} {K : Int → Option ρ} (h : (0 ≤ r10 ∧ r10 < 6) ∧ (0 ≤ r13 ∧ r13 < 6) ∧ (r10 = 0 ↔ r13 = 0) ∧ (r14 = 0 ∨ r14 = 1 ∧ r13 = 1) ∧ (0 ≤ r11 ∧ r11 ≤ r12 ∧ r12 ≤ 1000) ∧ (-9 ≤ r15 ∧ r15 ≤ 1000) ∧ (r11 = r12 ↔ r15 = -9)) : jn K (fun k25 => jn (fun (z36 : Unit) => k25 0) (fun k24 => cLt r10 0 (k24 ()) (cLt r10 6 (jn (fun (z27 : Int) => jn (fun (z29 : Int) => cEq z27 z29 (cLt r13 6 (jn (fun (z31 : Unit) => cLt r12 r11 (k24 ()) (jn (fun (z33 : Int) => jn (fun (z35 : Int) => cEq z33 z35 (k25 1) (k24 ())) (fun k34 => cEq r15 ((-9)) (k34 1) (k34 0))) (fun k32 => cEq r11 r12 (k32 1) (k32 0)))) (fun k30 => cEq r14 0 (k30 ()) (cEq r14 1 (cEq r13 1 (k30 ()) (k24 ())) (k24 ())))) (k24 ())) (k24 ())) (fun k28 => cEq r13 0 (k28 1) (k28 0))) (fun k26 => cEq r10 0 (k26 1) (k26 0))) (k24 ())))) = K 1 := by
  obtain ⟨h1, h2, h3, h4, h5, h6, h7⟩ := h
  by_cases q1 : r11 = r12
  · have q2 := h7.mp q1
    by_cases q3 : r10 = 0
    · have q4 := h3.mp q3
      have q5 : r14 = 0 := by omega
      simp (disch := omega) only [z_jn, z_lt_t, z_lt_f, z_eq_t]
    · have q4 : ¬ r13 = 0 := fun z => q3 (h3.mpr z)
      rcases h4 with q5 | ⟨q5, q6⟩
      · simp (disch := omega) only [z_jn, z_lt_t, z_lt_f, z_eq_t, z_eq_f]
      · simp (disch := omega) only [z_jn, z_lt_t, z_lt_f, z_eq_t, z_eq_f]
  · have q2 : ¬ r15 = -9 := fun z => q1 (h7.mpr z)
    by_cases q3 : r10 = 0
    · have q4 := h3.mp q3
      have q5 : r14 = 0 := by omega
      simp (disch := omega) only [z_jn, z_lt_t, z_lt_f, z_eq_t, z_eq_f]
    · have q4 : ¬ r13 = 0 := fun z => q3 (h3.mpr z)
      rcases h4 with q5 | ⟨q5, q6⟩
      · simp (disch := omega) only [z_jn, z_lt_t, z_lt_f, z_eq_t, z_eq_f]
      · simp (disch := omega) only [z_jn, z_lt_t, z_lt_f, z_eq_t, z_eq_f]
/-- what a place says of the next one -/
def znx (n : Int) (F : Nat → Int) (x r10 r11 r13 r14 r15 : Int) : Prop := ∃ r39, f_L_tryPlace0 n F x 0 = some r39 ∧ ((5 < r15 ∧ r39 = r10 ∧ f_L_tryPlace0 n F x 1 = some (r11 + 1)) ∨ (r15 = -9 ∧ r13 = 1 ∧ r14 = 0 ∧ r39 = r10 ∧ f_L_tryPlace0 n F x 4 = some 1 ∧ f_L_tryPlace0 n F x 1 = some 0) ∨ (r15 = -9 ∧ (¬ r13 = 1 ∨ ¬ r14 = 0) ∧ r39 = r10 - 1) ∨ (1 ≤ r15 ∧ r15 ≤ 5 ∧ r39 = r10 + 1 ∧ f_L_tryPlace0 n F x 3 = some r15 ∧ f_L_tryPlace0 n F x 4 = some 0 ∧ f_L_tryPlace0 n F x 1 = some 0))
set_option maxHeartbeats 1000000 in
theorem m_pls_step {n y1 y2 y3 y4 y6 r10 r11 r12 r13 r14 r15 : Int} {F : Nat → Int} {e : Int × Int × Int × Int × Int → Option Int} {fu : Nat} (hy : 0 ≤ y6 ∧ y6 < y1 ∧ y1 ≤ 1000) (hy3 : -1000 ≤ y3 ∧ y3 ≤ 1000) (h : (0 ≤ r10 ∧ r10 < 6) ∧ (0 ≤ r13 ∧ r13 < 6) ∧ (r10 = 0 ↔ r13 = 0) ∧ (r14 = 0 ∨ r14 = 1 ∧ r13 = 1) ∧ (0 ≤ r11 ∧ r11 ≤ r12 ∧ r12 ≤ 1000) ∧ (-9 ≤ r15 ∧ r15 ≤ 1000) ∧ (r11 = r12 ↔ r15 = -9)) (p0 : f_L_tryPlace0 n F y6 0 = some r10) (p1 : f_L_tryPlace0 n F y6 1 = some r11) (p2 : f_L_tryPlace0 n F y6 2 = some r12) (p3 : f_L_tryPlace0 n F y6 3 = some r13) (p4 : f_L_tryPlace0 n F y6 4 = some r14) (p5 : f_L_tryPlace0 n F y6 5 = some r15) (hn : y6 + 1 < y1 → znx n F (y6 + 1) r10 r11 r13 r14 r15) : f_L_places_65 n F y1 e (fu + 1) y2 y3 y4 1 y6 = f_L_places_65 n F y1 e fu (y2 + (if r15 = -9 then 0 else 1)) (if y3 < r10 then r10 else y3) (y4 + (if 0 < r10 ∧ r12 = 0 then 1 else 0)) 1 (y6 + 1) := by
  rw [f_L_places_65]
  rw [z_lt_t (by omega), z_eq_f (by omega), p0, z_bd, p1, z_bd, p2, z_bd, p3, z_bd, p4, z_bd, p5, z_bd]
  refine (jq_lt (by omega)).trans ?_
  refine (jq_eq (by omega)).trans ?_
  refine (q_plE (by omega)).trans ?_
  refine (q_plC h).trans ?_
  obtain ⟨h1, h2, h3, h4, h5, h6, h7⟩ := h
  by_cases hq : y6 + 1 < y1
  · obtain ⟨r39, n0, hn⟩ := hn hq
    rcases hn with ⟨g1, g2, g3⟩ | ⟨g1, g2, g3, g4, g5, g6⟩ | ⟨g1, g2, g3⟩ | ⟨g1, g2, g3, g4, g5, g6⟩
    · simp (disch := omega) only [z_jn, z_lt_t, z_eq_f, z_eq_t, n0, z_bd, g3]
    · simp (disch := omega) only [z_jn, z_lt_t, z_lt_f, z_eq_f, z_eq_t, n0, z_bd, g5, g6]
    · rcases g2 with g2 | g2
      · simp (disch := omega) only [z_jn, z_lt_t, z_lt_f, z_eq_f, z_eq_t, n0, z_bd]
      · by_cases g4 : r13 = 1
        · simp (disch := omega) only [z_jn, z_lt_t, z_lt_f, z_eq_f, z_eq_t, n0, z_bd]
        · exfalso; omega
    · simp (disch := omega) only [z_jn, z_lt_t, z_lt_f, z_eq_f, z_eq_t, n0, z_bd, g4, g5, g6]
  · simp (disch := omega) only [z_jn, z_lt_f]
theorem zpre0 {A B : List Int} (h : zbal (A ++ B)) : 0 ≤ zlv A := by
  obtain ⟨s, h1, -⟩ := zrun_app_inv h
  have := zlv_run h1
  simp at this
  omega
theorem zpk_le {A B : List Int} : zpk A ≤ zpk (A ++ B) := by
  rw [zpk_app]
  exact (mx_s _ _).1.1
theorem zpk_snoc {A : List Int} {o : Int} : (if zpk A < zlv (A ++ [o]) then zlv (A ++ [o]) else zpk A) = zpk (A ++ [o]) := by
  rw [zpk_app, zpk_cons, zpk_nil, zlv_app]
  have h1 := zpk_lv A
  have h2 : zlv [o] = zop o := by simp [zlv]
  rw [h2]
  have h3 := mx_s 0 (zop o + 0)
  have h4 := mx_s (zpk A) (zlv A + mxI 0 (zop o + 0))
  split <;> omega
theorem zsi_head {R2 Q : List Int} (hQ : zbeg Q) (hR : zbal R2) : (R2 = [] ∧ zsi (zhd (R2 ++ Q)) = false) ∨ (∃ X R3, R2 = X ++ R3 ∧ zit X ∧ zbal R3 ∧ zsi (zhd (R2 ++ Q)) = true) := by
  by_cases h : R2 = []
  · left
    refine ⟨h, ?_⟩
    subst h
    rcases hQ with rfl | ⟨c, Q0, rfl, hc⟩
    · decide
    · show zsi c = false
      simp [zsi]; omega
  · right
    obtain ⟨X, R3, e, hX, hR3⟩ := zitF hR h
    obtain ⟨m, Y, e2, h3, -⟩ := zit_first hX
    refine ⟨X, R3, e, hX, hR3, ?_⟩
    rw [e, e2]
    exact h3
theorem zni_1 {X R : List Int} (hX : zit X) : 1 ≤ zni 0 (X ++ R) := by
  rw [zni_it R hX]; omega
theorem zlast9 {R : List Int} {o : Int} {P P0 : List Int} (hR : zbal R) (hn : R ≠ []) (e : P ++ R = P0 ++ [o]) : ¬ (1 ≤ o ∧ o ≤ 6) := by
  obtain ⟨X, R1, e1, hX, -⟩ := zitB hR hn
  have key : ∃ (Y : List Int) (c : Int), X = Y ++ [c] ∧ ¬ (1 ≤ c ∧ c ≤ 6) := by
    rcases hX with ⟨m, rfl, a, b⟩ | ⟨k, I, rfl, a, b, c⟩ | ⟨I, J, rfl, a, b⟩
    · exact ⟨[], m, rfl, by omega⟩
    · exact ⟨k :: I, k + 10, by simp, by omega⟩
    · exact ⟨1 :: (I ++ 6 :: J), 11, by simp, by omega⟩
  obtain ⟨Y, c, e2, hc⟩ := key
  have e3 : (P ++ (R1 ++ Y)) ++ [c] = P0 ++ [o] := by rw [← e, e1, e2]; simp
  have e4 := (List.append_inj' e3 rfl).2
  rw [← List.head_eq_of_cons_eq e4]
  exact hc
theorem zsnoc_inj {A B : List Int} {a b : Int} (h : A ++ [a] = B ++ [b]) : A = B ∧ a = b := by
  have := List.append_inj' h rfl
  exact ⟨this.1, List.head_eq_of_cons_eq this.2⟩
/-- the checks that a place passes -/
theorem zar_chk {L A B P R R2 Q : List Int} {kd w o : Int} (hb : zbal L) (hl : L.length ≤ 180) (h5 : zpk L ≤ 5) (hL : L = A ++ B) (ha : zar A B kd w P R R2 Q) (ho : (A = [] ∧ o = 0) ∨ ∃ A', A = A' ++ [o]) : ((0 ≤ zlv A ∧ zlv A < 6) ∧ (0 ≤ kd ∧ kd < 6) ∧ (zlv A = 0 ↔ kd = 0) ∧ (w = 0 ∨ w = 1 ∧ kd = 1) ∧ (0 ≤ (zni 0 R : Int) ∧ (zni 0 R : Int) ≤ (zni 0 (R ++ R2) : Int) ∧ (zni 0 (R ++ R2) : Int) ≤ 1000) ∧ (-9 ≤ (if zsi (zhd B) = true then zhd B else -9) ∧ (if zsi (zhd B) = true then zhd B else -9) ≤ 1000) ∧ ((zni 0 R : Int) = (zni 0 (R ++ R2) : Int) ↔ (if zsi (zhd B) = true then zhd B else -9) = -9)) ∧ (if 0 < zlv A ∧ (zni 0 (R ++ R2) : Int) = 0 then (1 : Int) else 0) = (zeb o (zhd B) : Int) := by
  obtain ⟨⟨e1, e2, e3, e4, e5, e6⟩, hc⟩ := ha
  have hb2 : zbal (A ++ B) := by rw [← hL]; exact hb
  have l0 := zpre0 hb2
  have l1 := zpk_lv A
  have l2 : zpk A ≤ zpk L := by rw [hL]; exact zpk_le
  have ll : L.length = A.length + B.length := by rw [hL]; simp
  have lA : A.length = P.length + R.length := by rw [e1]; simp
  have lB : B.length = R2.length + Q.length := by rw [e2]; simp
  have n1 := zni_app R2 e3
  have n2 := zni_b R 0
  have n3 := zni_b R2 0
  have hz : zlv A = zlv P := by rw [e1, zlv_app, zlv_bal e3]; omega
  have hk : (P = [] ∧ kd = 0) ∨ (1 ≤ kd ∧ kd ≤ 5 ∧ 1 ≤ zlv P ∧ ∃ P1 oo, P = P1 ++ [oo] ∧ 1 ≤ oo ∧ oo ≤ 6) := by
    rcases hc with ⟨c1, c2, c3, c4⟩ | ⟨P0, Q0, c1, c2, c3, c4, c5⟩ | ⟨P0, J, Q0, c1, c2, c3, c4, c5⟩ | ⟨P0, I, Q0, c1, c2, c3, c4, c5⟩
    · exact Or.inl ⟨c3, c1⟩
    · have hp : 0 ≤ zlv P0 := zpre0 (B := [kd] ++ R ++ B) (by have e : A ++ B = P0 ++ ([kd] ++ R ++ B) := (by rw [e1, c1]; simp); rw [← e]; exact hb2)
      refine Or.inr ⟨by omega, c4, ?_, P0, kd, c1, by omega, by omega⟩
      rw [c1, zlv_app]
      have := zop_op (m := kd) (by omega)
      simp only [zlv]; omega
    · have hp : 0 ≤ zlv P0 := zpre0 (B := [1] ++ R ++ B) (by have e : A ++ B = P0 ++ ([1] ++ R ++ B) := (by rw [e1, c1]; simp); rw [← e]; exact hb2)
      refine Or.inr ⟨by omega, by omega, ?_, P0, 1, c1, by omega, by omega⟩
      rw [c1, zlv_app]
      have := zop_op (m := 1) (by omega)
      simp only [zlv]; omega
    · have hp : 0 ≤ zlv P0 := zpre0 (B := 1 :: (I ++ [6]) ++ R ++ B) (by have e : A ++ B = P0 ++ (1 :: (I ++ [6]) ++ R ++ B) := (by rw [e1, c1]; simp); rw [← e]; exact hb2)
      refine Or.inr ⟨by omega, by omega, ?_, P0 ++ 1 :: I, 6, by rw [c1]; simp, by omega, by omega⟩
      rw [c1, zlv_app]
      have := zop_op (m := 1) (by omega)
      simp only [zlv, zlv_app, zlv_bal c3, zop_6]; omega
  have hw : w = 0 ∨ w = 1 ∧ kd = 1 := by
    rcases hc with ⟨c1, c2, c3, c4⟩ | ⟨P0, Q0, c1, c2, c3, c4, c5⟩ | ⟨P0, J, Q0, c1, c2, c3, c4, c5⟩ | ⟨P0, I, Q0, c1, c2, c3, c4, c5⟩ <;> omega
  have hv : -9 ≤ (if zsi (zhd B) = true then zhd B else -9) ∧ (if zsi (zhd B) = true then zhd B else -9) ≤ 1000 := by
    cases B with
    | nil => decide
    | cons m T =>
      have hm := zv_rc (zrun_v hb2 m (by simp))
      show -9 ≤ (if zsi m = true then m else -9) ∧ (if zsi m = true then m else -9) ≤ 1000
      split <;> omega
  have hs := zsi_head e6 e4
  rw [← e2] at hs
  have hb9 : (zni 0 R : Int) = (zni 0 (R ++ R2) : Int) ↔ (if zsi (zhd B) = true then zhd B else -9) = -9 := by
    rcases hs with ⟨g1, g2⟩ | ⟨X, R3, g1, g2, g3, g4⟩
    · rw [g2, g1]
      simp
    · have q := zni_1 (R := R3) g2
      rw [← g1] at q
      have g5 : 1 ≤ zhd B := by
        have := g4
        simp only [zsi, decide_eq_true_eq] at this
        omega
      rw [if_pos g4]
      constructor
      · intro z; omega
      · intro z; omega
  refine ⟨⟨⟨l0, by omega⟩, ⟨by rcases hk with h | h <;> omega, by rcases hk with h | h <;> omega⟩, ?_, hw, ⟨by omega, by omega, by omega⟩, hv, hb9⟩, ?_⟩
  · rcases hk with ⟨h1, h2⟩ | ⟨h1, h2, h3, -⟩
    · rw [hz, h1, h2]; simp [zlv]
    · rw [hz]; omega
  · unfold zeb
    by_cases q : 0 < zlv A ∧ (zni 0 (R ++ R2) : Int) = 0
    · rw [if_pos q]
      have hR2 : R2 = [] := by
        rcases hs with ⟨g1, g2⟩ | ⟨X, R3, g1, g2, g3, g4⟩
        · exact g1
        · have q2 := zni_1 (R := R3) g2
          rw [← g1] at q2
          omega
      have hR : R = [] := by
        by_cases hn : R = []
        · exact hn
        · obtain ⟨X, R3, f1, f2, -⟩ := zitF e3 hn
          have q2 := zni_1 (R := R3) f2
          rw [← f1] at q2
          omega
      rcases hk with ⟨h1, h2⟩ | ⟨h1, h2, h3, P1, oo, h4, h5, h6⟩
      · rw [hz, h1] at q
        simp [zlv] at q
      · have hA : A = P1 ++ [oo] := by rw [e1, hR, h4]; simp
        rcases ho with ⟨o1, o2⟩ | ⟨A', o1⟩
        · rw [o1] at hA
          simp at hA
        · obtain ⟨-, rfl⟩ := zsnoc_inj (o1.symm.trans hA)
          rcases hs with ⟨g1, g2⟩ | ⟨X, R3, g1, g2, g3, g4⟩
          · rw [if_pos ⟨⟨h5, h6⟩, g2⟩]; rfl
          · rw [hR2] at g1
            have := zit_ne g2
            have := congrArg List.length g1
            simp at this
            omega
    · rw [if_neg q, if_neg]
      · rfl
      · rintro ⟨z1, z2⟩
        apply q
        rcases ho with ⟨o1, o2⟩ | ⟨A', o1⟩
        · omega
        · have hR : R = [] := by
            by_cases hn : R = []
            · exact hn
            · exact absurd z1 (zlast9 e3 hn (P := P) (P0 := A') (by rw [← e1, o1]))
          have hR2 : R2 = [] := by
            rcases hs with ⟨g1, g2⟩ | ⟨X, R3, g1, g2, g3, g4⟩
            · exact g1
            · rw [z2] at g4; cases g4
          rcases hk with ⟨h1, h2⟩ | ⟨h1, h2, h3, -⟩
          · rw [hR, h1] at e1
            rw [o1] at e1
            simp at e1
          · rw [hz, hR, hR2]
            exact ⟨by omega, rfl⟩
theorem m_znx {n : Int} {F : Nat → Int} {L A B' P R R2 Q : List Int} {kd w m : Int} (hC : zCx 180 n F L) (hL : L = A ++ m :: B') (ha : zar A (m :: B') kd w P R R2 Q) {x : Int} (hx : x = (A.length : Int) + 1) : znx n F x (zlv A) (zni 0 R) kd w (if zsi m = true then m else -9) := by
  have hx2 : x = ((A ++ [m]).length : Int) := by simp; omega
  have hL2 : L = (A ++ [m]) ++ B' := by rw [hL]; simp
  have q0 := (t_pl (m_pl0 hC hL2 hx2)).2
  rw [zlv_app] at q0
  have hzm : zlv [m] = zop m := by simp [zlv]
  rw [hzm] at q0
  refine ⟨_, q0, ?_⟩
  obtain ⟨⟨e1, e2, e3, e4, e5, e6⟩, hc⟩ := ha
  -- a row that begins behind this mark
  have hnew : (1 ≤ m ∧ m ≤ 6) → f_L_tryPlace0 n F x 1 = some 0 ∧ f_L_tryPlace0 n F x 4 = some (if m = 6 then 1 else 0) := by
    intro hm
    have hz : zend (A ++ [m]) := Or.inr ⟨A, m, rfl, by omega, by omega⟩
    have hL3 : L = (A ++ [m]) ++ ([] ++ B') := by rw [hL2]; simp
    have a1 := (t_pl (m_pl1 hC hL3 hz rfl (x := x) (by rw [hx2]; simp))).2
    have a2 := (t_pl (m_pl4 hC hL3 hz rfl (mm := m) (hC.at hL (by simp)).1 (by omega) (x := x) (by rw [hx2]; simp))).2
    exact ⟨a1, a2⟩
  have hopen : ∀ k : Int, m = k → 1 ≤ k → k ≤ 5 → (1 ≤ (if zsi m = true then m else -9) ∧ (if zsi m = true then m else -9) ≤ 5 ∧ zlv A + zop m = zlv A + 1 ∧ f_L_tryPlace0 n F x 3 = some (if zsi m = true then m else -9) ∧ f_L_tryPlace0 n F x 4 = some 0 ∧ f_L_tryPlace0 n F x 1 = some 0) := by
    intro k hk h1 h2
    subst hk
    have hs : zsi m = true := by simp [zsi]; omega
    rw [if_pos hs, zop_op ⟨h1, h2⟩]
    obtain ⟨a1, a2⟩ := hnew (by omega)
    rw [if_neg (by omega)] at a2
    have hz : zend (A ++ [m]) := Or.inr ⟨A, m, rfl, by omega, by omega⟩
    have hL3 : L = (A ++ [m]) ++ ([] ++ B') := by rw [hL2]; simp
    have a3 := (t_pl (m_pl3 hC hL3 hz rfl (m_kd hC hL ⟨h1, h2⟩) (x := x) (by rw [hx2]; simp))).2
    exact ⟨h1, h2, rfl, a3, a2, a1⟩
  by_cases h : R2 = []
  · subst h
    rw [List.nil_append] at e2
    rcases hc with ⟨c1, c2, c3, c4⟩ | ⟨P0, Q0, c1, c2, c3, c4, c5⟩ | ⟨P0, J, Q0, c1, c2, c3, c4, c5⟩ | ⟨P0, I, Q0, c1, c2, c3, c4, c5⟩
    · rw [c4] at e2; cases e2
    · rw [c2] at e2
      obtain ⟨rfl, -⟩ := List.cons.inj e2
      have hs : ¬ zsi (kd + 10) = true := by simp [zsi]; omega
      rw [if_neg hs, zop_cl (by omega)]
      exact Or.inr (Or.inr (Or.inl ⟨rfl, Or.inl (by omega), by omega⟩))
    · rw [c2] at e2
      obtain ⟨rfl, -⟩ := List.cons.inj e2
      rw [if_neg (show ¬ zsi 6 = true by decide), zop_6]
      obtain ⟨a1, a2⟩ := hnew (by omega)
      rw [if_pos rfl] at a2
      exact Or.inr (Or.inl ⟨rfl, c4, c5, by omega, a2, a1⟩)
    · rw [c2] at e2
      obtain ⟨rfl, -⟩ := List.cons.inj e2
      rw [if_neg (show ¬ zsi 11 = true by decide), zop_cl (by omega)]
      exact Or.inr (Or.inr (Or.inl ⟨rfl, Or.inr (by omega), by omega⟩))
  · obtain ⟨X, R3, f1, f2, f3⟩ := zitF e4 h
    have f2' := f2
    rcases f2 with ⟨m2, rfl, a, b⟩ | ⟨k, I, rfl, a, b, c⟩ | ⟨I, J, rfl, a, b⟩
    · rw [f1] at e2
      obtain ⟨rfl, e7⟩ := List.cons.inj e2
      have hs : zsi m = true := by simp [zsi]; omega
      rw [if_pos hs, zop_sy a.1]
      refine Or.inl ⟨by omega, by omega, ?_⟩
      have hL3 : L = P ++ ((R ++ [m]) ++ B') := by rw [hL2, e1]; simp
      have a1 := (t_pl (m_pl1 hC hL3 e5 (zbal_app e3 (zit_bal f2')) (x := x) (by rw [hx, e1]; simp; omega))).2
      rw [a1, zni_app _ e3]
      have : zni 0 [m] = 1 := by have := zni_it [] f2'; simpa [zni] using this
      rw [this]; simp
    · rw [f1] at e2
      obtain ⟨rfl, e7⟩ := List.cons.inj e2
      exact Or.inr (Or.inr (Or.inr (hopen m rfl (by omega) b)))
    · rw [f1] at e2
      obtain ⟨rfl, e7⟩ := List.cons.inj e2
      exact Or.inr (Or.inr (Or.inr (hopen 1 rfl (by omega) (by omega))))
theorem m_pls_loop {n : Int} {F : Nat → Int} {L : List Int} (hC : zCx 180 n F L) (hb : zbal L) (h5 : zpk L ≤ 5) {e : Int × Int × Int × Int × Int → Option Int} : ∀ (B A : List Int) (o y2 y3 y4 : Int) (fu : Nat), L = A ++ B → ((A = [] ∧ o = 0 ∧ y3 = 0) ∨ ∃ A', A = A' ++ [o] ∧ y3 = zpk A') → B.length + 2 ≤ fu → y2 + zcnt B = zcnt L → y4 + zes (o :: B) = zes L → f_L_places_65 n F ((L.length : Int) + 1) e fu y2 y3 y4 1 (A.length : Int) = e ((zcnt L : Int), zpk L, (zes L : Int), 1, (L.length : Int) + 1) := by
  intro B
  induction B with
  | nil =>
    intro A o y2 y3 y4 fu hL ho hfu h2 h4
    have hl := hC.1
    obtain ⟨kd, w, P, R, R2, Q, ha⟩ := zar_ex (A := A) (B := []) (by rw [← hL]; exact hb)
    obtain ⟨g1, g2⟩ := zar_chk hb (by omega) h5 hL ha (by rcases ho with ⟨a, b, -⟩ | ⟨A', a, -⟩; exact Or.inl ⟨a, b⟩; exact Or.inr ⟨A', a⟩)
    obtain ⟨v1, v2, v3, v4⟩ := m_row hC hL ha rfl
    have hAL : (A.length : Int) = L.length := by rw [hL]; simp
    obtain ⟨fu2, rfl⟩ : ∃ k, fu = k + 1 + 1 := ⟨fu - 2, by simp at hfu; omega⟩
    have hpa := zpk_0 A
    have hpl : zpk A ≤ zpk L := by rw [hL]; exact zpk_le
    have hy3 : (if y3 < zlv A then zlv A else y3) = zpk A := by
      rcases ho with ⟨rfl, -, rfl⟩ | ⟨A', rfl, rfl⟩
      · decide
      · exact zpk_snoc
    have hy3b : -1000 ≤ y3 ∧ y3 ≤ 1000 := by
      rcases ho with ⟨-, -, rfl⟩ | ⟨A', rfl, rfl⟩
      · omega
      · have q1 := zpk_0 A'
        have q2 : zpk A' ≤ zpk (A' ++ [o]) := zpk_le
        omega
    rw [m_pls_step (by omega) hy3b g1 (t_pl (m_pl0 hC hL rfl)).2 (t_pl v1).2 (t_pl v2).2 (t_pl v3).2 (t_pl v4).2 (t_pl (m_pl5 hC hL rfl)).2 (fun z => by omega), hy3, g2]
    rw [f_L_places_65, z_lt_f (by omega)]
    have z1 : zpk A = zpk L := by rw [hL]; simp
    have z2 : y4 + (zeb o (zhd []) : Int) = zes L := by
      have : zes [o] = zeb o (zhd []) + 0 := rfl
      rw [this] at h4
      omega
    have z3 : y2 + (if (if zsi (zhd []) = true then zhd [] else -9) = -9 then (0 : Int) else 1) = zcnt L := by
      rw [if_neg (show ¬ zsi (zhd []) = true by decide), if_pos rfl]
      simp [zcnt] at h2
      omega
    rw [z1, z2, z3, hAL]
  | cons m B ih =>
    intro A o y2 y3 y4 fu hL ho hfu h2 h4
    have hl := hC.1
    obtain ⟨kd, w, P, R, R2, Q, ha⟩ := zar_ex (A := A) (B := m :: B) (by rw [← hL]; exact hb)
    obtain ⟨g1, g2⟩ := zar_chk hb (by omega) h5 hL ha (by rcases ho with ⟨a, b, -⟩ | ⟨A', a, -⟩; exact Or.inl ⟨a, b⟩; exact Or.inr ⟨A', a⟩)
    obtain ⟨v1, v2, v3, v4⟩ := m_row hC hL ha rfl
    have hAL : (L.length : Int) = A.length + 1 + B.length := by rw [hL]; simp; omega
    obtain ⟨fu2, rfl⟩ : ∃ k, fu = k + 1 := ⟨fu - 1, by simp at hfu; omega⟩
    have hpa := zpk_0 A
    have hpl : zpk A ≤ zpk L := by rw [hL]; exact zpk_le
    have hy3 : (if y3 < zlv A then zlv A else y3) = zpk A := by
      rcases ho with ⟨rfl, -, rfl⟩ | ⟨A', rfl, rfl⟩
      · decide
      · exact zpk_snoc
    have hy3b : -1000 ≤ y3 ∧ y3 ≤ 1000 := by
      rcases ho with ⟨-, -, rfl⟩ | ⟨A', rfl, rfl⟩
      · omega
      · have q1 := zpk_0 A'
        have q2 : zpk A' ≤ zpk (A' ++ [o]) := zpk_le
        omega
    rw [m_pls_step (by omega) hy3b g1 (t_pl (m_pl0 hC hL rfl)).2 (t_pl v1).2 (t_pl v2).2 (t_pl v3).2 (t_pl v4).2 (t_pl (m_pl5 hC hL rfl)).2 (fun z => m_znx hC hL ha rfl), hy3, g2]
    have hlen : (A.length : Int) + 1 = ((A ++ [m]).length : Int) := by simp
    rw [hlen]
    refine ih (A ++ [m]) m _ _ _ fu2 (by rw [hL]; simp) (Or.inr ⟨A, rfl, rfl⟩) (by simp at hfu; omega) ?_ ?_
    · have : zcnt (m :: B) = (if zsi m then 1 else 0) + zcnt B := rfl
      rw [this] at h2
      show y2 + (if (if zsi m = true then m else -9) = -9 then (0 : Int) else 1) + zcnt B = zcnt L
      have hm := zv_rc (zrun_v hb m (by rw [hL]; simp))
      by_cases hs : zsi m = true
      · rw [if_pos hs] at h2
        rw [if_pos hs, if_neg (by omega)]
        omega
      · rw [if_neg hs] at h2
        rw [if_neg hs, if_pos rfl]
        omega
    · have : zes (o :: m :: B) = zeb o (zhd (m :: B)) + zes (m :: B) := rfl
      rw [this] at h4
      omega
theorem m_places {n ca cn : Int} {F Fc : Nat → Int} {L : List Int} (hC : zCx 180 n F L) (hb : zbal L) (h6 : zcnt L ≤ 60) (h5 : zpk L ≤ 5) : f_L_places cn n ca Fc F = some 1 := by
  have hl := hC.1
  have hl0 : 0 ≤ (L.length : Int) := by omega
  have a0 := (t_ab (cn := cn) (ca := ca) (Fc := Fc) (m_ab0 hC)).1
  have a1 := (t_ab (cn := cn) (ca := ca) (Fc := Fc) (m_ab1 hC)).1
  have a3 := (t_ab (cn := cn) (ca := ca) (Fc := Fc) (m_ab3 hC)).1
  have a4 := (t_ab (cn := cn) (ca := ca) (Fc := Fc) (m_ab4 hC)).1
  have p0 := (t_pl (m_pl0 hC (A := []) (B := L) rfl (x := 0) rfl)).1
  have p1 := (t_pl (m_pl0 hC (A := L) (B := []) (by simp) (x := (L.length : Int) + 1 - 1) (by omega))).1
  have p2 := (t_pl (m_pl5 hC (A := L) (B := []) (by simp) (x := (L.length : Int) + 1 - 1) (by omega))).1
  have p3 := (t_pl (m_pl1 hC (P := []) (R := []) (T := L) rfl (Or.inl rfl) rfl (x := 0) rfl)).1
  rw [show zlv [] = 0 from rfl] at p0
  rw [zlv_bal hb] at p1
  rw [if_neg (show ¬ zsi (zhd []) = true by decide)] at p2
  rw [show (zni 0 [] : Int) = 0 from rfl] at p3
  have b3 := zpk_0 L
  have b4 : (zes L : Int) ≤ 1000 := by
    have : ∀ M : List Int, zes M ≤ M.length := by
      intro M
      induction M with
      | nil => exact Nat.le_refl _
      | cons m t ih =>
        have : zes (m :: t) = zeb m (zhd t) + zes t := rfl
        rw [this]
        have h1 : zeb m (zhd t) ≤ 1 := by unfold zeb; split <;> omega
        simp only [List.length_cons]
        omega
    have := this L
    omega
  unfold f_L_places
  rw [a1, z_bd, p0, z_bd]
  simp (disch := omega) only [z_jn, z_eq_t, p1, p2, p3, z_bd]
  have key := fun e => m_pls_loop hC hb h5 (e := e) L [] 0 0 0 0 fuel rfl (Or.inl ⟨rfl, rfl, rfl⟩) (by unfold fuel; omega) (by omega) (by
    have : zes (0 :: L) = zeb 0 (zhd L) + zes L := rfl
    rw [this]
    have h1 : zeb 0 (zhd L) = 0 := by unfold zeb; rw [if_neg (by omega)]
    omega)
  simp only [List.length_nil] at key
  refine (key _).trans ?_
  simp (disch := omega) only [z_jn, z_eq_t, z_eq_f, a0, a3, a4, z_bd, z_gB]
