/-! p30: the signs of every row; the drawing's counts -/
section RO
variable {n : Int} {F : Nat → Int} {L : List Int} {w a b : Nat → Int}
/-- the columns from a place of a row on -/
theorem m_cols (hC : zCx 180 n F L) (hpL : zpk L ≤ 5) (hbL : zbal L) (hcL : zcnt L ≤ 60) (hg : zms L w a b (fun _ => True)) {U : List Int} {mf : Int} (hf : f_X3_mark 180 n F (U.length : Int) = some mf) (hf2 : (1 ≤ mf ∧ mf ≤ 5) ∨ 42 ≤ mf ∧ mf ≤ 122) (hab : 0 ≤ a U.length ∧ 0 ≤ b U.length ∧ a U.length + b U.length ≤ 1000) (M : Nat) (ih : ∀ U' T' Q' : List Int, L = U' ++ (T' ++ Q') → zend U' → zbeg Q' → zbal T' → T'.length < M → zRow n F w a b U' T') : ∀ (k : Nat) (T1 T2 Q : List Int), T2.length ≤ k → T2.length ≤ M → L = U ++ (T1 ++ (T2 ++ Q)) → zbal T1 → zbal T2 → ∃ g : Int → Int → Int, (∀ (e24 : Int × Int × Int × Int → Option (Int × Int × Int × Int)) (fu : Nat) (y x h : Int), y = zlv U → 5 - y < fu → (0 ≤ x ∧ x < (zdm T2).1) → (-(a U.length) ≤ h ∧ h ≤ b U.length) → ∃ c1 c2 c3, f_X4_signAt_24 180 a b w n F e24 fu (U.length : Int) ((zdm T1).1 + x) h y = some (g x h, c1, c2, c3)) ∧ (∀ x h, 32 ≤ g x h ∧ g x h ≤ 122) ∧ ∀ s, zok s → ∀ α β : Int, (zdm T2).2.1 ≤ α → (zdm T2).2.2 ≤ β → z2 0 (zdm T2).1.toNat (-α) (α + 1 + β).toNat (fun x h => zis9 (g x h) s) = zri s T2
  | k, T1, T2, Q, hk, hM, hL, hT1, hT2 => by
    by_cases hn : T2 = []
    · subst hn
      refine ⟨fun _ _ => 32, ?_, fun _ _ => (by omega : (32 : Int) ≤ 32 ∧ (32 : Int) ≤ 122), ?_⟩
      · intro e24 fu y x h hy hfu hx hh
        rw [zdm_nil] at hx
        have hx2 : x < 0 := hx.2
        omega
      · intro s hs α β hα hβ
        rw [zdm_nil]
        show zS 0 0 _ = _
        unfold zri
        show 0 = 0 + (if s = 63 then 0 else 0)
        split <;> rfl
    · obtain ⟨X, R, rfl, hX, hR⟩ := zitF hT2 hn
      have hXl := zit_ne hX
      rw [List.length_append] at hk hM
      have eL : L = U ++ (T1 ++ (X ++ (R ++ Q))) := by rw [hL]; simp
      have hcX : 1 ≤ zcnt X := by
        obtain ⟨m, Z, e1, e2, -⟩ := zit_first hX
        rw [e1]; simp only [zcnt]; rw [if_pos e2]; omega
      have hc59 : zcnt T1 ≤ 59 := by
        have : zcnt L = zcnt U + (zcnt T1 + (zcnt X + zcnt (R ++ Q))) := by rw [eL, zcnt_app, zcnt_app, zcnt_app]
        omega
      obtain ⟨gX, x1, x2, x3⟩ := m_item hC hpL hbL hg eL hT1 hX hf hf2 hab (fun U' T' Q' q1 q2 q3 q4 q5 => ih U' T' Q' q1 q2 q3 q4 (by omega))
      cases k with
      | zero => omega
      | succ k =>
        obtain ⟨gR, r1, r2, r3⟩ := m_cols hC hpL hbL hcL hg hf hf2 hab M ih k (T1 ++ X) R Q (by omega) (by omega) (by rw [eL]; simp) (zbal_app hT1 (zit_bal hX)) hR
        obtain ⟨o1, o2, o3⟩ := zdm_o (zit_bal hX)
        obtain ⟨p1, p2, p3⟩ := zdm_o hR
        have eT : zdm (X ++ R) = zbp (zdm X) (zdm R) := zdm_app (zit_bal hX) hR
        have eW : (zdm (X ++ R)).1 = (zdm X).1 + (zdm R).1 := by rw [eT]; rfl
        have eA : (zdm (X ++ R)).2.1 = mxI (zdm X).2.1 (zdm R).2.1 := by rw [eT]; rfl
        have eB : (zdm (X ++ R)).2.2 = mxI (zdm X).2.2 (zdm R).2.2 := by rw [eT]; rfl
        have e1 : (zdm (T1 ++ X)).1 = (zdm T1).1 + (zdm X).1 := by rw [zdm_app hT1 (zit_bal hX)]; rfl
        refine ⟨fun x h => if x < (zdm X).1 then gX x h else gR (x - (zdm X).1) h, ?_, ?_, ?_⟩
        · intro e24 fu y x h hy hfu hx hh
          rw [eW] at hx
          by_cases hlt : x < (zdm X).1
          · have hca := c_at hC hg eL hT1 hX hc59 (x' := x) ⟨hx.1, hlt⟩
            obtain ⟨c1, c2, c3, e⟩ := x1 e24 fu y ((zdm T1).1 + x) x h hy hfu (by rw [hca]; congr 2) ⟨hx.1, hlt⟩ hh
            refine ⟨c1, c2, c3, ?_⟩
            rw [e]
            simp only [if_pos hlt]
          · obtain ⟨c1, c2, c3, e⟩ := r1 e24 fu y (x - (zdm X).1) h hy hfu (by omega) hh
            refine ⟨c1, c2, c3, ?_⟩
            rw [e1, show (zdm T1).1 + (zdm X).1 + (x - (zdm X).1) = (zdm T1).1 + x by omega] at e
            rw [e]
            simp only [if_neg hlt]
        · intro x h
          dsimp only
          split
          · exact x2 _ _
          · exact r2 _ _
        · intro s hs α β hα hβ
          rw [eA] at hα
          rw [eB] at hβ
          have m1 := mx_s (zdm X).2.1 (zdm R).2.1
          have m2 := mx_s (zdm X).2.2 (zdm R).2.2
          have q1 := x3 s hs α β (by omega) (by omega)
          have q2 := r3 s hs α β (by omega) (by omega)
          rw [eW, show ((zdm X).1 + (zdm R).1).toNat = (zdm X).1.toNat + (zdm R).1.toNat by omega, z2_app, zri_app (zit_bal hX), ← q1, ← q2]
          congr 1
          · refine z2_congr (fun x h g1 g2 g3 g4 => ?_)
            try dsimp only
            rw [if_pos (by omega)]
          · rw [show (0 : Int) + ((zdm X).1.toNat : Int) = 0 + (zdm X).1 by omega, ← z2_shift]
            refine z2_congr (fun x h g1 g2 g3 g4 => ?_)
            try dsimp only
            rw [if_neg (by omega), show x + (zdm X).1 - (zdm X).1 = x by omega]
/-- every row's signs -/
theorem m_rows (hC : zCx 180 n F L) (hpL : zpk L ≤ 5) (hbL : zbal L) (hcL : zcnt L ≤ 60) (hg : zms L w a b (fun _ => True)) : ∀ (k : Nat) (U T Q : List Int), T.length ≤ k → L = U ++ (T ++ Q) → zend U → zbeg Q → zbal T → zRow n F w a b U T
  | k, U, T, Q, hk, hL, hU, hQ, hT => by
    have h180 := hC.1
    have lL : L.length = U.length + (T.length + Q.length) := by rw [hL]; simp
    obtain ⟨d1, d2, d3⟩ := hg U T Q hL hU hQ hT trivial
    obtain ⟨⟨v1, v2⟩, v3, v4, v5⟩ := zms_bd hT ⟨d1, d2, d3⟩
    obtain ⟨o1, o2, o3⟩ := zdm_o hT
    have hy0 : 0 ≤ zlv U := zpre0 (A := U) (B := T ++ Q) (by rw [← hL]; exact hbL)
    have hy5 : zlv U ≤ 5 := by
      have e1 := zpk_lv U
      have e2 : zpk U ≤ zpk L := by rw [hL]; exact zpk_le
      omega
    by_cases hn : T = []
    · subst hn
      rw [zdm_nil] at d1 d2 d3
      have d1' : w U.length = 1 := d1
      have d2' : a U.length = 0 := d2
      have d3' : b U.length = 0 := d3
      refine ⟨fun _ _ => 63, ?_, fun _ _ => (by omega : (32 : Int) ≤ 63 ∧ (63 : Int) ≤ 122), ?_⟩
      · intro e24 fu y x h hy hfu hb
        obtain ⟨⟨hx0, hxw⟩, hh0, hh1⟩ := hb
        have hh : h = 0 := by omega
        obtain ⟨f1, rfl⟩ : ∃ f, fu = f + 1 := ⟨fu - 1, by omega⟩
        rcases c_next hC (A := U) (R2 := []) (Q := Q) hL hQ hT (x := (U.length : Int)) rfl with ⟨i0, m, m1, m2⟩ | ⟨X, T1, m, m0, m1, m2, m3, m4, Y, m5⟩
        · have hsr : f_X4_signInRow 180 (U.length : Int) x h a b w n F = some (63, (U.length : Int), x, h) := by
            unfold f_X4_signInRow
            simp (disch := omega) only [m1, z_bd, c_st_f, z_eq_t, z_jn]
          exact ⟨_, _, _, m_once (by omega) hsr (by omega : (32 : Int) ≤ 63 ∧ (63 : Int) ≤ 122)⟩
        · rw [m5] at m0; simp at m0
      · intro s hs
        rw [d1', d2', d3']
        show (zis9 63 s + 0) + 0 = zrc s []
        unfold zrc zri zis9
        show (if (63 : Int) = s then 1 else 0) = (0 + (if s = 63 then 0 else 0)) + (if s = 63 ∧ ([] : List Int) = [] then 1 else 0)
        by_cases h63 : s = 63
        · rw [if_pos h63.symm, if_pos h63, if_pos ⟨h63, rfl⟩]
        · rw [if_neg (fun z => h63 z.symm), if_neg h63, if_neg (fun z => h63 z.1)]
    · have hlt : 0 < T.length := List.length_pos_iff.mpr hn
      obtain ⟨X0, T0, e0, hX0, hT0b⟩ := zitF hT hn
      obtain ⟨mf, Yf, ef, hmf, hmf2⟩ := zit_first hX0
      have hf := (hC.at (A := U) (m := mf) (T := Yf ++ T0 ++ Q) (by rw [hL, e0, ef]; simp) (x := (U.length : Int)) rfl).1
      cases k with
      | zero => omega
      | succ k =>
        obtain ⟨g, q1, q2, q3⟩ := m_cols hC hpL hbL hcL hg hf hmf2 ⟨v3, v4, by omega⟩ T.length (fun U' T' Q' p1 p2 p3 p4 p5 => m_rows hC hpL hbL hcL hg k U' T' Q' (by omega) p1 p2 p3 p4) T.length [] T Q (Nat.le_refl _) (Nat.le_refl _) hL rfl hT
        have hw : w U.length = (zdm T).1 := by
          have hz : ¬ (zdm T).1 = 0 := fun z => hn ((zdm_b hT).2.mp z)
          rw [d1]; unfold zbf; simp only [if_neg hz]
        refine ⟨g, ?_, q2, ?_⟩
        · intro e24 fu y x h hy hfu hb
          obtain ⟨⟨hx0, hxw⟩, hh0, hh1⟩ := hb
          obtain ⟨c1, c2, c3, e⟩ := q1 e24 fu y x h hy hfu ⟨hx0, by omega⟩ ⟨hh0, hh1⟩
          refine ⟨c1, c2, c3, ?_⟩
          rw [zdm_nil] at e
          have e9 : ((0 : Int), (0 : Int), (0 : Int)).1 + x = x := by show (0 : Int) + x = x; omega
          rw [e9] at e
          exact e
        · intro s hs
          unfold zG
          rw [hw, d2, d3, q3 s hs _ _ (Int.le_refl _) (Int.le_refl _)]
          unfold zrc
          rw [if_neg (fun z => hn z.2)]
          rfl
/-- a cell of the drawing -/
theorem m_drawn (hC : zCx 180 n F L) (hpL : zpk L ≤ 5) (hbL : zbal L) (hcL : zcnt L ≤ 60) (hg : zms L w a b (fun _ => True)) : ∃ g : Int → Int → Int, (∀ (x y r c h : Int), (0 ≤ x ∧ x < (zbf (zdm L)).1) → (0 ≤ y ∧ y < (zdm L).2.1 + 1 + (zdm L).2.2) → ∃ r' c' h', f_L_tryDrawn0 n r c h F a b w x y = some (g x (y - (zdm L).2.1), r', c', h', a, b, w)) ∧ (∀ x h, 32 ≤ g x h ∧ g x h ≤ 122) ∧ ∀ s, zok s → zG g (zbf (zdm L)).1 (zdm L).2.1 (zdm L).2.2 s = zrc s L := by
  obtain ⟨d1, d2, d3⟩ := hg [] L [] (by simp) (Or.inl rfl) (Or.inl rfl) hbL trivial
  obtain ⟨⟨v1, v2⟩, v3, v4, v5⟩ := zms_bd hbL ⟨d1, d2, d3⟩
  have h180 := hC.1
  obtain ⟨g, q1, q2, q3⟩ := m_rows hC hpL hbL hcL hg L.length [] L [] (Nat.le_refl _) (by simp) (Or.inl rfl) (Or.inl rfl) hbL
  simp only [List.length_nil] at d1 d2 d3 v1 v2 v3 v4 v5 q1 q3
  refine ⟨g, ?_, q2, ?_⟩
  · intro x y r c h hx hy
    have b1 := c_wd (w := w) (x := 0) 0 rfl (by omega)
    have b2 := c_ln (a := a) (b := b) (x := 0) 0 rfl (by omega)
    have b3 := c_ab (w := a) (x := 0) 0 rfl (by omega)
    have h5 : 5 - (0 : Int) < (fuel : Nat) := by unfold fuel; omega
    obtain ⟨c1, c2, c3, e⟩ := q1 (fun (z3 : Int × Int × Int × Int) => some (32, z3.1, z3.2.1, z3.2.2.1)) fuel 0 x (y - (zdm L).2.1) rfl h5 ⟨⟨hx.1, by omega⟩, by omega, by omega⟩
    have e' : f_X4_signAt_24 180 a b w n F (fun (z3 : Int × Int × Int × Int) => some (32, z3.1, z3.2.1, z3.2.2.1)) fuel 0 x (y - (zdm L).2.1) 0 = some (g x (y - (zdm L).2.1), c1, c2, c3) := e
    have hsa : f_X4_signAt 180 r c h a b w n F x y = some (g x (y - (zdm L).2.1), c1, c2, c3) := by
      unfold f_X4_signAt
      rw [b3, z_bd, d2]
      exact e'
    refine ⟨c1, c2, c3, ?_⟩
    unfold f_L_tryDrawn0 f_X7_drawn
    simp (disch := omega) only [c_measure_id hC hbL hcL hg, z_bd, z_jn, z_lt_f, z_lt_t, b1, b2, hsa, z_tg1]
  · intro s hs
    rw [← d1, ← d2, ← d3]
    exact q3 s hs
end RO
