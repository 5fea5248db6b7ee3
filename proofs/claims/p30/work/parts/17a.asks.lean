/-! p30: what a formula answers, by its line of marks -/
theorem z_tg1 {ρ : Type} {tag t1 : Int} {A B : Option ρ} (h : tag = 0) : tg1 tag t1 A B = A := if_pos h
theorem z_tg1x {ρ : Type} {tag t1 : Int} {A B : Option ρ} (h : ¬ tag = 0 ∧ tag = t1) : tg1 tag t1 A B = B := by unfold tg1; rw [if_neg h.1, if_pos h.2]
theorem z_tg2 {ρ : Type} {tag t1 t2 : Int} {A B C : Option ρ} (h : tag = 0) : tg2 tag t1 t2 A B C = A := if_pos h
theorem z_tg2x {ρ : Type} {tag t1 t2 : Int} {A B C : Option ρ} (h : ¬ tag = 0 ∧ tag = t1) : tg2 tag t1 t2 A B C = B := by unfold tg2; rw [if_neg h.1, if_pos h.2]
theorem z_tg2y {ρ : Type} {tag t1 t2 : Int} {A B C : Option ρ} (h : ¬ tag = 0 ∧ ¬ tag = t1 ∧ tag = t2) : tg2 tag t1 t2 A B C = C := by unfold tg2; rw [if_neg h.1, if_neg h.2.1, if_pos h.2.2]
section AB
variable {n ca cn x : Int} {F Fc : Nat → Int} {L Lc : List Int}
theorem m_ab0 (hC : zCx 180 n F L) : f_X7_about cn n ca Fc F 0 = some (0, (zcnt L : Int)) := by
  have e1 := c_count hC (A := []) (S := L) (B := []) (by simp) (x := 0) (y := n) rfl (by rw [hC.1.1]; simp)
  unfold f_X7_about f_X3_allItems
  simp (disch := omega) only [z_eq_t, e1, z_bd]
theorem m_ab1 (hC : zCx 180 n F L) : f_X7_about cn n ca Fc F 1 = some (0, (L.length : Int) + 1) := by
  have e1 := hC.1
  unfold f_X7_about
  simp (disch := omega) only [z_eq_t, z_eq_f]
  rw [e1.1]
theorem m_ab2 : f_X7_about cn n ca Fc F 2 = some (0, ca) := by
  unfold f_X7_about
  simp (disch := omega) only [z_eq_t, z_eq_f]
theorem m_ab3 (hC : zCx 180 n F L) : f_X7_about cn n ca Fc F 3 = some (0, zpk L) := by
  have e1 := c_depth hC (A := []) (S := L) (B := []) (by simp) (x := 0) (y := n) rfl (by rw [hC.1.1]; simp)
  unfold f_X7_about
  simp (disch := omega) only [z_eq_t, z_eq_f, e1, z_bd]
theorem m_ab4 (hC : zCx 180 n F L) : f_X7_about cn n ca Fc F 4 = some (0, (zes L : Int)) := by
  have e1 := c_empty hC
  unfold f_X7_about
  simp (disch := omega) only [z_eq_t, z_eq_f, e1, z_bd]
theorem m_ab5 (hC : zCx 180 cn Fc Lc) : f_X7_about cn n ca Fc F 5 = some (0, (zcnt Lc : Int)) := by
  have e1 := c_count hC (A := []) (S := Lc) (B := []) (by simp) (x := 0) (y := cn) rfl (by rw [hC.1.1]; simp)
  unfold f_X7_about
  simp (disch := omega) only [z_eq_t, z_eq_f, e1, z_bd]
theorem t_ab {x v : Int} (h : f_X7_about cn n ca Fc F x = some (0, v)) : f_L_tryAbout cn n ca Fc F x = some v ∧ f_L_tryAbout0 cn n ca Fc F x = some v := by
  unfold f_L_tryAbout f_L_tryAbout0
  rw [h, z_bd, z_bd]
  exact ⟨rfl, rfl⟩
/-- a place, told by the row in which it is -/
theorem m_pl (hC : zCx 180 n F L) (hx : 0 ≤ x ∧ x ≤ (L.length : Int)) : f_X3_hasPlace n x = some 1 := by
  have h1 := hC.1
  rw [c_hasPlace h1.1 (by omega) (by omega), show decide (0 ≤ x ∧ x ≤ (L.length : Int)) = true from decide_eq_true hx, zbi_t]
theorem m_pl0 (hC : zCx 180 n F L) {A B : List Int} (hL : L = A ++ B) (hx : x = (A.length : Int)) : f_X7_place n F x 0 = some (0, zlv A) := by
  have h1 := hC.1
  have h2 : (L.length : Int) = A.length + B.length := by rw [hL]; simp
  have e1 := m_pl hC (x := x) (by omega)
  have e2 := c_rowStart hC hL hx
  have e3 := c_level hC hL hx
  unfold f_X7_place
  simp (disch := omega) only [e1, e2, e3, z_bd, z_eq_t, z_eq_f]
theorem m_pl1 (hC : zCx 180 n F L) {P R T : List Int} (hL : L = P ++ (R ++ T)) (hP : zend P) (hR : zbal R) (hx : x = (P.length : Int) + R.length) : f_X7_place n F x 1 = some (0, (zni 0 R : Int)) := by
  have h1 := hC.1
  have h2 : (L.length : Int) = P.length + R.length + T.length := by rw [hL]; simp; omega
  have e1 := m_pl hC (x := x) (by omega)
  have e2 := c_rs hC hL hP hR hx
  have e3 := c_rowItems hC hL (x := (P.length : Int)) (y := x) rfl hx
  unfold f_X7_place
  simp (disch := omega) only [e1, e2, e3, z_bd, z_eq_t, z_eq_f]
theorem m_pl2 (hC : zCx 180 n F L) {P R R2 Q : List Int} (hL : L = P ++ (R ++ (R2 ++ Q))) (hP : zend P) (hQ : zbeg Q) (hR : zbal R) (hR2 : zbal R2) (hx : x = (P.length : Int) + R.length) : f_X7_place n F x 2 = some (0, (zni 0 (R ++ R2) : Int)) := by
  have h1 := hC.1
  have h2 : (L.length : Int) = P.length + R.length + (R2.length + Q.length) := by rw [hL]; simp; omega
  have e1 := m_pl hC (x := x) (by omega)
  have e2 := c_rs hC hL hP hR hx
  have e4 := c_re hC (A := P ++ R) (R := R2) (Q := Q) (by rw [hL]; simp) hQ hR2 (x := x) (by rw [hx]; simp)
  have e3 := c_rowItems hC (A := P) (S := R ++ R2) (B := Q) (by rw [hL]; simp) (x := (P.length : Int)) (y := ((P ++ R).length : Int) + R2.length) rfl (by simp; omega)
  unfold f_X7_place
  simp (disch := omega) only [e1, e2, e4, z_bd, z_eq_t, z_eq_f]
  rw [e3, z_bd]
theorem m_pl3 (hC : zCx 180 n F L) {P R T : List Int} {kd : Int} (hL : L = P ++ (R ++ T)) (hP : zend P) (hR : zbal R) (hk : f_X3_kindAround 180 n F (P.length : Int) = some kd) (hx : x = (P.length : Int) + R.length) : f_X7_place n F x 3 = some (0, kd) := by
  have h1 := hC.1
  have h2 : (L.length : Int) = P.length + R.length + T.length := by rw [hL]; simp; omega
  have e1 := m_pl hC (x := x) (by omega)
  have e2 := c_rs hC hL hP hR hx
  unfold f_X7_place
  simp (disch := omega) only [e1, e2, hk, z_bd, z_eq_t, z_eq_f]
theorem m_pl4 (hC : zCx 180 n F L) {P R T : List Int} {mm : Int} (hL : L = P ++ (R ++ T)) (hP : zend P) (hR : zbal R) (hm : f_X3_mark 180 n F ((P.length : Int) - 1) = some mm) (hmm : -2147483648 ≤ mm ∧ mm ≤ 2147483647) (hx : x = (P.length : Int) + R.length) : f_X7_place n F x 4 = some (0, if mm = 6 then 1 else 0) := by
  have h1 := hC.1
  have h2 : (L.length : Int) = P.length + R.length + T.length := by rw [hL]; simp; omega
  have e1 := m_pl hC (x := x) (by omega)
  have e2 := c_rs hC hL hP hR hx
  unfold f_X7_place
  by_cases h6 : mm = 6
  · simp (disch := omega) only [e1, e2, hm, z_bd, z_eq_t, z_eq_f, z_jn, h6, if_true]
  · rw [if_neg h6]
    simp (disch := omega) only [e1, e2, hm, z_bd, z_eq_t, z_eq_f, z_jn]
theorem m_pl5 (hC : zCx 180 n F L) {A B : List Int} (hL : L = A ++ B) (hx : x = (A.length : Int)) : f_X7_place n F x 5 = some (0, if zsi (zhd B) = true then zhd B else -9) := by
  have h1 := hC.1
  have h2 : (L.length : Int) = A.length + B.length := by rw [hL]; simp
  have e1 := m_pl hC (x := x) (by omega)
  have e2 := c_rowStart hC hL hx
  unfold f_X7_place
  cases B with
  | nil =>
    have e3 := hC.out (x := x) (by simp at h2; omega)
    rw [if_neg (show ¬ zsi (zhd []) = true by decide)]
    simp (disch := omega) only [e1, e2, e3, z_bd, z_eq_t, z_eq_f, z_jn, c_st_f]
  | cons m T =>
    have e3 := hC.at hL hx
    have e4 := zv_rc e3.2.1
    have e5 := e3.1
    show _ = some (0, if zsi m = true then m else -9)
    by_cases hs : zsi m = true
    · rw [if_pos hs]
      have hs2 : (1 ≤ m ∧ m ≤ 5) ∨ 42 ≤ m := by simpa [zsi] using hs
      simp (disch := omega) only [e1, e2, e5, z_bd, z_eq_t, z_eq_f, z_jn, c_st_t]
    · rw [if_neg hs]
      have hs2 : ¬ ((1 ≤ m ∧ m ≤ 5) ∨ 42 ≤ m) := by simpa [zsi] using hs
      simp (disch := omega) only [e1, e2, e5, z_bd, z_eq_t, z_eq_f, z_jn, c_st_f]
theorem t_pl {x y v : Int} (h : f_X7_place n F x y = some (0, v)) : f_L_tryPlace n F x y = some v ∧ f_L_tryPlace0 n F x y = some v := by
  unfold f_L_tryPlace f_L_tryPlace0
  rw [h, z_bd, z_bd]
  exact ⟨rfl, rfl⟩
/-- the kind of the structure around a row, by the last mark before it -/
theorem m_kd (hC : zCx 180 n F L) {P T : List Int} {m : Int} (hL : L = P ++ m :: T) (hm : 1 ≤ m ∧ m ≤ 5) : f_X3_kindAround 180 n F ((P ++ [m]).length : Int) = some m := by
  have h1 := hC.at hL rfl
  have hl : ((P ++ [m]).length : Int) = P.length + 1 := by simp
  have h3 := h1.2.2
  unfold f_X3_kindAround f_X3_holder
  have e1 := (hC.at hL (x := ((P ++ [m]).length : Int) - 1) (by omega)).1
  simp (disch := omega) only [z_jn, z_lt_t, z_bd, e1, z_eq_f]
theorem m_kd6 (hC : zCx 180 n F L) {P I T : List Int} (hL : L = P ++ 1 :: (I ++ 6 :: T)) (hI : zbal I) : f_X3_kindAround 180 n F ((P ++ 1 :: (I ++ [6])).length : Int) = some 1 := by
  have h1 := hC.at hL rfl
  have hl : ((P ++ 1 :: (I ++ [6])).length : Int) = P.length + I.length + 2 := by simp; omega
  have hL2 : L = (P ++ 1 :: I) ++ 6 :: T := by rw [hL]; simp
  have e1 := (hC.at hL2 (x := ((P ++ 1 :: (I ++ [6])).length : Int) - 1) (by rw [hl]; simp; omega)).1
  have e2 := c_rs hC (P := P ++ [1]) (R := I) (T := 6 :: T) (by rw [hL]; simp) (Or.inr ⟨P, 1, rfl, by omega, by omega⟩) hI (x := ((P ++ 1 :: (I ++ [6])).length : Int) - 1) (by rw [hl]; simp; omega)
  have h3 := h1.2.2
  have h4 : L.length = P.length + 1 + (I.length + 1 + T.length) := by rw [hL]; simp; omega
  have h5 := hC.1
  have e3 := (hC.at hL (x := ((P ++ [1]).length : Int) - 1) (by simp)).1
  unfold f_X3_kindAround f_X3_holder
  simp (disch := omega) only [z_jn, z_lt_t, z_bd, e1, e2, e3, z_eq_t]
theorem m_kd0 : f_X3_kindAround 180 n F 0 = some 0 := by
  unfold f_X3_kindAround
  simp (disch := omega) only [z_jn, z_lt_f]
end AB
/-- the row of a place: what stands around it -/
def zar (A B : List Int) (kd w : Int) (P R R2 Q : List Int) : Prop := (A = P ++ R ∧ B = R2 ++ Q ∧ zbal R ∧ zbal R2 ∧ zend P ∧ zbeg Q) ∧ ((kd = 0 ∧ w = 0 ∧ P = [] ∧ Q = []) ∨ (∃ P0 Q0 : List Int, P = P0 ++ [kd] ∧ Q = (kd + 10) :: Q0 ∧ 2 ≤ kd ∧ kd ≤ 5 ∧ w = 0) ∨ (∃ P0 J Q0 : List Int, P = P0 ++ [1] ∧ Q = 6 :: (J ++ 11 :: Q0) ∧ zbal J ∧ kd = 1 ∧ w = 0) ∨ (∃ P0 I Q0 : List Int, P = P0 ++ 1 :: (I ++ [6]) ∧ Q = 11 :: Q0 ∧ zbal I ∧ kd = 1 ∧ w = 1))
theorem zar_ex {A B : List Int} (h : zbal (A ++ B)) : ∃ (kd w : Int) (P R R2 Q : List Int), zar A B kd w P R R2 Q := by
  rcases zrow h with ⟨h1, h2⟩ | ⟨P, R, R2, Q, s, hf, h1, h2, -, -⟩
  · exact ⟨0, 0, [], A, B, [], ⟨rfl, by simp, h1, h2, Or.inl rfl, Or.inl rfl⟩, Or.inl ⟨rfl, rfl, rfl, rfl⟩⟩
  · rcases hf with ⟨k, a1, a2, a3, a4⟩ | ⟨J, a1, a2, a3⟩ | ⟨I, a1, a2, a3⟩
    · exact ⟨k, 0, P ++ [k], R, R2, (k + 10) :: Q, ⟨by rw [a1]; simp, a2, h1, h2, Or.inr ⟨P, k, rfl, by omega, by omega⟩, Or.inr ⟨k + 10, Q, rfl, by omega⟩⟩, Or.inr (Or.inl ⟨P, Q, rfl, rfl, a3, a4, rfl⟩)⟩
    · exact ⟨1, 0, P ++ [1], R, R2, 6 :: (J ++ 11 :: Q), ⟨by rw [a1]; simp, a2, h1, h2, Or.inr ⟨P, 1, rfl, by omega, by omega⟩, Or.inr ⟨6, _, rfl, by omega⟩⟩, Or.inr (Or.inr (Or.inl ⟨P, J, Q, rfl, rfl, a3, rfl, rfl⟩))⟩
    · exact ⟨1, 1, P ++ 1 :: (I ++ [6]), R, R2, 11 :: Q, ⟨by rw [a1]; simp, a2, h1, h2, Or.inr ⟨P ++ 1 :: I, 6, by simp, by omega, by omega⟩, Or.inr ⟨11, Q, rfl, by omega⟩⟩, Or.inr (Or.inr (Or.inr ⟨P, I, Q, rfl, rfl, a3, rfl, rfl⟩))⟩
theorem m_row {n x : Int} {F : Nat → Int} {L A B P R R2 Q : List Int} {kd w : Int} (hC : zCx 180 n F L) (hL : L = A ++ B) (ha : zar A B kd w P R R2 Q) (hx : x = (A.length : Int)) : f_X7_place n F x 1 = some (0, (zni 0 R : Int)) ∧ f_X7_place n F x 2 = some (0, (zni 0 (R ++ R2) : Int)) ∧ f_X7_place n F x 3 = some (0, kd) ∧ f_X7_place n F x 4 = some (0, w) := by
  obtain ⟨⟨e1, e2, e3, e4, e5, e6⟩, hc⟩ := ha
  have hx2 : x = (P.length : Int) + R.length := by rw [hx, e1]; simp
  have hL2 : L = P ++ (R ++ (R2 ++ Q)) := by rw [hL, e1, e2]; simp
  refine ⟨m_pl1 hC hL2 e5 e3 hx2, m_pl2 hC hL2 e5 e6 e3 e4 hx2, ?_⟩
  rcases hc with ⟨c1, c2, c3, c4⟩ | ⟨P0, Q0, c1, c2, c3, c4, c5⟩ | ⟨P0, J, Q0, c1, c2, c3, c4, c5⟩ | ⟨P0, I, Q0, c1, c2, c3, c4, c5⟩
  · subst c3
    have q := m_pl4 hC hL2 e5 e3 (mm := 0) (hC.out (by simp)) (by omega) hx2
    rw [if_neg (by decide)] at q
    exact ⟨m_pl3 hC hL2 e5 e3 (by rw [c1]; exact m_kd0) hx2, by rw [c2]; exact q⟩
  · have hL3 : L = P0 ++ kd :: (R ++ (R2 ++ Q)) := by rw [hL2, c1]; simp
    have q := m_pl4 hC hL2 e5 e3 (mm := kd) (hC.at hL3 (by rw [c1]; simp)).1 (by omega) hx2
    rw [if_neg (by omega)] at q
    exact ⟨m_pl3 hC hL2 e5 e3 (by rw [c1]; exact m_kd hC hL3 (by omega)) hx2, by rw [c5]; exact q⟩
  · have hL3 : L = P0 ++ 1 :: (R ++ (R2 ++ Q)) := by rw [hL2, c1]; simp
    have q := m_pl4 hC hL2 e5 e3 (mm := 1) (hC.at hL3 (by rw [c1]; simp)).1 (by omega) hx2
    rw [if_neg (by omega)] at q
    exact ⟨m_pl3 hC hL2 e5 e3 (by rw [c1, c4]; exact m_kd hC hL3 (by omega)) hx2, by rw [c5]; exact q⟩
  · have hL3 : L = P0 ++ 1 :: (I ++ 6 :: (R ++ (R2 ++ Q))) := by rw [hL2, c1]; simp
    have hL4 : L = (P0 ++ 1 :: I) ++ 6 :: (R ++ (R2 ++ Q)) := by rw [hL3]; simp
    have q := m_pl4 hC hL2 e5 e3 (mm := 6) (hC.at hL4 (by rw [c1]; simp; omega)).1 (by omega) hx2
    rw [if_pos rfl] at q
    exact ⟨m_pl3 hC hL2 e5 e3 (by rw [c1, c4]; exact m_kd6 hC hL3 c3) hx2, by rw [c5]; exact q⟩
