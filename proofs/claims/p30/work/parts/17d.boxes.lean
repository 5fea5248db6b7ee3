/-! p30: the boxes of rows, as functions of their marks -/
abbrev zbT := Int × Int × Int
def zbp (x y : zbT) : zbT := (x.1 + y.1, mxI x.2.1 y.2.1, mxI x.2.2 y.2.2)
def zbf (x : zbT) : zbT := (if x.1 = 0 then 1 else x.1, x.2.1, x.2.2)
def zbk (k : Int) (i : zbT) : zbT := if k = 2 then (i.1, i.2.1 + 1 + i.2.2, 0) else if k = 3 then (i.1, 0, i.2.1 + 1 + i.2.2) else if k = 4 then (1 + i.1, 1 + i.2.1, i.2.2) else (2 + i.1, i.2.1, i.2.2)
def zbq (i j : zbT) : zbT := (mxI i.1 j.1, i.2.1 + 1 + i.2.2, j.2.1 + 1 + j.2.2)
def zdS (m : Int) (s : List zbT) : List zbT :=
  if 42 ≤ m then (match s with | [] => [] | x :: r => zbp x (1, 0, 0) :: r)
  else if m ≤ 6 then (0, 0, 0) :: s
  else if m = 11 then (match s with | j :: i :: x :: r => zbp x (zbq (zbf i) (zbf j)) :: r | _ => [])
  else (match s with | i :: x :: r => zbp x (zbk (m - 10) (zbf i)) :: r | _ => [])
def zdR : List zbT → List Int → List zbT
  | s, [] => s
  | s, m :: t => zdR (zdS m s) t
theorem zdR_app : ∀ (A B : List Int) (s : List zbT), zdR s (A ++ B) = zdR (zdR s A) B
  | [], B, s => rfl
  | m :: A, B, s => by simp only [List.cons_append, zdR]; exact zdR_app A B _
def zdm (T : List Int) : zbT := match zdR [(0, 0, 0)] T with | x :: _ => x | [] => (0, 0, 0)
def zbo2 (x : zbT) : Prop := 0 ≤ x.1 ∧ 0 ≤ x.2.1 ∧ 0 ≤ x.2.2
theorem zbp_a (x y z : zbT) : zbp (zbp x y) z = zbp x (zbp y z) := by
  have h : ∀ a b c : Int, mxI (mxI a b) c = mxI a (mxI b c) := by
    intro a b c
    have h1 := mx_s a b
    have h2 := mx_s b c
    have h3 := mx_s (mxI a b) c
    have h4 := mx_s a (mxI b c)
    omega
  unfold zbp
  simp only [h, Int.add_assoc]
theorem zbp_0 {y : zbT} (h : zbo2 y) : zbp (0, 0, 0) y = y := by
  obtain ⟨h1, h2, h3⟩ := h
  have m1 := mx_s 0 y.2.1
  have m2 := mx_s 0 y.2.2
  unfold zbp
  rw [show mxI 0 y.2.1 = y.2.1 by omega, show mxI 0 y.2.2 = y.2.2 by omega, Int.zero_add]
theorem zbp_n {x : zbT} (h : zbo2 x) : zbp x (0, 0, 0) = x := by
  obtain ⟨h1, h2, h3⟩ := h
  have m1 := mx_s x.2.1 0
  have m2 := mx_s x.2.2 0
  unfold zbp
  rw [show mxI x.2.1 0 = x.2.1 by omega, show mxI x.2.2 0 = x.2.2 by omega, Int.add_zero]
theorem zbo2_p {x y : zbT} (h : zbo2 x) (g : zbo2 y) : zbo2 (zbp x y) := by
  obtain ⟨h1, h2, h3⟩ := h
  obtain ⟨g1, g2, g3⟩ := g
  have m1 := mx_s x.2.1 y.2.1
  have m2 := mx_s x.2.2 y.2.2
  exact ⟨by show 0 ≤ x.1 + y.1; omega, by show 0 ≤ mxI x.2.1 y.2.1; omega, by show 0 ≤ mxI x.2.2 y.2.2; omega⟩
theorem zbf_1 {x : zbT} (h : zbo2 x) : 1 ≤ (zbf x).1 ∧ (zbf x).2 = x.2 ∧ x.1 ≤ (zbf x).1 ∧ (zbf x).1 ≤ x.1 + 1 := by
  unfold zbf
  obtain ⟨h1, -, -⟩ := h
  by_cases q : x.1 = 0
  · rw [if_pos q]; exact ⟨by show (1 : Int) ≤ 1; decide, rfl, by show x.1 ≤ 1; omega, by show (1 : Int) ≤ x.1 + 1; omega⟩
  · rw [if_neg q]; exact ⟨by show 1 ≤ x.1; omega, rfl, by show x.1 ≤ x.1; omega, by show x.1 ≤ x.1 + 1; omega⟩
theorem zbk_o {k : Int} {i : zbT} (h : zbo2 i) : zbo2 (zbk k i) := by
  obtain ⟨h1, h2, h3⟩ := h
  unfold zbk zbo2
  split
  · exact ⟨h1, by show 0 ≤ i.2.1 + 1 + i.2.2; omega, Int.le_refl 0⟩
  · split
    · exact ⟨h1, Int.le_refl 0, by show 0 ≤ i.2.1 + 1 + i.2.2; omega⟩
    · split
      · exact ⟨by show 0 ≤ 1 + i.1; omega, by show 0 ≤ 1 + i.2.1; omega, h3⟩
      · exact ⟨by show 0 ≤ 2 + i.1; omega, h2, h3⟩
theorem zbq_o {i j : zbT} (h : zbo2 i) (g : zbo2 j) : zbo2 (zbq i j) := by
  obtain ⟨h1, h2, h3⟩ := h
  obtain ⟨g1, g2, g3⟩ := g
  have m1 := mx_s i.1 j.1
  exact ⟨by show 0 ≤ mxI i.1 j.1; omega, by show 0 ≤ i.2.1 + 1 + i.2.2; omega, by show 0 ≤ j.2.1 + 1 + j.2.2; omega⟩
theorem zbf_o {x : zbT} (h : zbo2 x) : zbo2 (zbf x) := by
  have q := zbf_1 h
  obtain ⟨h1, h2, h3⟩ := h
  exact ⟨by omega, by rw [q.2.1]; exact h2, by rw [q.2.1]; exact h3⟩
/-- a row laid behind a row: its box beside -/
def zdE (T : List Int) (d : zbT) : Prop := zbo2 d ∧ ∀ (x : zbT) (s : List zbT), zbo2 x → zdR (x :: s) T = zbp x d :: s
theorem zdE_m {T : List Int} {d : zbT} (h : zdE T d) : zdm T = d := by
  unfold zdm
  rw [h.2 (0, 0, 0) [] ⟨Int.le_refl 0, Int.le_refl 0, Int.le_refl 0⟩]
  exact zbp_0 h.1
theorem zo0 : zbo2 (0, 0, 0) := ⟨Int.le_refl 0, Int.le_refl 0, Int.le_refl 0⟩
theorem zo1 : zbo2 (1, 0, 0) := ⟨by decide, Int.le_refl 0, Int.le_refl 0⟩
theorem zdE_nil : zdE [] (0, 0, 0) := ⟨zo0, fun x s hx => by simp only [zdR]; rw [zbp_n hx]⟩
theorem zdE_sym {m : Int} {R : List Int} {d : zbT} (hm : 42 ≤ m) (h : zdE R d) : zdE (m :: R) (zbp (1, 0, 0) d) := by
  refine ⟨zbo2_p zo1 h.1, fun x s hx => ?_⟩
  simp only [zdR, zdS, if_pos hm]
  rw [h.2 _ _ (zbo2_p hx zo1), zbp_a]
theorem zdE_k {k : Int} {I R : List Int} {i d : zbT} (hk : 2 ≤ k ∧ k ≤ 5) (hi : zdE I i) (h : zdE R d) : zdE (k :: (I ++ (k + 10) :: R)) (zbp (zbk k (zbf i)) d) := by
  have ho := zbk_o (k := k) (zbf_o hi.1)
  refine ⟨zbo2_p ho h.1, fun x s hx => ?_⟩
  simp only [zdR]
  rw [show zdS k (x :: s) = (0, 0, 0) :: x :: s by unfold zdS; rw [if_neg (by omega), if_pos (by omega)]]
  rw [zdR_app, hi.2 _ _ zo0, zbp_0 hi.1]
  simp only [zdR]
  rw [show zdS (k + 10) (i :: x :: s) = zbp x (zbk k (zbf i)) :: s by unfold zdS; rw [if_neg (by omega), if_neg (by omega), if_neg (by omega), show k + 10 - 10 = k by omega]]
  rw [h.2 _ _ (zbo2_p hx ho), zbp_a]
theorem zdE_q {I J R : List Int} {i j d : zbT} (hi : zdE I i) (hj : zdE J j) (h : zdE R d) : zdE (1 :: (I ++ 6 :: (J ++ 11 :: R))) (zbp (zbq (zbf i) (zbf j)) d) := by
  have ho := zbq_o (zbf_o hi.1) (zbf_o hj.1)
  refine ⟨zbo2_p ho h.1, fun x s hx => ?_⟩
  simp only [zdR]
  rw [show zdS 1 (x :: s) = (0, 0, 0) :: x :: s by unfold zdS; rw [if_neg (by omega), if_pos (by omega)]]
  rw [zdR_app, hi.2 _ _ zo0, zbp_0 hi.1]
  simp only [zdR]
  rw [show zdS 6 (i :: x :: s) = (0, 0, 0) :: i :: x :: s by unfold zdS; rw [if_neg (by omega), if_pos (by omega)]]
  rw [zdR_app, hj.2 _ _ zo0, zbp_0 hj.1]
  simp only [zdR]
  rw [show zdS 11 (j :: i :: x :: s) = zbp x (zbq (zbf i) (zbf j)) :: s by unfold zdS; rw [if_neg (by omega), if_neg (by omega), if_pos rfl]]
  rw [h.2 _ _ (zbo2_p hx ho), zbp_a]
theorem zdE_all {T : List Int} (h : zbal T) : zdE T (zdm T) := by
  have key : ∃ d, zdE T d := by
    refine zbal_ind2 (P := fun T => ∃ d, zdE T d) ⟨_, zdE_nil⟩ ?_ ?_ ?_ T.length T (Nat.le_refl _) h
    · rintro m R hm - ⟨d, hd⟩
      exact ⟨_, zdE_sym hm.1.1 hd⟩
    · rintro k I R hk - - ⟨i, hi⟩ ⟨d, hd⟩
      exact ⟨_, zdE_k hk hi hd⟩
    · rintro I J R - - - ⟨i, hi⟩ ⟨j, hj⟩ ⟨d, hd⟩
      exact ⟨_, zdE_q hi hj hd⟩
  obtain ⟨d, hd⟩ := key
  rw [zdE_m hd]
  exact hd
theorem zdm_nil : zdm [] = (0, 0, 0) := zdE_m zdE_nil
theorem zdm_o {T : List Int} (h : zbal T) : zbo2 (zdm T) := (zdE_all h).1
theorem zdm_sym {m : Int} {R : List Int} (hm : 42 ≤ m) (hR : zbal R) : zdm (m :: R) = zbp (1, 0, 0) (zdm R) := zdE_m (zdE_sym hm (zdE_all hR))
theorem zdm_k {k : Int} {I R : List Int} (hk : 2 ≤ k ∧ k ≤ 5) (hI : zbal I) (hR : zbal R) : zdm (k :: (I ++ (k + 10) :: R)) = zbp (zbk k (zbf (zdm I))) (zdm R) := zdE_m (zdE_k hk (zdE_all hI) (zdE_all hR))
theorem zdm_q {I J R : List Int} (hI : zbal I) (hJ : zbal J) (hR : zbal R) : zdm (1 :: (I ++ 6 :: (J ++ 11 :: R))) = zbp (zbq (zbf (zdm I)) (zbf (zdm J))) (zdm R) := zdE_m (zdE_q (zdE_all hI) (zdE_all hJ) (zdE_all hR))
theorem zdm_app {A B : List Int} (hA : zbal A) (hB : zbal B) : zdm (A ++ B) = zbp (zdm A) (zdm B) := by
  have h1 := zdE_all hA
  have h2 := zdE_all hB
  refine zdE_m ⟨zbo2_p h1.1 h2.1, fun x s hx => ?_⟩
  rw [zdR_app, h1.2 _ _ hx, h2.2 _ _ (zbo2_p hx h1.1), zbp_a]
/-- bounds of a row's box -/
theorem zdm_b {T : List Int} (h : zbal T) : ((zdm T).1 ≤ 2 * T.length ∧ (zdm T).2.1 + (zdm T).2.2 ≤ 2 * T.length) ∧ ((zdm T).1 = 0 ↔ T = []) := by
  refine zbal_ind2 (P := fun T => ((zdm T).1 ≤ 2 * T.length ∧ (zdm T).2.1 + (zdm T).2.2 ≤ 2 * T.length) ∧ ((zdm T).1 = 0 ↔ T = [])) (by rw [zdm_nil]; simp) ?_ ?_ ?_ T.length T (Nat.le_refl _) h
  · rintro m R hm hR ⟨⟨i1, i2⟩, i3⟩
    obtain ⟨o1, o2, o3⟩ := zdm_o hR
    rw [zdm_sym hm.1.1 hR]
    unfold zbp
    have m1 := mx_s 0 (zdm R).2.1
    have m2 := mx_s 0 (zdm R).2.2
    simp only [List.length_cons]
    exact ⟨⟨by omega, by omega⟩, ⟨fun z => by omega, fun z => by cases z⟩⟩
  · rintro k I R hk hI hR ⟨⟨i1, i2⟩, i3⟩ ⟨⟨j1, j2⟩, j3⟩
    obtain ⟨o1, o2, o3⟩ := zdm_o hR
    obtain ⟨p1, p2, p3⟩ := zdm_o hI
    obtain ⟨f1, f2, f3, f4⟩ := zbf_1 (zdm_o hI)
    rw [zdm_k hk hI hR]
    have hk2 : k = 2 ∨ k = 3 ∨ k = 4 ∨ k = 5 := by omega
    unfold zbp
    simp only [List.length_cons, List.length_append]
    rcases hk2 with rfl | rfl | rfl | rfl
    · have e : zbk 2 (zbf (zdm I)) = ((zbf (zdm I)).1, (zdm I).2.1 + 1 + (zdm I).2.2, 0) := by unfold zbk; rw [if_pos rfl, f2]
      rw [e]
      have m1 := mx_s ((zdm I).2.1 + 1 + (zdm I).2.2) (zdm R).2.1
      have m2 := mx_s 0 (zdm R).2.2
      exact ⟨⟨by show (zbf (zdm I)).1 + (zdm R).1 ≤ _; omega, by show mxI ((zdm I).2.1 + 1 + (zdm I).2.2) (zdm R).2.1 + mxI 0 (zdm R).2.2 ≤ _; omega⟩, ⟨fun z => by have z2 : (zbf (zdm I)).1 + (zdm R).1 = 0 := z; omega, fun z => by cases z⟩⟩
    · have e : zbk 3 (zbf (zdm I)) = ((zbf (zdm I)).1, 0, (zdm I).2.1 + 1 + (zdm I).2.2) := by unfold zbk; rw [if_neg (by decide), if_pos rfl, f2]
      rw [e]
      have m1 := mx_s ((zdm I).2.1 + 1 + (zdm I).2.2) (zdm R).2.2
      have m2 := mx_s 0 (zdm R).2.1
      exact ⟨⟨by show (zbf (zdm I)).1 + (zdm R).1 ≤ _; omega, by show mxI 0 (zdm R).2.1 + mxI ((zdm I).2.1 + 1 + (zdm I).2.2) (zdm R).2.2 ≤ _; omega⟩, ⟨fun z => by have z2 : (zbf (zdm I)).1 + (zdm R).1 = 0 := z; omega, fun z => by cases z⟩⟩
    · have e : zbk 4 (zbf (zdm I)) = (1 + (zbf (zdm I)).1, 1 + (zdm I).2.1, (zdm I).2.2) := by unfold zbk; rw [if_neg (by decide), if_neg (by decide), if_pos rfl, f2]
      rw [e]
      have m1 := mx_s (1 + (zdm I).2.1) (zdm R).2.1
      have m2 := mx_s (zdm I).2.2 (zdm R).2.2
      exact ⟨⟨by show 1 + (zbf (zdm I)).1 + (zdm R).1 ≤ _; omega, by show mxI (1 + (zdm I).2.1) (zdm R).2.1 + mxI (zdm I).2.2 (zdm R).2.2 ≤ _; omega⟩, ⟨fun z => by have z2 : 1 + (zbf (zdm I)).1 + (zdm R).1 = 0 := z; omega, fun z => by cases z⟩⟩
    · have e : zbk 5 (zbf (zdm I)) = (2 + (zbf (zdm I)).1, (zdm I).2.1, (zdm I).2.2) := by unfold zbk; rw [if_neg (by decide), if_neg (by decide), if_neg (by decide), f2]
      rw [e]
      have m1 := mx_s (zdm I).2.1 (zdm R).2.1
      have m2 := mx_s (zdm I).2.2 (zdm R).2.2
      exact ⟨⟨by show 2 + (zbf (zdm I)).1 + (zdm R).1 ≤ _; omega, by show mxI (zdm I).2.1 (zdm R).2.1 + mxI (zdm I).2.2 (zdm R).2.2 ≤ _; omega⟩, ⟨fun z => by have z2 : 2 + (zbf (zdm I)).1 + (zdm R).1 = 0 := z; omega, fun z => by cases z⟩⟩
  · rintro I J R hI hJ hR ⟨⟨i1, i2⟩, i3⟩ ⟨⟨j1, j2⟩, j3⟩ ⟨⟨r1, r2⟩, r3⟩
    obtain ⟨o1, o2, o3⟩ := zdm_o hR
    obtain ⟨p1, p2, p3⟩ := zdm_o hI
    obtain ⟨q1, q2, q3⟩ := zdm_o hJ
    obtain ⟨f1, f2, f3, f4⟩ := zbf_1 (zdm_o hI)
    obtain ⟨g1, g2, g3, g4⟩ := zbf_1 (zdm_o hJ)
    rw [zdm_q hI hJ hR]
    have e : zbq (zbf (zdm I)) (zbf (zdm J)) = (mxI (zbf (zdm I)).1 (zbf (zdm J)).1, (zdm I).2.1 + 1 + (zdm I).2.2, (zdm J).2.1 + 1 + (zdm J).2.2) := by unfold zbq; rw [f2, g2]
    rw [e]
    unfold zbp
    simp only [List.length_cons, List.length_append]
    have m0 := mx_s (zbf (zdm I)).1 (zbf (zdm J)).1
    have m1 := mx_s ((zdm I).2.1 + 1 + (zdm I).2.2) (zdm R).2.1
    have m2 := mx_s ((zdm J).2.1 + 1 + (zdm J).2.2) (zdm R).2.2
    exact ⟨⟨by omega, by omega⟩, ⟨fun z => by omega, fun z => by cases z⟩⟩
