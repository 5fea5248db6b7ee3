/-! p30: scripts and simulations -/
section SC
variable {n ca fr : Int} {F : Nat → Int} {A S B : List Int}
theorem c_bec (hI : zI A S B) (hC : zCs n ca fr F A S B) (n1 c1 f1 : Int) (F1 : Nat → Int) : ∃ G', f_X0_become n1 c1 f1 F1 n ca fr F = some (n, ca, fr, G') ∧ zCs n ca fr G' A S B := by
  have hl := hI.len
  have hn : n = ((A ++ (S ++ B)).length : Int) := hC.1.1.1
  obtain ⟨G', t1, t2⟩ := c_take (N := 180) (n := n1) (F := F1) (X := []) (Y := A ++ (S ++ B)) (Z := []) (by simpa using hC.1) (x := 0) (y := n) rfl (by simp; rw [hn]; simp) (by simp; omega) (by omega)
  refine ⟨G', ?_, ⟨by rw [hn]; exact t2, hC.2.1, hC.2.2⟩⟩
  unfold f_X0_become
  rw [t1, z_bd, ← hn]
theorem c_run_step {n0 c0 f0 : Int} {F0 : Nat → Int} {m s i q v ok tn tc tf n' ca' fr' : Int} {a b w F2 a' b' w' F' : Nat → Int} {fu : Nat} {e : Int × Int × Int × (Nat → Int) × (Nat → Int) × (Nat → Int) × (Nat → Int) × Int → Option (Int × Int × Int × Int × Int × (Nat → Int) × (Nat → Int) × (Nat → Int) × (Nat → Int))} (hi : 0 ≤ i ∧ i < m ∧ m ≤ 4) (hq : f_X7_withoutGroups s (m - 1 - i) = some q) (hq0 : 0 ≤ q ∧ q ≤ 9223372036854775807) (hv : q.tmod 10000 = v) (ho : f_X7_obeys tn tc tf a b w F2 v = some (ok, n', ca', fr', a', b', w', F')) : f_X7_runScript_62 n0 c0 f0 F0 m s e (fu + 1) tn tc tf a b w F2 i = cEq ok 0 (some (0, i, n', ca', fr', a', b', w', F')) (f_X7_runScript_62 n0 c0 f0 F0 m s e fu n' ca' fr' a' b' w' F' (i + 1)) := by
  simp (disch := omega) only [f_X7_runScript_62, z_lt_t, hq, z_bd, z_gL, hv]
  rw [if_neg (by decide), ho]
  simp only [z_bd]
theorem t_scr {tn tc tf m s v tn' tc' tf' : Int} {a b w F2 a' b' w' F' : Nat → Int} (h : f_X7_runScript n ca fr tn tc tf F a b w F2 m s = some (0, v, tn', tc', tf', a', b', w', F')) : f_L_tryScript n ca fr tn tc tf F a b w F2 m s = some (v, tn', tc', tf', a', b', w', F') := by
  unfold f_L_tryScript
  rw [h, z_bd]
  exact z_tg1 rfl
/-- a script of one group -/
theorem m_script1 (hI : zI A S B) (hC : zCs n ca fr F A S B) {s ok : Int} (hs : 0 ≤ s ∧ s ≤ 9999) (ho : ∀ (F3 a b w : Nat → Int), zCs n ca fr F3 A S B → ∃ (n' ca' fr' : Int) (a' b' w' F' : Nat → Int), f_X7_obeys n ca fr a b w F3 s = some (ok, n', ca', fr', a', b', w', F')) (hok : ok = 0 ∨ ok = 1) (tn tc tf : Int) (a b w F2 : Nat → Int) : ∃ (tn' tc' tf' : Int) (a' b' w' F' : Nat → Int), f_L_tryScript n ca fr tn tc tf F a b w F2 1 s = some ((if ok = 0 then 0 else -9), tn', tc', tf', a', b', w', F') := by
  have w1 : f_X7_withoutGroups s 1 = some 0 := by
    rw [c_without (by omega) (by omega) (by omega)]
    show some (s / 10000) = some 0
    congr 1
    omega
  have w0 : f_X7_withoutGroups s (1 - 1 - 0) = some s := by
    rw [show (1 : Int) - 1 - 0 = 0 by decide, c_without (by omega) (by omega) (by omega)]
    rfl
  have hm : s.tmod 10000 = s := by
    rw [Int.tmod_eq_emod_of_nonneg hs.1]
    omega
  obtain ⟨F3, b1, b2⟩ := c_bec hI hC tn tc tf F2
  obtain ⟨n', ca', fr', a', b', w', F', o⟩ := ho F3 a b w b2
  refine ⟨n', ca', fr', a', b', w', F', t_scr ?_⟩
  unfold f_X7_runScript
  simp (disch := omega) only [z_jn, z_lt_f, z_dlt_f, w1, z_bd, b1]
  obtain ⟨fu, hfu⟩ : ∃ fu, fuel = fu + 1 + 1 := ⟨fuel - 2, by unfold fuel; omega⟩
  rw [hfu, c_run_step (by omega) w0 (by omega) hm o]
  rcases hok with h | h
  · rw [z_eq_t (by omega), if_pos h]
  · rw [z_eq_f (by omega), if_neg (by omega)]
    simp (disch := omega) only [f_X7_runScript_62, z_lt_f]
theorem ztd {x y : Int} {k : Nat} (h : 0 ≤ x) (e : x / (k : Int) = y) : x.tdiv k = y := by
  rw [Int.tdiv_eq_ediv_of_nonneg h]; exact e
theorem o_cnt {a b w : Nat → Int} (hI : zI A S B) (hC : zCs n ca fr F A S B) {k : Int} (hk : 0 ≤ k ∧ k < 100) : f_X7_obeys n ca fr a b w F (7000 + k) = some (if (zcnt (A ++ (S ++ B)) : Int) = k then 1 else 0, n, ca, fr, a, b, w, F) := by
  have d1 : (7000 + k).tdiv 1000 = 7 := by rw [Int.tdiv_eq_ediv_of_nonneg (by omega)]; omega
  have d2 : (7000 + k).tmod 1000 = k := by rw [Int.tmod_eq_emod_of_nonneg (by omega)]; omega
  have h1 := c_all hC.1
  have h2 := hI.2.1
  unfold f_X7_obeys
  rw [d1, d2]
  by_cases h : (zcnt (A ++ (S ++ B)) : Int) = k
  · rw [if_pos h]
    simp (disch := omega) only [z_gR, z_eq_f, z_eq_t, z_lt_t, h1, z_bd, z_jn, z_gB]
  · rw [if_neg h]
    simp (disch := omega) only [z_gR, z_eq_f, z_eq_t, z_lt_t, h1, z_bd, z_jn, z_gB]
theorem o_at {a b w : Nat → Int} (hc : -1000 ≤ ca ∧ ca ≤ 1000) {k : Int} (hk : 0 ≤ k ∧ k < 100) : f_X7_obeys n ca fr a b w F (8000 + k) = some (if ca = k then 1 else 0, n, ca, fr, a, b, w, F) := by
  have d1 : (8000 + k).tdiv 1000 = 8 := by rw [Int.tdiv_eq_ediv_of_nonneg (by omega)]; omega
  have d2 : (8000 + k).tmod 1000 = k := by rw [Int.tmod_eq_emod_of_nonneg (by omega)]; omega
  unfold f_X7_obeys
  rw [d1, d2]
  by_cases h : ca = k
  · rw [if_pos h]
    simp (disch := omega) only [z_gR, z_eq_f, z_eq_t, z_lt_t, z_bd, z_jn, z_gB]
  · rw [if_neg h]
    simp (disch := omega) only [z_gR, z_eq_f, z_eq_t, z_lt_t, z_bd, z_jn, z_gB]
theorem o_wide (a b w : Nat → Int) (hI : zI A S B) (hC : zCs n ca fr F A S B) {k : Int} (hk : 0 ≤ k ∧ k < 100) (he : k = (zbf (zdm (A ++ (S ++ B)))).1) : ∃ a' b' w', f_X7_obeys n ca fr a b w F (9000 + k) = some (1, n, ca, fr, a', b', w', F) := by
  have d1 : (9000 + k).tdiv 1000 = 9 := by rw [Int.tdiv_eq_ediv_of_nonneg (by omega)]; omega
  have d2 : (9000 + k).tmod 1000 = k := by rw [Int.tmod_eq_emod_of_nonneg (by omega)]; omega
  obtain ⟨w', a', b', g1, g2⟩ := c_measure hC.1 hI.bal hI.2.1 w a b
  obtain ⟨h1, h2, h3⟩ := g2 [] (A ++ (S ++ B)) [] (by simp) (Or.inl rfl) (Or.inl rfl) hI.bal trivial
  simp only [List.length_nil] at h1
  have hw := c_wd (w := w') (x := 0) 0 rfl (by omega)
  refine ⟨a', b', w', ?_⟩
  unfold f_X7_obeys
  rw [d1, d2]
  simp (disch := omega) only [z_gR, z_eq_f, z_eq_t, z_lt_t, z_bd, z_jn, z_gB, g1, hw, h1]
theorem o_1114 {a b w : Nat → Int} : f_X7_obeys n ca fr a b w F 1114 = some (0, n, ca, fr, a, b, w, F) := by
  have cs := c_sy (x := 114) (by omega)
  rw [show zsy 114 = false by decide, zbi_f] at cs
  have e1 : f_X7_typesInTrial n ca fr F 114 = some (0, n, ca, fr, F) := by
    unfold f_X7_typesInTrial
    simp (disch := omega) only [cs, z_bd, z_jn, z_eq_t, z_gB]
  have d1 : (1114 : Int).tdiv 1000 = 1 := by decide
  have d2 : (1114 : Int).tmod 1000 = 114 := by decide
  unfold f_X7_obeys
  rw [d1, d2]
  simp (disch := omega) only [z_gR, z_eq_t, e1, z_bd, z_gB]
theorem o_2006 {a b w : Nat → Int} : f_X7_obeys n ca fr a b w F 2006 = some (0, n, ca, fr, a, b, w, F) := by
  have on := c_on_f (m := 6) (by omega)
  have e1 : f_X7_wrapsInTrial n ca fr F 6 = some (0, n, ca, fr, F) := by
    unfold f_X7_wrapsInTrial
    simp (disch := omega) only [on, z_bd, z_jn, z_eq_t, z_gB]
  have d1 : (2006 : Int).tdiv 1000 = 2 := by decide
  have d2 : (2006 : Int).tmod 1000 = 6 := by decide
  unfold f_X7_obeys
  rw [d1, d2]
  simp (disch := omega) only [z_gR, z_eq_t, z_eq_f, z_lt_t, e1, z_bd, z_gB]
theorem o_100 {a b w : Nat → Int} : f_X7_obeys n ca fr a b w F 3100 = some (0, n, ca, fr, a, b, w, F) ∧ f_X7_obeys n ca fr a b w F 100 = some (0, n, ca, fr, a, b, w, F) := by
  have d1 : (3100 : Int).tdiv 1000 = 3 := by decide
  have d2 : (3100 : Int).tmod 1000 = 100 := by decide
  have d3 : (100 : Int).tdiv 1000 = 0 := by decide
  have d4 : (100 : Int).tmod 1000 = 100 := by decide
  constructor
  · unfold f_X7_obeys
    rw [d1, d2]
    simp (disch := omega) only [z_gR, z_eq_f, z_lt_f, z_gB]
  · unfold f_X7_obeys
    rw [d3, d4]
    simp (disch := omega) only [z_gR, z_eq_f, z_lt_f, z_gB]
/-- the caret shifted to the left, clipped at the front -/
theorem m_left (hI : zI A S B) (hC : zCs n ca fr F A S B) : ∃ A' B', A' ++ B' = A ++ (S ++ B) ∧ (A'.length : Int) = (if 99 ≤ ca then ca - 99 else 0) ∧ f_X0_shiftCaret n ca fr (-99) = some ((A'.length : Int), (A'.length : Int)) ∧ zCs n (A'.length : Int) (A'.length : Int) F A' [] B' ∧ zI A' [] B' := by
  have hl := hI.len
  have hca : ca = (A.length : Int) + S.length := hC.2.1
  have hn : n = ((A ++ (S ++ B)).length : Int) := hC.1.1.1
  have lL : (A ++ (S ++ B)).length = A.length + (S.length + B.length) := by simp
  obtain ⟨A', B', e1, e2⟩ := zat (L := A ++ (S ++ B)) (x := if 99 ≤ ca then ca - 99 else 0) (by split <;> omega)
  refine ⟨A', B', e1, e2.symm, ?_, c_move hC e1 rfl, hI.go e1⟩
  have h1 := mn_s n (ca + -99)
  have h2 := mx_s 0 (mnI n (ca + -99))
  have e3 : mxI 0 (mnI n (ca + -99)) = (A'.length : Int) := by
    rw [← e2]
    split <;> omega
  unfold f_X0_shiftCaret f_X0_putCaret
  rw [e3]
  simp (disch := omega) only [z_gR, z_bd]
theorem o_4099 {a b w : Nat → Int} {A' : List Int} (h : f_X0_shiftCaret n ca fr (-99) = some ((A'.length : Int), (A'.length : Int))) : f_X7_obeys n ca fr a b w F 4099 = some (1, n, (A'.length : Int), (A'.length : Int), a, b, w, F) := by
  have d1 : (4099 : Int).tdiv 1000 = 4 := by decide
  have d2 : (4099 : Int).tmod 1000 = 99 := by decide
  unfold f_X7_obeys
  rw [d1, d2]
  simp (disch := omega) only [z_gR, z_eq_t, z_eq_f, z_lt_t, h, z_bd, z_gB]
theorem o_5000 {a b w : Nat → Int} {B : List Int} (hC : zCs n ca fr F [] [] B) : f_X7_obeys n ca fr a b w F 5000 = some (0, n, ca, fr, a, b, w, F) := by
  have cd := c_canDel hC
  rw [show decide (([] : List Int) ≠ []) = false from decide_eq_false (by simp), zbi_f] at cd
  have e1 : f_X7_deletesInTrial n ca fr F = some (0, n, ca, fr, F) := by
    unfold f_X7_deletesInTrial
    simp (disch := omega) only [cd, z_bd, z_eq_t, z_gB]
  have d1 : (5000 : Int).tdiv 1000 = 5 := by decide
  have d2 : (5000 : Int).tmod 1000 = 0 := by decide
  unfold f_X7_obeys
  rw [d1, d2]
  simp (disch := omega) only [z_gR, z_eq_t, z_eq_f, z_lt_t, e1, z_bd, z_jn, z_gB]
/-- two steps to the left, then the front, then back -/
theorem m_script4 (hI : zI A S B) (hC : zCs n ca fr F A S B) (tn tc tf : Int) (a b w F2 : Nat → Int) : ∃ (tn' tc' tf' : Int) (a' b' w' F' : Nat → Int), f_L_tryScript n ca fr tn tc tf F a b w F2 4 4099409980005000 = some ((if 198 < ca then 2 else 3), tn', tc', tf', a', b', w', F') := by
  have hl := hI.len
  have hca : ca = (A.length : Int) + S.length := hC.2.1
  have w4 : f_X7_withoutGroups 4099409980005000 4 = some 0 := by
    rw [c_without (by omega) (by omega) (by omega)]; rfl
  have w3 : f_X7_withoutGroups 4099409980005000 (4 - 1 - 0) = some 4099 := by
    rw [show (4 : Int) - 1 - 0 = 3 by decide, c_without (by omega) (by omega) (by omega)]; rfl
  have w2 : f_X7_withoutGroups 4099409980005000 (4 - 1 - (0 + 1)) = some 40994099 := by
    rw [show (4 : Int) - 1 - (0 + 1) = 2 by decide, c_without (by omega) (by omega) (by omega)]; rfl
  have w1 : f_X7_withoutGroups 4099409980005000 (4 - 1 - (0 + 1 + 1)) = some 409940998000 := by
    rw [show (4 : Int) - 1 - (0 + 1 + 1) = 1 by decide, c_without (by omega) (by omega) (by omega)]; rfl
  have w0 : f_X7_withoutGroups 4099409980005000 (4 - 1 - (0 + 1 + 1 + 1)) = some 4099409980005000 := by
    rw [show (4 : Int) - 1 - (0 + 1 + 1 + 1) = 0 by decide, c_without (by omega) (by omega) (by omega)]; rfl
  obtain ⟨F3, b1, b2⟩ := c_bec hI hC tn tc tf F2
  obtain ⟨A1, B1, e1, e2, e3, e4, e5⟩ := m_left hI b2
  obtain ⟨A2, B2, e6, e7, e8, e9, e10⟩ := m_left e5 e4
  have lA2 : (A2.length : Int) = if 198 ≤ ca then ca - 198 else 0 := by
    rw [e7, e2]
    split <;> split <;> split <;> omega
  have o3 := o_at (n := n) (fr := (A2.length : Int)) (F := F3) (a := a) (b := b) (w := w) (ca := (A2.length : Int)) (by rw [lA2]; split <;> omega) (k := 0) (by omega)
  obtain ⟨fu, hfu⟩ : ∃ fu, fuel = fu + 1 + 1 + 1 + 1 := ⟨fuel - 4, by unfold fuel; omega⟩
  by_cases h : 198 < ca
  · rw [if_pos h]
    refine ⟨n, (A2.length : Int), (A2.length : Int), a, b, w, F3, t_scr ?_⟩
    rw [if_neg (by rw [lA2]; split <;> omega)] at o3
    unfold f_X7_runScript
    simp (disch := omega) only [z_jn, z_lt_f, z_dlt_f, w4, z_bd, b1]
    rw [hfu, c_run_step (by omega) w3 (by omega) (by decide) (o_4099 e3), z_eq_f (by omega), c_run_step (by omega) w2 (by omega) (by decide) (o_4099 e8), z_eq_f (by omega), c_run_step (by omega) w1 (by omega) (by decide) o3, z_eq_t (by omega)]
    rfl
  · rw [if_neg h]
    have hl0 : (A2.length : Int) = 0 := by rw [lA2]; split <;> omega
    have hA2 : A2 = [] := List.length_eq_zero_iff.mp (by omega)
    have lA2' : (A2.length : Int) = 0 := by rw [hA2]; rfl
    rw [lA2'] at o3 e8 e9
    rw [if_pos rfl] at o3
    rw [hA2] at e9
    have o4 : f_X7_obeys n (A1.length : Int) (A1.length : Int) a b w F3 4099 = some (1, n, 0, 0, a, b, w, F3) := o_4099 (A' := []) e8
    have o5 := o_5000 (a := a) (b := b) (w := w) e9
    refine ⟨n, 0, 0, a, b, w, F3, t_scr ?_⟩
    unfold f_X7_runScript
    simp (disch := omega) only [z_jn, z_lt_f, z_dlt_f, w4, z_bd, b1]
    rw [hfu, c_run_step (by omega) w3 (by omega) (by decide) (o_4099 e3), z_eq_f (by omega), c_run_step (by omega) w2 (by omega) (by decide) o4, z_eq_f (by omega), c_run_step (by omega) w1 (by omega) (by decide) o3, z_eq_f (by omega), c_run_step (by omega) w0 (by omega) (by decide) o5, z_eq_t (by omega)]
    rfl
end SC
