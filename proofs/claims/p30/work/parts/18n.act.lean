/-! p30: one action, on any editor that follows the reference -/
/-- an editor follows the reference -/
def zSt (R D K P Rc : Nat → Int) (acts : Int) (s : Int × Int × Int × Int × Int × Int × Int × Int × (Nat → Int) × Int × Int × Int × (Nat → Int) × Int × Int × Int × (Nat → Int) × (Nat → Int) × (Nat → Int) × (Nat → Int) × (Nat → Nat → Int) × (Nat → Int)) : Prop :=
  zF s.2.2.2.2.1 s.2.2.2.2.2.1 s.2.2.2.2.2.2.1 s.2.2.2.2.2.2.2.2.2.2.2.2.1 R ∧ zH s.2.2.1 s.2.2.2.1 s.2.2.2.2.2.2.2.2.2.2.2.2.2.2.2.2.2.1 s.2.2.2.2.2.2.2.2.2.2.2.2.2.2.2.2.2.2.1 s.2.2.2.2.2.2.2.2.2.2.2.2.2.2.2.2.2.2.2.1 s.2.2.2.2.2.2.2.2.2.2.2.2.2.2.2.2.2.2.2.2.1 acts D ∧ zKp s.2.1 s.2.2.2.2.2.2.2.2.2.1 s.2.2.2.2.2.2.2.2.2.2.1 s.2.2.2.2.2.2.2.2.2.2.2.1 s.2.2.2.2.2.2.2.2.2.2.2.2.2.2.2.2.1 (K 0) P ∧ zKp s.2.2.2.2.2.2.2.1 s.2.2.2.2.2.2.2.2.2.2.2.2.2.1 s.2.2.2.2.2.2.2.2.2.2.2.2.2.2.1 s.2.2.2.2.2.2.2.2.2.2.2.2.2.2.2.1 s.2.2.2.2.2.2.2.2.2.2.2.2.2.2.2.2.2.2.2.2.2 (K 1) (fun j => P (184 + j)) ∧ ∃ Lc : List Int, zK Lc ∧ zCx 180 s.1 s.2.2.2.2.2.2.2.2.1 Lc ∧ zRy 184 Rc Lc
theorem zSt_mk {R D K P Rc : Nat → Int} {acts cn fl1 o c n ca fr fl2 n1 c1 f1 n2 c2 f2 : Int} {Fc F K1 rS rC rM K2 : Nat → Int} {rF : Nat → Nat → Int} (h1 : zF n ca fr F R) (h2 : zH o c rS rC rM rF acts D) (h3 : zKp fl1 n1 c1 f1 K1 (K 0) P) (h4 : zKp fl2 n2 c2 f2 K2 (K 1) (fun j => P (184 + j))) (h5 : ∃ Lc : List Int, zK Lc ∧ zCx 180 cn Fc Lc ∧ zRy 184 Rc Lc) : zSt R D K P Rc acts (cn, fl1, o, c, n, ca, fr, fl2, Fc, n1, c1, f1, F, n2, c2, f2, K1, rS, rC, rM, rF, K2) := ⟨h1, h2, h3, h4, h5⟩
/-- what the reference makes of the action -/
def zOr (R D K P Rc : Nat → Int) (acts y m : Int) : Option (Int × (Nat → Int) × (Nat → Int) × (Nat → Int) × (Nat → Int) × (Nat → Int) × Int) :=
  if m ≤ 3 then bd (f_L_symbol y) (fun s => bd (f_X8_type 0 acts D R (fun _ => 0) s) (fun r => some (ztc (-1002) (-1003) r.2.1 r.1, r.2.2.2.2.1, r.2.2.2.1, K, P, Rc, r.2.2.1)))
  else if m ≤ 6 then bd (f_X8_wrap 0 acts D R (fun _ => 0) (1 + y.tmod 5)) (fun r => some (ztc (-1002) (-1003) r.2.1 r.1, r.2.2.2.2.1, r.2.2.2.1, K, P, Rc, r.2.2.1))
  else if m = 7 then bd (f_X8_moveBy 0 R (y.tmod 25 - 12)) (fun r => some (ztc (-1002) (-1002) r.2.1 r.1, r.2.2, D, K, P, Rc, acts))
  else if m = 8 then bd (f_X8_extend 0 R (if y.tmod 2 = 0 then 1 else 0)) (fun r => some (ztc (-1003) (-1003) r.2.1 r.1, r.2.2, D, K, P, Rc, acts))
  else if m = 9 then bd (f_X8_grow 0 R) (fun r => some (ztc (-1003) (-1003) r.2.1 r.1, r.2.2, D, K, P, Rc, acts))
  else if m = 10 then (if y.tmod 3 = 0 then bd (f_X8_backspace 0 acts D R (fun _ => 0)) (fun r => some (ztc (-1003) (-1003) r.2.1 r.1, r.2.2.2.2.1, r.2.2.2.1, K, P, Rc, r.2.2.1)) else bd (f_X8_moveVertically 0 R (if y.tmod 2 = 0 then 1 else 0)) (fun r => some (r.1, r.2.2, D, K, P, Rc, acts)))
  else if m = 11 then bd (f_X8_copy 0 Rc R) (fun r => some (ztc (-1003) (-1003) r.2.1 r.1, R, D, K, P, r.2.2, acts))
  else if m = 12 then bd (f_X8_paste 0 acts Rc D R (fun _ => 0)) (fun r => some (ztc (-1003) (-1003) r.2.1 r.1, r.2.2.2.2.1, r.2.2.2.1, K, P, Rc, r.2.2.1))
  else if m = 13 then (if y.tmod 4 = 0 then bd (f_L_symbol (y.tdiv 4)) (fun s => bd (f_L_symbol (y.tdiv 128)) (fun s2 => bd (f_X8_replace 0 acts D R s s2) (fun r => some (ztc (-1002) (-1002) r.2.1 r.1, r.2.2.2.2, r.2.2.2.1, K, P, Rc, r.2.2.1)))) else bd (f_X8_moveTo 0 R ((y.tdiv 4).tmod (R 180 + 1))) (fun r => some (ztc (-1001) (-1001) r.2.1 r.1, r.2.2, D, K, P, Rc, acts)))
  else if m = 14 then bd (f_X8_undo 0 acts D R) (fun r => some (ztc (-1003) (-1003) r.2.1 r.1, r.2.2.2, D, K, P, Rc, r.2.2.1))
  else (if y.tmod 2 = 0 then bd (f_X8_save 0 K P R 1) (fun r => some (ztc (-1001) (-1001) r.2.1 r.1, R, D, r.2.2.1, r.2.2.2, Rc, acts)) else bd (f_X8_restore 0 acts K P R 1) (fun r => some (ztc (-1001) (-1003) r.2.1 r.1, r.2.2.2, D, K, P, Rc, r.2.2.1)))
theorem ztm9 {y k : Int} (hy : 0 ≤ y) (hk : 0 < k) : 0 ≤ y.tmod k ∧ y.tmod k < k := by
  rw [Int.tmod_eq_emod_of_nonneg hy]
  exact ⟨Int.emod_nonneg y (by omega), Int.emod_lt_of_pos y hk⟩
set_option maxHeartbeats 8000000 in
theorem m_act1 {R D K P Rc : Nat → Int} {acts cn fl1 o c n ca fr fl2 n1 c1 f1 n2 c2 f2 x y : Int} {Fc F K1 rS rC rM K2 : Nat → Int} {rF : Nat → Nat → Int} (hx : 0 ≤ x ∧ x ≤ 2147483647) (hy : 0 ≤ y ∧ y ≤ 2147483647) (h1 : zF n ca fr F R) (h2 : zH o c rS rC rM rF acts D) (h3 : zKp fl1 n1 c1 f1 K1 (K 0) P) (h4 : zKp fl2 n2 c2 f2 K2 (K 1) (fun j => P (184 + j))) (h5 : ∃ Lc : List Int, zK Lc ∧ zCx 180 cn Fc Lc ∧ zRy 184 Rc Lc) : ∃ out, zOr R D K P Rc acts y (x.tmod 16) = some out ∧ zW (fun r => r.1 = out.1 ∧ zSt out.2.1 out.2.2.1 out.2.2.2.1 out.2.2.2.2.1 out.2.2.2.2.2.1 out.2.2.2.2.2.2 r.2) (f_L_act cn fl1 o c n ca fr fl2 Fc n1 c1 f1 F n2 c2 f2 K1 rS rC rM rF K2 x y) := by
  have hm := ztm9 (k := 16) hx.1 (by omega)
  have hy5 := ztm9 (k := 5) hy.1 (by omega)
  have hy25 := ztm9 (k := 25) hy.1 (by omega)
  have hy2 := ztm9 (k := 2) hy.1 (by omega)
  have hy3 := ztm9 (k := 3) hy.1 (by omega)
  have hy4 := ztm9 (k := 4) hy.1 (by omega)
  have hd4 : 0 ≤ y.tdiv 4 ∧ y.tdiv 4 ≤ 2147483647 := by rw [Int.tdiv_eq_ediv_of_nonneg hy.1]; omega
  have hd128 : 0 ≤ y.tdiv 128 ∧ y.tdiv 128 ≤ 2147483647 := by rw [Int.tdiv_eq_ediv_of_nonneg hy.1]; omega
  unfold f_L_act
  obtain ⟨m, em⟩ : ∃ m, m = x.tmod 16 := ⟨_, rfl⟩
  rw [← em] at hm ⊢
  by_cases c3 : m ≤ 3
  · obtain ⟨sy, y1, y2⟩ := m_symb hy
    have hsy := zsy_b y2
    obtain ⟨v', k, acts', D', R', T', x8, o', c', n', ca', fr', F', rS', rC', rM', rF', l1, l2, l3⟩ := s_type h2 h1 (x := sy) (by omega)
    refine ⟨(ztc (-1002) (-1003) k v', R', D', K, P, Rc, acts'), by unfold zOr; rw [if_pos c3, y1, z_bd, x8, z_bd], ?_⟩
    refine w_gR (by omega) ?_
    refine w_use (fun _ : Unit => True) ?_ (fun k2 hk2 => ?_)
    · intro _ _
      refine w_bd y1 ?_
      refine w_bd l1 ?_
      exact w_some ⟨rfl, zSt_mk l3 l2 h3 h4 h5⟩
    · refine w_jn ?_
      have q : m = 0 ∨ m = 1 ∨ m = 2 ∨ m = 3 := by omega
      rcases q with q | q | q | q
      · refine w_eqt (by omega) ?_
        exact hk2 () trivial
      · refine w_eqf (by omega) ?_
        refine w_eqt (by omega) ?_
        exact hk2 () trivial
      · iterate 2 refine w_eqf (by omega) ?_
        refine w_eqt (by omega) ?_
        exact hk2 () trivial
      · iterate 3 refine w_eqf (by omega) ?_
        refine w_eqt (by omega) ?_
        exact hk2 () trivial
  · by_cases c6 : m ≤ 6
    · obtain ⟨v', k, acts', D', R', T', x8, o', c', n', ca', fr', F', rS', rC', rM', rF', l1, l2, l3⟩ := s_wrap h2 h1 (x := 1 + y.tmod 5) (by omega)
      refine ⟨(ztc (-1002) (-1003) k v', R', D', K, P, Rc, acts'), by unfold zOr; rw [if_neg c3, if_pos c6, x8, z_bd], ?_⟩
      refine w_gR (by omega) ?_
      refine w_jn ?_
      refine w_use (fun _ : Unit => True) ?_ (fun k1 hk1 => ?_)
      · intro _ _
        refine w_gR (by omega) ?_
        refine w_bd l1 ?_
        exact w_some ⟨rfl, zSt_mk l3 l2 h3 h4 h5⟩
      · have q : m = 4 ∨ m = 5 ∨ m = 6 := by omega
        iterate 4 refine w_eqf (by omega) ?_
        rcases q with q | q | q
        · refine w_eqt (by omega) ?_
          exact hk1 () trivial
        · refine w_eqf (by omega) ?_
          refine w_eqt (by omega) ?_
          exact hk1 () trivial
        · iterate 2 refine w_eqf (by omega) ?_
          refine w_eqt (by omega) ?_
          exact hk1 () trivial
    · have q : m = 7 ∨ m = 8 ∨ m = 9 ∨ m = 10 ∨ m = 11 ∨ m = 12 ∨ m = 13 ∨ m = 14 ∨ m = 15 := by omega
      rcases q with q | q | q | q | q | q | q | q | q
      · obtain ⟨v', k, R', x8, ca', fr', l1, l3⟩ := s_moveBy h1 (x := y.tmod 25 - 12) (by omega)
        refine ⟨(ztc (-1002) (-1002) k v', R', D, K, P, Rc, acts), by unfold zOr; rw [if_neg c3, if_neg c6, if_pos q, x8, z_bd], ?_⟩
        refine w_gR (by omega) ?_
        refine w_jn ?_
        refine w_jn ?_
        iterate 7 refine w_eqf (by omega) ?_
        refine w_eqt (by omega) ?_
        refine w_gR (by omega) ?_
        refine w_bd l1 ?_
        exact w_some ⟨rfl, zSt_mk l3 h2 h3 h4 h5⟩
      · obtain ⟨v', k, R', x8, ca', fr', l1, l3⟩ := s_extend h1 (x := if y.tmod 2 = 0 then 1 else 0) (by split <;> omega)
        refine ⟨(ztc (-1003) (-1003) k v', R', D, K, P, Rc, acts), by unfold zOr; rw [if_neg c3, if_neg c6, if_neg (by omega), if_pos q, x8, z_bd], ?_⟩
        refine w_gR (by omega) ?_
        refine w_jn ?_
        refine w_jn ?_
        iterate 8 refine w_eqf (by omega) ?_
        refine w_eqt (by omega) ?_
        refine w_gR (by omega) ?_
        refine w_jn ?_
        by_cases e2 : y.tmod 2 = 0
        · rw [if_pos e2] at l1
          refine w_eqt (by omega) ?_
          refine w_bd l1 ?_
          exact w_some ⟨rfl, zSt_mk l3 h2 h3 h4 h5⟩
        · rw [if_neg e2] at l1
          refine w_eqf (by omega) ?_
          refine w_bd l1 ?_
          exact w_some ⟨rfl, zSt_mk l3 h2 h3 h4 h5⟩
      · obtain ⟨v', k, R', x8, ca', fr', l1, l3⟩ := s_grow h1
        refine ⟨(ztc (-1003) (-1003) k v', R', D, K, P, Rc, acts), by unfold zOr; rw [if_neg c3, if_neg c6, if_neg (by omega), if_neg (by omega), if_pos q, x8, z_bd], ?_⟩
        refine w_gR (by omega) ?_
        refine w_jn ?_
        refine w_jn ?_
        iterate 9 refine w_eqf (by omega) ?_
        refine w_eqt (by omega) ?_
        refine w_bd l1 ?_
        exact w_some ⟨rfl, zSt_mk l3 h2 h3 h4 h5⟩
      · by_cases e3 : y.tmod 3 = 0
        · obtain ⟨v', k, acts', D', R', T', x8, o', c', n', ca', fr', F', rS', rC', rM', rF', l1, l2, l3⟩ := s_backspace h2 h1
          refine ⟨(ztc (-1003) (-1003) k v', R', D', K, P, Rc, acts'), by unfold zOr; rw [if_neg c3, if_neg c6, if_neg (by omega), if_neg (by omega), if_neg (by omega), if_pos q, if_pos e3, x8, z_bd], ?_⟩
          refine w_gR (by omega) ?_
          refine w_jn ?_
          refine w_jn ?_
          iterate 10 refine w_eqf (by omega) ?_
          refine w_eqt (by omega) ?_
          refine w_gR (by omega) ?_
          refine w_jn ?_
          refine w_eqt (by omega) ?_
          refine w_bd l1 ?_
          exact w_some ⟨rfl, zSt_mk l3 l2 h3 h4 h5⟩
        · obtain ⟨v', R', x8, ca', fr', l1, l3⟩ := s_vert h1 (up := if y.tmod 2 = 0 then 1 else 0) (by split <;> omega)
          refine ⟨(v', R', D, K, P, Rc, acts), by unfold zOr; rw [if_neg c3, if_neg c6, if_neg (by omega), if_neg (by omega), if_neg (by omega), if_pos q, if_neg e3, x8, z_bd], ?_⟩
          refine w_gR (by omega) ?_
          refine w_jn ?_
          refine w_jn ?_
          iterate 10 refine w_eqf (by omega) ?_
          refine w_eqt (by omega) ?_
          refine w_gR (by omega) ?_
          refine w_jn ?_
          refine w_eqf (by omega) ?_
          refine w_gR (by omega) ?_
          refine w_jn ?_
          by_cases e2 : y.tmod 2 = 0
          · rw [if_pos e2] at l1
            refine w_eqt (by omega) ?_
            refine w_bd l1 ?_
            exact w_some ⟨rfl, zSt_mk l3 h2 h3 h4 h5⟩
          · rw [if_neg e2] at l1
            refine w_eqf (by omega) ?_
            refine w_bd l1 ?_
            exact w_some ⟨rfl, zSt_mk l3 h2 h3 h4 h5⟩
      · obtain ⟨Lc, k1, k2, k3⟩ := h5
        obtain ⟨v', k, Rc', x8, cn', Fc', l1, l3⟩ := s_copy h1 k1 k2 k3
        refine ⟨(ztc (-1003) (-1003) k v', R, D, K, P, Rc', acts), by unfold zOr; rw [if_neg c3, if_neg c6, if_neg (by omega), if_neg (by omega), if_neg (by omega), if_neg (by omega), if_pos q, x8, z_bd], ?_⟩
        refine w_gR (by omega) ?_
        refine w_jn ?_
        refine w_jn ?_
        iterate 11 refine w_eqf (by omega) ?_
        refine w_eqt (by omega) ?_
        refine w_bd l1 ?_
        exact w_some ⟨rfl, zSt_mk h1 h2 h3 h4 l3⟩
      · have h5' := h5
        obtain ⟨Lc, k1, k2, k3⟩ := h5
        obtain ⟨v', k, acts', D', R', T', x8, o', c', n', ca', fr', F', rS', rC', rM', rF', l1, l2, l3⟩ := s_paste h2 h1 k1 k2 k3
        refine ⟨(ztc (-1003) (-1003) k v', R', D', K, P, Rc, acts'), by unfold zOr; rw [if_neg c3, if_neg c6, if_neg (by omega), if_neg (by omega), if_neg (by omega), if_neg (by omega), if_neg (by omega), if_pos q, x8, z_bd], ?_⟩
        refine w_gR (by omega) ?_
        refine w_jn ?_
        refine w_jn ?_
        iterate 12 refine w_eqf (by omega) ?_
        refine w_eqt (by omega) ?_
        refine w_bd l1 ?_
        exact w_some ⟨rfl, zSt_mk l3 l2 h3 h4 h5'⟩
      · by_cases e4 : y.tmod 4 = 0
        · obtain ⟨sy, y1, y2⟩ := m_symb hd4
          obtain ⟨sz, y3, y4⟩ := m_symb hd128
          have hsy := zsy_b y2
          have hsz := zsy_b y4
          obtain ⟨v', k, acts', D', R', x8, o', c', F', rS', rC', rM', rF', l1, l2, l3⟩ := s_replace h2 h1 (x := sy) (y := sz) (by omega) (by omega)
          refine ⟨(ztc (-1002) (-1002) k v', R', D', K, P, Rc, acts'), by unfold zOr; rw [if_neg c3, if_neg c6, if_neg (by omega), if_neg (by omega), if_neg (by omega), if_neg (by omega), if_neg (by omega), if_neg (by omega), if_pos q, if_pos e4, y1, z_bd, y3, z_bd, x8, z_bd], ?_⟩
          refine w_gR (by omega) ?_
          refine w_jn ?_
          refine w_jn ?_
          iterate 13 refine w_eqf (by omega) ?_
          refine w_eqt (by omega) ?_
          refine w_gR (by omega) ?_
          refine w_jn ?_
          refine w_eqt (by omega) ?_
          refine w_gR (by omega) ?_
          refine w_bd y1 ?_
          refine w_gR (by omega) ?_
          refine w_bd y3 ?_
          refine w_bd l1 ?_
          exact w_some ⟨rfl, zSt_mk l3 l2 h3 h4 h5⟩
        · have h1' := h1
          obtain ⟨A, S, B, hI, hC, hR⟩ := h1
          have hl := hI.len
          have lL : (A ++ (S ++ B)).length = A.length + (S.length + B.length) := by simp
          have hR180 : R 180 = ((A ++ (S ++ B)).length : Int) := hR.1.2.1
          have a1 := (t_ab (m_ab1 (cn := cn) (ca := ca) (Fc := Fc) hC.1)).1
          have hat := ztm9 (y := y.tdiv 4) (k := ((A ++ (S ++ B)).length : Int) + 1) hd4.1 (by omega)
          obtain ⟨v', k, R', x8, ca', fr', l1, l3⟩ := s_moveTo h1' (x := (y.tdiv 4).tmod (((A ++ (S ++ B)).length : Int) + 1)) (by omega)
          refine ⟨(ztc (-1001) (-1001) k v', R', D, K, P, Rc, acts), by unfold zOr; rw [if_neg c3, if_neg c6, if_neg (by omega), if_neg (by omega), if_neg (by omega), if_neg (by omega), if_neg (by omega), if_neg (by omega), if_pos q, if_neg e4, hR180, x8, z_bd], ?_⟩
          refine w_gR (by omega) ?_
          refine w_jn ?_
          refine w_jn ?_
          iterate 13 refine w_eqf (by omega) ?_
          refine w_eqt (by omega) ?_
          refine w_gR (by omega) ?_
          refine w_jn ?_
          refine w_eqf (by omega) ?_
          refine w_gR (by omega) ?_
          refine w_bd a1 ?_
          refine w_gR (by omega) ?_
          refine w_gR (by omega) ?_
          refine w_of (if_neg (by omega)) ?_
          refine w_bd l1 ?_
          exact w_some ⟨rfl, zSt_mk l3 h2 h3 h4 h5⟩
      · obtain ⟨v', k, acts', R', x8, c', n', ca', fr', F', l1, l2, l3⟩ := s_undo h2 h1
        refine ⟨(ztc (-1003) (-1003) k v', R', D, K, P, Rc, acts'), by unfold zOr; rw [if_neg c3, if_neg c6, if_neg (by omega), if_neg (by omega), if_neg (by omega), if_neg (by omega), if_neg (by omega), if_neg (by omega), if_neg (by omega), if_pos q, x8, z_bd], ?_⟩
        refine w_gR (by omega) ?_
        refine w_jn ?_
        refine w_jn ?_
        iterate 14 refine w_eqf (by omega) ?_
        refine w_eqt (by omega) ?_
        refine w_bd l1 ?_
        exact w_some ⟨rfl, zSt_mk l3 l2 h3 h4 h5⟩
      · by_cases e2 : y.tmod 2 = 0
        · obtain ⟨v', k, K', P', x8, fl1', fl2', n1', c1', f1', n2', c2', f2', F1', F2', l1, l2, l3⟩ := s_save h1 h3 h4 (x := 1) (by omega)
          refine ⟨(ztc (-1001) (-1001) k v', R, D, K', P', Rc, acts), by unfold zOr; rw [if_neg c3, if_neg c6, if_neg (by omega), if_neg (by omega), if_neg (by omega), if_neg (by omega), if_neg (by omega), if_neg (by omega), if_neg (by omega), if_neg (by omega), if_pos e2, x8, z_bd], ?_⟩
          refine w_gR (by omega) ?_
          refine w_jn ?_
          refine w_jn ?_
          iterate 15 refine w_eqf (by omega) ?_
          refine w_gR (by omega) ?_
          refine w_jn ?_
          refine w_eqt (by omega) ?_
          refine w_bd l1 ?_
          exact w_some ⟨rfl, zSt_mk h1 h2 l2 l3 h5⟩
        · obtain ⟨v', k, acts', R', x8, c', n', ca', fr', F', l1, l2, l3⟩ := s_restore h2 h1 h3 h4 (x := 1) (by omega)
          refine ⟨(ztc (-1001) (-1003) k v', R', D, K, P, Rc, acts'), by unfold zOr; rw [if_neg c3, if_neg c6, if_neg (by omega), if_neg (by omega), if_neg (by omega), if_neg (by omega), if_neg (by omega), if_neg (by omega), if_neg (by omega), if_neg (by omega), if_neg e2, x8, z_bd], ?_⟩
          refine w_gR (by omega) ?_
          refine w_jn ?_
          refine w_jn ?_
          iterate 15 refine w_eqf (by omega) ?_
          refine w_gR (by omega) ?_
          refine w_jn ?_
          refine w_eqf (by omega) ?_
          refine w_bd l1 ?_
          exact w_some ⟨rfl, zSt_mk l3 l2 h3 h4 h5⟩
