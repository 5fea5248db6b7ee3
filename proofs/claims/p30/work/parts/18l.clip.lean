/-! p30: the clipboard again -/
section CL
variable {n ca fr cn : Int} {F Fc : Nat → Int} {A S B Lc : List Int}
/-- the other loop of growing -/
theorem m_29 : ∀ (fu : Nat) (A S B : List Int) (ca fr y2 k : Int), zI A S B → zCs n ca fr F A S B → zgf A S B k → 0 ≤ y2 → y2 + k ≤ 19 → k + 1 ≤ fu → ∃ ca' fr' y2' : Int, (∀ (e : Int × Int × Int → Option (Int × Int × (Nat → Int) × (Nat → Int) × (Nat → Int) × (Nat → Int) × (Nat → Int) × Int × Int × Int × Int × Int × Int × (Nat → Int) × (Nat → Int) × (Nat → Int) × (Nat → Int) × (Nat → Int) × (Nat → Int) × (Nat → Int))), f_L_clipped_29 n F e fu ca fr y2 = e (ca', fr', y2')) ∧ zCs n ca' fr' F [] (A ++ (S ++ B)) [] ∧ zI [] (A ++ (S ++ B)) []
  | 0, A, S, B, ca, fr, y2, k, hI, hC, hk, hy, h1, h2 => by
    have := zgf_0 hI hk
    omega
  | fu + 1, A, S, B, ca, fr, y2, k, hI, hC, hk, hy, h1, h2 => by
    have hk0 := zgf_0 hI hk
    have hb := zni_b S 0
    rcases m_grow hI hC hk with ⟨q1, q2, q3⟩ | ⟨A', S', B', ca', fr', k', q1, q2, q3, q4, q5, q6, q7⟩
    · subst q2; subst q3
      refine ⟨ca, fr, y2, fun e => ?_, by simpa using hC, by simpa using hI⟩
      simp (disch := omega) only [f_L_clipped_29, z_eq_t, q1, z_bd]
    · have hk1 := zgf_0 q3 q6
      have hl' := q3.len
      have hb' := zni_b S' 0
      obtain ⟨ca2, fr2, y3, i1, i3, i4⟩ := m_29 fu A' S' B' ca' fr' (y2 + 1) k' q3 q2 q6 (by omega) (by omega) (by omega)
      rw [q5] at i3 i4
      refine ⟨ca2, fr2, y3, fun e => ?_, i3, i4⟩
      simp (disch := omega) only [f_L_clipped_29, z_eq_f, z_lt_t, q1, z_bd]
      exact i1 e
/-- what was kept stands again -/
theorem m_restore0 {c n1 c1 f1 fl2 n2 c2 f2 : Int} {K1 K2 : Nat → Int} {A' S' B' : List Int} (hI : zI A S B) (hI' : zI A' S' B') (hC : zCs n ca fr F A' S' B') (hK : zCs n1 c1 f1 K1 A S B) : ∃ F', f_L_tryRestore 1 c n ca fr fl2 n1 c1 f1 F n2 c2 f2 K1 K2 0 = some ((zcnt (A ++ (S ++ B)) : Int), 0, n1, c1, f1, F') ∧ zCs n1 c1 f1 F' A S B := by
  obtain ⟨G, b1, b2⟩ := c_bec hI hK n ca fr F
  have a1 := c_all b2.1
  refine ⟨G, ?_, b2⟩
  have e : f_X7_restore 1 c n ca fr fl2 n1 c1 f1 F n2 c2 f2 K1 K2 0 = some (0, (zcnt (A ++ (S ++ B)) : Int), 0, n1, c1, f1, G) := by
    unfold f_X7_restore f_X1_forget
    simp (disch := omega) only [z_jn, z_lt_f, z_eq_t, z_eq_f, b1, z_bd, a1]
  unfold f_L_tryRestore
  rw [e, z_bd]
  exact z_tg2 rfl
/-- the formula is kept -/
theorem m_save0 {fl1 n1 c1 f1 fl2 n2 c2 f2 : Int} {K1 K2 : Nat → Int} (hI : zI A S B) (hC : zCs n ca fr F A S B) : ∃ K1', f_L_trySave fl1 n ca fr fl2 n1 c1 f1 F n2 c2 f2 K1 K2 0 = some ((zcnt (A ++ (S ++ B)) : Int), 1, fl2, n, ca, fr, n2, c2, f2, K1', K2) ∧ zCs n ca fr K1' A S B := by
  obtain ⟨G, b1, b2⟩ := c_bec hI hC n1 c1 f1 K1
  have a1 := c_all hC.1
  refine ⟨G, ?_, b2⟩
  have e : f_X7_save fl1 n ca fr fl2 n1 c1 f1 F n2 c2 f2 K1 K2 0 = some (0, (zcnt (A ++ (S ++ B)) : Int), 1, fl2, n, ca, fr, n2, c2, f2, G, K2) := by
    unfold f_X7_save
    simp (disch := omega) only [z_jn, z_lt_f, z_eq_t, b1, z_bd, a1, z_gB]
  unfold f_L_trySave
  rw [e, z_bd]
  exact z_tg1 rfl
end CL
set_option maxHeartbeats 2000000 in
/-- the same clipboard in both again -/
theorem m_clipped {n ca fr cn wl n' ca' fr' cn' wl' hc n1 c1 f1 fl2 n2 c2 f2 : Int} {F Fc a b w br sg F' Fc' a' b' w' br' sg' K1 K2 : Nat → Int} {A S B Lc Lp : List Int} (hI : zI A S B) (hC : zCs n ca fr F A S B) (hC' : zCs n' ca' fr' F' A S B) (hK : zCs n1 c1 f1 K1 A S B) (hp : zCx 180 cn Fc Lp) (hq : zCx 180 cn' Fc' Lc) (hL : Lp = if A ++ (S ++ B) = [] then Lc else A ++ (S ++ B)) (hKc : zK Lc) : zW (fun r => r.1 = 1 ∧ zCs r.2.2.2.2.2.2.2.2.2.1 r.2.2.2.2.2.2.2.2.2.2.1 r.2.2.2.2.2.2.2.2.2.2.2.1 r.2.2.2.2.2.2.2.2.2.2.2.2.2.2.1 A S B ∧ zCx 180 r.2.2.2.2.2.2.2.1 r.2.2.2.2.2.2.2.2.2.2.2.2.2.1 Lp ∧ (r.2.2.2.2.2.2.2.2.1 = hc ∨ r.2.2.2.2.2.2.2.2.1 = 0)) (f_L_clipped cn n ca fr wl Fc F a b w br sg cn' 1 hc n' ca' fr' fl2 wl' Fc' n1 c1 f1 F' a' b' w' n2 c2 f2 br' sg' K1 K2) := by
  have hl := hI.len
  have h60 := hI.2.1
  have a0 := (t_ab (m_ab0 (cn := cn) (ca := ca) (Fc := Fc) hC.1)).1
  have a5 := (t_ab (m_ab5 (n := n) (ca := ca) (F := F) hp)).1
  have hKp : zK Lp := by
    rw [hL]
    split
    · exact hKc
    · exact ⟨hI.bal, hI.2.1, hI.2.2⟩
  have hp60 := hKp.2.1
  have hc60 := hKc.2.1
  unfold f_L_clipped
  refine w_bd a0 ?_
  by_cases hn : A ++ (S ++ B) = []
  · rw [if_pos hn] at hL
    subst hL
    have hz : zcnt (A ++ (S ++ B)) = 0 := by rw [hn]; rfl
    refine w_eqt (by omega) ?_
    refine w_bd a5 ?_
    refine w_bd (t_ab (m_ab5 hq)).1 ?_
    refine w_jn ?_
    refine w_eqt (by omega) ?_
    refine w_gB (Or.inr rfl) ?_
    exact w_some ⟨rfl, hC', hq, Or.inl rfl⟩
  · rw [if_neg hn] at hL
    subst hL
    have hz1 : 1 ≤ zcnt (A ++ (S ++ B)) := by
      obtain ⟨X, R, e, hX, hR⟩ := zitF hI.bal hn
      obtain ⟨m, Z, e3, e4, -⟩ := zit_first hX
      rw [e, e3]
      simp only [List.cons_append, zcnt]
      rw [if_pos e4]
      omega
    refine w_eqf (by omega) ?_
    obtain ⟨kg, g1, g2, g3, g4, g5⟩ := zgf_ex hI
    obtain ⟨ca2, fr2, y2, i1, i3, i4⟩ := m_29 (n := n') (F := F') 24 A S B ca' fr' 0 kg hI hC' g1 (Int.le_refl 0) (by omega) (by omega)
    refine w_of (i1 _) ?_
    obtain ⟨cn3, Fc3, s1, s2, s3⟩ := m_copy i4 i3 hn cn' Fc'
    obtain ⟨F4, r1, r2⟩ := m_restore0 (c := hc) (fl2 := fl2) (n2 := n2) (c2 := c2) (f2 := f2) (K2 := K2) hI i4 i3 hK
    obtain ⟨r9, h9, h91⟩ := m_alike (wl := wl) (br := br) (sg := sg) (a := a) (b := b) (w := w) (wl' := wl') (br' := br') (sg' := sg') (a' := a') (b' := b') (w' := w') hI s3 hC r2 hp s2
    refine w_bd s1 ?_
    refine w_bd a5 ?_
    refine w_jn ?_
    refine w_jn ?_
    refine w_eqt (by (try dsimp only); omega) ?_
    refine w_bd r1 ?_
    refine w_ltf (by (try dsimp only); omega) ?_
    refine w_bd h9 ?_
    refine w_eqf (by rw [h91]; omega) ?_
    refine w_gB (Or.inr rfl) ?_
    exact w_some ⟨rfl, r2, s2, Or.inr rfl⟩
