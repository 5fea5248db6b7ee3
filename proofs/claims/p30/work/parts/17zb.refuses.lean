/-! p30: the whole of what is refused -/
set_option maxHeartbeats 4000000 in
theorem m_refuses {o c n ca fr cn wl fl1 fl2 row col hgt rl tn tc tf n1 c1 f1 n2 c2 f2 : Int} {rS rC rM F Fc a b w br sg rd F2 K1 K2 : Nat → Int} {rF : Nat → Nat → Int} {A S B Lc : List Int} (hI : zI A S B) (hC : zCs n ca fr F A S B) (hK : zK Lc) (hc : zCx 180 cn Fc Lc) : zW (fun r => ∃ (row' col' hgt' tn' tc' tf' wl' : Int) (a' b' w' F2' br' sg' : Nat → Int), r = (1, cn, fl1, o, c, n, ca, fr, row', col', hgt', rl, fl2, tn', tc', tf', wl', Fc, n1, c1, f1, F, a', b', w', rd, n2, c2, f2, F2', br', sg', K1, rS, rC, rM, rF, K2)) (f_L_refuses cn fl1 o c n ca fr row col hgt rl fl2 tn tc tf wl Fc n1 c1 f1 F a b w rd n2 c2 f2 F2 br sg K1 rS rC rM rF K2) := by
  have hl := hI.len
  have lL : (A ++ (S ++ B)).length = A.length + (S.length + B.length) := by simp
  have a1 := (t_ab (m_ab1 (cn := cn) (ca := ca) (Fc := Fc) hC.1)).1
  obtain ⟨⟨k1, k2⟩, k3⟩ := zdm_b hI.bal
  obtain ⟨o1, o2, o3⟩ := zdm_o hI.bal
  obtain ⟨g1, g2, g3, g4⟩ := zbf_1 (zdm_o hI.bal)
  have h180 := hc.1
  have hK5 := hK.2.1
  unfold f_L_refuses
  refine w_bd a1 ?_
  refine w_bd n_ab6 ?_
  refine w_use (fun v => ∃ (row' col' hgt' wl' : Int) (a' b' w' br' sg' : Nat → Int), v = (o, c, n, ca, fr, row', col', hgt', wl', F, a', b', w', br', sg', rS, rC, rM, rF, 1)) ?_ (fun k4 hk4 => ?_)
  · rintro _ ⟨row', col', hgt', wl', a', b', w', br', sg', rfl⟩
    refine w_jn ?_
    refine w_jn ?_
    refine w_eqf (by (try dsimp only); omega) ?_
    refine w_bd (t_sl (m_sel hI hC).1).1 ?_
    have hzb := zni_b S 0
    refine w_use (fun v => v = (cn, Fc)) ?_ (fun k30 hk30 => ?_)
    · rintro _ rfl
      refine w_bd (t_ab (m_ab5 hc)).1 ?_
      refine w_use (fun v => v = (o, c, n, ca, fr, F, rS, rC, rM, rF)) ?_ (fun k34 hk34 => ?_)
      · rintro _ rfl
        refine w_bd n_script.1 ?_
        refine w_eqt (by (try dsimp only); omega) ?_
        refine w_bd n_script.2 ?_
        refine w_eqt (by (try dsimp only); omega) ?_
        refine w_bd n_sim ?_
        refine w_eqt (by (try dsimp only); omega) ?_
        refine w_bd n_save ?_
        refine w_eqt (by (try dsimp only); omega) ?_
        refine w_bd n_restore ?_
        refine w_eqt (by (try dsimp only); omega) ?_
        refine w_bd n_append ?_
        refine w_eqt (by (try dsimp only); omega) ?_
        refine w_gB (Or.inr rfl) ?_
        exact w_some ⟨_, _, _, _, _, _, _, _, _, _, _, _, _, rfl⟩
      · by_cases hn : Lc = []
        · have hz : zcnt Lc = 0 := by rw [hn]; rfl
          have hcn : cn = 0 := by rw [h180.1, hn]; rfl
          refine w_ltf (by omega) ?_
          refine w_bd (n_paste hcn) ?_
          refine w_eqt (by (try dsimp only); omega) ?_
          exact hk34 _ rfl
        · have hz : 1 ≤ zcnt Lc := by
            obtain ⟨X, R, e, hX, hR⟩ := zitF hK.1 hn
            obtain ⟨m, Z, e3, e4, -⟩ := zit_first hX
            rw [e, e3]
            simp only [List.cons_append, zcnt]
            rw [if_pos e4]
            omega
          refine w_ltt (by omega) ?_
          exact hk34 _ rfl
    · by_cases hS : S = []
      · subst hS
        refine w_ltf ⟨⟨⟨by decide, by decide⟩, by decide, by decide⟩, by decide⟩ ?_
        refine w_bd (n_copy hC) ?_
        refine w_eqt (by (try dsimp only); omega) ?_
        exact hk30 _ rfl
      · have hp := zni_pos hI.1.2 hS
        refine w_ltt (by omega) ?_
        exact hk30 _ rfl
  · obtain ⟨br1, sg1, l1, -, l3⟩ := m_linLen hC.1 hI.bal hI.2.1 hI.2.2 wl br sg
    obtain ⟨br2, sg2, l4⟩ := n_lin hC hI ((ztx (A ++ (S ++ B))).length : Int) br1 sg1 (x := ((ztx (A ++ (S ++ B))).length : Int)) (Or.inr rfl)
    obtain ⟨br3, sg3, l5⟩ := n_lin hC hI ((ztx (A ++ (S ++ B))).length : Int) br2 sg2 (x := -1) (Or.inl rfl)
    obtain ⟨aa1, bb1, ww1, d1⟩ := n_draw3 hC.1 hI.bal hI.2.1 w a b
    obtain ⟨ww2, aa2, bb2, -, d2, -, -⟩ := m_drawing hC.1 hI.bal hI.2.1 ww1 aa1 bb1
    obtain ⟨aa3, bb3, ww3, d3⟩ := n_drawn hC.1 hI.bal hI.2.1 (pr := row) (pc := col) (ph := hgt) (x := (zbf (zdm (A ++ (S ++ B)))).1) (y := 0) ww2 aa2 bb2 (Or.inl ⟨rfl, rfl⟩)
    obtain ⟨ww4, aa4, bb4, -, -, d4, -⟩ := m_drawing hC.1 hI.bal hI.2.1 ww3 aa3 bb3
    obtain ⟨aa5, bb5, ww5, d5⟩ := n_drawn hC.1 hI.bal hI.2.1 (pr := row) (pc := col) (ph := hgt) (x := 0) (y := (zdm (A ++ (S ++ B))).2.1 + 1 + (zdm (A ++ (S ++ B))).2.2) ww4 aa4 bb4 (Or.inr ⟨rfl, rfl⟩)
    refine w_jn ?_
    refine w_eqt (by omega) ?_
    refine w_bd (n_pl hC.1 (by omega)) ?_
    refine w_eqt (by omega) ?_
    refine w_bd (n_pl hC.1 (by omega)) ?_
    refine w_eqt (by omega) ?_
    refine w_bd (n_pl6 hC.1) ?_
    refine w_eqt (by omega) ?_
    refine w_bd n_sel3 ?_
    refine w_eqt (by omega) ?_
    refine w_bd l1 ?_
    refine w_bd l4 ?_
    refine w_eqt (by (try dsimp only); omega) ?_
    refine w_bd l5 ?_
    refine w_eqt (by (try dsimp only); omega) ?_
    refine w_bd (n_moveTo hC.1) ?_
    refine w_eqt (by (try dsimp only); omega) ?_
    refine w_bd n_moveBy ?_
    refine w_eqt (by (try dsimp only); omega) ?_
    refine w_bd (n_type (by omega) (by decide)) ?_
    refine w_eqt (by (try dsimp only); omega) ?_
    refine w_bd (n_type (by omega) (by decide)) ?_
    refine w_eqt (by (try dsimp only); omega) ?_
    refine w_bd (n_type (by omega) (by decide)) ?_
    refine w_eqt (by (try dsimp only); omega) ?_
    refine w_bd (n_wrap (by omega)) ?_
    refine w_eqt (by (try dsimp only); omega) ?_
    refine w_bd (n_wrap (by omega)) ?_
    refine w_eqt (by (try dsimp only); omega) ?_
    refine w_bd n_replace ?_
    refine w_eqt (by (try dsimp only); omega) ?_
    refine w_bd d1 ?_
    refine w_eqt (by (try dsimp only); omega) ?_
    refine w_bd (t_dr d2) ?_
    refine w_bd d3 ?_
    refine w_eqt (by (try dsimp only); omega) ?_
    refine w_bd (t_dr d4) ?_
    refine w_bd d5 ?_
    refine w_eqt (by (try dsimp only); omega) ?_
    exact hk4 _ ⟨_, _, _, _, _, _, _, _, _, rfl⟩
