/-! p30: simulations, and all that scripts are asked -/
theorem e_sim9 {n ca fr tn tc tf wl ls rf x m : Int} {F R F2 R2 br sg pile line : Nat → Int} (hF : zF n ca fr F R) (h : 1 ≤ m ∧ m ≤ 60) : ∃ (v tn' tc' tf' wl' : Int) (F2' br' sg' : Nat → Int) (ls' : Int) (line' pile' R2' : Nat → Int), f_X7_simulate n ca fr tn tc tf wl F F2 br sg x m = some (0, v, tn', tc', tf', wl', F2', br', sg') ∧ f_X8_simulate rf ls line R pile R2 x m = some (v, 0, ls', line', pile', R2') ∧ 0 ≤ v ∧ v ≤ 60300 := by
  obtain ⟨F3, b1, b2⟩ := c_become (n1 := tn) (c1 := tc) (f1 := tf) (F := F2) hF
  obtain ⟨T', t1, t2⟩ := r_trial R2 hF
  have hF3 := b2.congr t2
  obtain ⟨n', ca', fr', x', F', R', i1, i2, i3⟩ := e_sim_loop h (e := fun (z4 : Int × Int × Int × (Nat → Int) × Int × Int) => bd (f_X6_write 180 wl br sg z4.1 z4.2.2.2.1) (fun r5 => bd (f_X3_allItems 180 z4.1 z4.2.2.2.1) (fun r6 => some (0, (1000 * r6) + r5.1, z4.1, z4.2.1, z4.2.2.1, r5.1, z4.2.2.2.1, r5.2.1, r5.2.2)))) (e2 := fun (z17 : (Nat → Int) × Int × Int) => bd (f_X8_layLine 184 ls line pile z17.1) (fun r18 => gIn 180 184 (bd (f_X8_allIn 184 z17.1 0 (z17.1 (180 : Int).toNat)) (fun r19 => some ((1000 * r19) + r18.1, 0, r18.1, r18.2.1, r18.2.2, z17.1))))) m.toNat fuel fuel n ca fr x 0 F3 T' (by omega) (by unfold fuel; omega) (by unfold fuel; omega) (by omega) hF3
  obtain ⟨W, br', sg', pile', line', w1, w2, w3, w4, w5⟩ := e_writeF (wl := wl) (ls := ls) (br := br) (sg := sg) (pile := pile) (line := line) i3
  obtain ⟨v, a1, a2, a3, a4⟩ := e_all i3
  refine ⟨1000 * v + (W.length : Int), n', ca', fr', (W.length : Int), F', br', sg', (W.length : Int), line', pile', R', ?_, ?_, by omega, by omega⟩
  · unfold f_X7_simulate
    simp (disch := omega) only [z_jn, z_lt_f, b1, z_bd]
    rw [i1]
    simp only [w1, z_bd, a1]
  · unfold f_X8_simulate
    simp (disch := omega) only [z_gR, r_in_t, z_bd, z_jn, z_eq_f, z_eq_t, r_rf_0, t1]
    simp (disch := omega) only [z_in, z180] at i2 ⊢
    rw [i2]
    simp (disch := omega) only [w2, z_bd, a2]
/-- a simulation gives one answer, whatever stood where it is played -/
theorem m_sim {n ca fr : Int} {F : Nat → Int} {A S B : List Int} (hI : zI A S B) (hC : zCs n ca fr F A S B) (x : Int) : ∃ v : Int, (0 ≤ v ∧ v ≤ 60300) ∧ ∀ (tn tc tf wl : Int) (F2 br sg : Nat → Int), ∃ (tn' tc' tf' wl' : Int) (F2' br' sg' : Nat → Int), f_L_trySimulate n ca fr tn tc tf wl F F2 br sg x 9 = some (v, tn', tc', tf', wl', F2', br', sg') := by
  obtain ⟨R, hR⟩ := zRs_ex hI
  have hF : zF n ca fr F R := ⟨A, S, B, hI, hC, hR⟩
  obtain ⟨v, _, _, _, _, _, _, _, _, _, _, _, -, s2, s3, s4⟩ := e_sim9 (tn := 0) (tc := 0) (tf := 0) (wl := 0) (ls := 0) (rf := 0) (x := x) (m := 9) (F2 := fun _ => 0) (R2 := fun _ => 0) (br := fun _ => 0) (sg := fun _ => 0) (pile := fun _ => 0) (line := fun _ => 0) hF (by omega)
  refine ⟨v, ⟨s3, s4⟩, fun tn tc tf wl F2 br sg => ?_⟩
  obtain ⟨v2, tn', tc', tf', wl', F2', br', sg', _, _, _, _, t1, t2, -, -⟩ := e_sim9 (tn := tn) (tc := tc) (tf := tf) (wl := wl) (ls := 0) (rf := 0) (x := x) (m := 9) (F2 := F2) (R2 := fun _ => 0) (br := br) (sg := sg) (pile := fun _ => 0) (line := fun _ => 0) hF (by omega)
  have e1 : v = v2 := congrArg Prod.fst (Option.some.inj (s2.symm.trans t2))
  subst e1
  refine ⟨tn', tc', tf', wl', F2', br', sg', ?_⟩
  unfold f_L_trySimulate
  rw [t1, z_bd]
  exact z_tg1 rfl
set_option maxHeartbeats 4000000 in
theorem m_scripts {cn n ca fr tn tc tf wl x : Int} {Fc F a b w F2 br sg : Nat → Int} {A S B : List Int} (hx : 0 ≤ x ∧ x ≤ 2147483647) (hI : zI A S B) (hC : zCs n ca fr F A S B) : zW (fun r => r.1 = 1) (f_L_scripts cn n ca fr tn tc tf wl Fc F a b w F2 br sg x) := by
  have hl := hI.len
  have hca : ca = (A.length : Int) + S.length := hC.2.1
  have h60 := hI.2.1
  have lL : (A ++ (S ++ B)).length = A.length + (S.length + B.length) := by simp
  obtain ⟨⟨k1, k2⟩, k3⟩ := zdm_b hI.bal
  obtain ⟨o1, o2, o3⟩ := zdm_o hI.bal
  obtain ⟨f1, f2, f3, f4⟩ := zbf_1 (zdm_o hI.bal)
  have a0 := (t_ab (m_ab0 (cn := cn) (ca := ca) (Fc := Fc) hC.1)).1
  have a2 := (t_ab (m_ab2 (cn := cn) (n := n) (ca := ca) (Fc := Fc) (F := F))).1
  obtain ⟨w1, a1, b1, -, d, -, -⟩ := m_drawing hC.1 hI.bal hI.2.1 w a b
  have scr : ∀ {s ok : Int}, 0 ≤ s ∧ s ≤ 9999 → (∀ (F3 a b w : Nat → Int), zCs n ca fr F3 A S B → ∃ (n' ca' fr' : Int) (a' b' w' F' : Nat → Int), f_X7_obeys n ca fr a b w F3 s = some (ok, n', ca', fr', a', b', w', F')) → (ok = 0 ∨ ok = 1) → ∀ (tn tc tf : Int) (a b w F2 : Nat → Int), ∃ (tn' tc' tf' : Int) (a' b' w' F' : Nat → Int), f_L_tryScript n ca fr tn tc tf F a b w F2 1 s = some ((if ok = 0 then 0 else -9), tn', tc', tf', a', b', w', F') := fun hs ho hok tn tc tf a b w F2 => m_script1 hI hC hs ho hok tn tc tf a b w F2
  have sc1 := scr (s := 7000 + (zcnt (A ++ (S ++ B)) : Int)) (ok := 1) (by omega) (fun F3 a b w h => ⟨_, _, _, _, _, _, _, by rw [o_cnt hI h (by omega), if_pos rfl]⟩) (Or.inr rfl)
  have sc2 := scr (s := 7001 + (zcnt (A ++ (S ++ B)) : Int)) (ok := 0) (by omega) (fun F3 a b w h => ⟨_, _, _, _, _, _, _, by rw [show 7001 + (zcnt (A ++ (S ++ B)) : Int) = 7000 + ((zcnt (A ++ (S ++ B)) : Int) + 1) by omega, o_cnt hI h (by omega), if_neg (by omega)]⟩) (Or.inl rfl)
  have sc3 := scr (s := 1114) (ok := 0) (by omega) (fun F3 a b w h => ⟨_, _, _, _, _, _, _, o_1114⟩) (Or.inl rfl)
  have sc4 := scr (s := 2006) (ok := 0) (by omega) (fun F3 a b w h => ⟨_, _, _, _, _, _, _, o_2006⟩) (Or.inl rfl)
  have sc5 := scr (s := 3100) (ok := 0) (by omega) (fun F3 a b w h => ⟨_, _, _, _, _, _, _, o_100.1⟩) (Or.inl rfl)
  have sc6 := scr (s := 100) (ok := 0) (by omega) (fun F3 a b w h => ⟨_, _, _, _, _, _, _, o_100.2⟩) (Or.inl rfl)
  unfold f_L_scripts
  refine w_bd a0 ?_
  refine w_bd a2 ?_
  refine w_bd (t_dr d) ?_
  refine w_gR (by omega) ?_
  obtain ⟨tn1, tc1, tf1, a3, b3, w3, F3, g1⟩ := sc1 tn tc tf a1 b1 w1 F2
  rw [if_neg (by omega)] at g1
  refine w_bd g1 ?_
  refine w_use (fun v => v.2.2.2.2.2.2.2 = 1) ?_ (fun k6 hk6 => ?_)
  · rintro ⟨tn2, tc2, tf2, a4, b4, w4, F4, g⟩ hg
    dsimp only at hg
    subst hg
    obtain ⟨v, ⟨v1, v2⟩, hv⟩ := m_sim hI hC (x * 67)
    obtain ⟨tn3, tc3, tf3, wl3, F5, br3, sg3, s1⟩ := hv tn2 tc2 tf2 wl F4 br sg
    obtain ⟨tn4, tc4, tf4, wl4, F6, br4, sg4, s2⟩ := hv tn3 tc3 tf3 wl3 F5 br3 sg3
    refine w_gR (by omega) ?_
    refine w_bd s1 ?_
    refine w_jn ?_
    refine w_jn ?_
    refine w_eqf (by (try dsimp only); omega) ?_
    refine w_ltf (by (try dsimp only); omega) ?_
    refine w_gR (by omega) ?_
    refine w_bd s2 ?_
    refine w_eqt (by (try dsimp only); omega) ?_
    refine w_gR (by (try dsimp only); omega) ?_
    have hd : v.tdiv 1000 = v / 1000 := Int.tdiv_eq_ediv_of_nonneg v1
    refine w_ltf (by (try dsimp only); omega) ?_
    refine w_gB (Or.inr rfl) ?_
    exact w_some rfl
  · refine w_jn ?_
    refine w_eqt (by (try dsimp only); omega) ?_
    refine w_use (fun _ => True) ?_ (fun k7 hk7 => ?_)
    · rintro ⟨tn2, tc2, tf2, a4, b4, w4, F4⟩ -
      refine w_use (fun _ => True) ?_ (fun k10 hk10 => ?_)
      · rintro ⟨tn3, tc3, tf3, a5, b5, w5, F5⟩ -
        refine w_gR (by omega) ?_
        obtain ⟨tn4, tc4, tf4, a6, b6, w6, F6, g2⟩ := sc2 tn3 tc3 tf3 a5 b5 w5 F5
        rw [if_pos rfl] at g2
        refine w_bd g2 ?_
        refine w_eqt (by (try dsimp only); omega) ?_
        obtain ⟨tn5, tc5, tf5, a7, b7, w7, F7, g3⟩ := sc3 tn4 tc4 tf4 a6 b6 w6 F6
        rw [if_pos rfl] at g3
        refine w_bd g3 ?_
        refine w_eqt (by (try dsimp only); omega) ?_
        obtain ⟨tn6, tc6, tf6, a8, b8, w8, F8, g4⟩ := sc4 tn5 tc5 tf5 a7 b7 w7 F7
        rw [if_pos rfl] at g4
        refine w_bd g4 ?_
        refine w_eqt (by (try dsimp only); omega) ?_
        obtain ⟨tn7, tc7, tf7, a9, b9, w9, F9, g5⟩ := sc5 tn6 tc6 tf6 a8 b8 w8 F8
        rw [if_pos rfl] at g5
        refine w_bd g5 ?_
        refine w_eqt (by (try dsimp only); omega) ?_
        obtain ⟨tn8, tc8, tf8, a10, b10, w10, F10, g6⟩ := sc6 tn7 tc7 tf7 a9 b9 w9 F9
        rw [if_pos rfl] at g6
        refine w_bd g6 ?_
        refine w_eqt (by (try dsimp only); omega) ?_
        obtain ⟨tn9, tc9, tf9, a11, b11, w11, F11, g7⟩ := m_script4 hI hC tn8 tc8 tf8 a10 b10 w10 F10
        refine w_bd g7 ?_
        refine w_jn ?_
        by_cases h198 : 198 < ca
        · refine w_ltt (by omega) ?_
          rw [if_pos h198]
          refine w_eqt (by (try dsimp only); omega) ?_
          exact hk6 _ rfl
        · refine w_ltf (by omega) ?_
          rw [if_neg h198]
          refine w_eqt (by (try dsimp only); omega) ?_
          exact hk6 _ rfl
      · by_cases h99 : 99 < (zbf (zdm (A ++ (S ++ B)))).1
        · refine w_ltt (by (try dsimp only); omega) ?_
          exact hk10 _ trivial
        · refine w_ltf (by (try dsimp only); omega) ?_
          refine w_gR (by (try dsimp only); omega) ?_
          have sc9 := scr (s := 9000 + (zbf (zdm (A ++ (S ++ B)))).1) (ok := 1) (by omega) (fun F3 a b w h => by
            obtain ⟨a', b', w', e⟩ := o_wide a b w hI h (k := (zbf (zdm (A ++ (S ++ B)))).1) (by omega) rfl
            exact ⟨_, _, _, _, _, _, _, e⟩) (Or.inr rfl)
          obtain ⟨tn4, tc4, tf4, a6, b6, w6, F6, g2⟩ := sc9 tn2 tc2 tf2 a4 b4 w4 F4
          rw [if_neg (by omega)] at g2
          refine w_bd g2 ?_
          refine w_eqt (by (try dsimp only); omega) ?_
          exact hk10 _ trivial
    · by_cases h99 : 99 < ca
      · refine w_ltt (by omega) ?_
        exact hk7 _ trivial
      · refine w_ltf (by omega) ?_
        refine w_gR (by omega) ?_
        have sc8 := scr (s := 8000 + ca) (ok := 1) (by omega) (fun F3 a b w h => ⟨_, _, _, _, _, _, _, by rw [o_at (by omega) (by omega), if_pos rfl]⟩) (Or.inr rfl)
        obtain ⟨tn4, tc4, tf4, a6, b6, w6, F6, g2⟩ := sc8 tn1 tc1 tf1 a3 b3 w3 F3
        rw [if_neg (by omega)] at g2
        refine w_bd g2 ?_
        refine w_eqt (by (try dsimp only); omega) ?_
        exact hk7 _ trivial
