/-! the trial formula; simulations -/
theorem e_typesT {n ca fr x : Int} {F R : Nat → Int} (hF : zF n ca fr F R) (hx : -2147483648 ≤ x ∧ x ≤ 2147483647) : ∃ ok n' ca' fr' F' G, f_X7_typesInTrial n ca fr F x = some (ok, n', ca', fr', F') ∧ f_X8_types 184 R x = some (ok, G) ∧ zF n' ca' fr' F' G ∧ (ok = 0 ∨ ok = 1) := by
  have hF0 := hF
  obtain ⟨A, S, B, hI, hC, hR⟩ := hF
  have cs := c_sy hx
  have cc := c_canSym hI hC
  by_cases h : zsy x = true ∧ zcnt (A ++ B) < 60
  · obtain ⟨hs, hl⟩ := h
    rw [hs, zbi_t] at cs
    rw [decide_eq_true hl, zbi_t] at cc
    obtain ⟨n', ca', G', p1, p2⟩ := c_putSym hI hC (zsy_c hs) hl
    obtain ⟨G, q1, q2⟩ := r_types_y hI hR hs hl
    refine ⟨1, n', ca', ca', G', G, ?_, q1, ⟨A ++ [x], [], B, hI.sym (zsy_c hs) hl, p2, q2⟩, Or.inr rfl⟩
    unfold f_X7_typesInTrial
    simp (disch := omega) only [cs, z_bd, z_jn, z_eq_f, cc, p1, z_gB]
  · have q1 := r_types_n hI hR hx h
    refine ⟨0, n, ca, fr, F, R, ?_, q1, hF0, Or.inl rfl⟩
    unfold f_X7_typesInTrial
    cases hs : zsy x with
    | false =>
      rw [hs, zbi_f] at cs
      simp (disch := omega) only [cs, z_bd, z_jn, z_eq_t, z_gB]
    | true =>
      rw [hs, zbi_t] at cs
      rw [decide_eq_false (fun hl => h ⟨hs, hl⟩), zbi_f] at cc
      simp (disch := omega) only [cs, z_bd, z_jn, z_eq_f, z_eq_t, cc, z_gB]
theorem e_wrapsT {n ca fr x : Int} {F R : Nat → Int} (hF : zF n ca fr F R) (hx : -2147483648 ≤ x ∧ x ≤ 2147483647) : ∃ ok n' ca' fr' F' G, f_X7_wrapsInTrial n ca fr F x = some (ok, n', ca', fr', F') ∧ f_X8_wraps 184 R x = some (ok, G) ∧ zF n' ca' fr' F' G ∧ (ok = 0 ∨ ok = 1) := by
  have hF0 := hF
  obtain ⟨A, S, B, hI, hC, hR⟩ := hF
  by_cases hk : 1 ≤ x ∧ x ≤ 5
  · have cc := c_canStr hI hC
    cases hw : zwc A S B with
    | true =>
      rw [hw, zbi_t] at cc
      obtain ⟨n', ca', G', p1, p2⟩ := c_enclose hI hC hk hw
      obtain ⟨G, q1, q2⟩ := r_wraps_y hI hR hk hw
      have hw' := of_decide_eq_true hw
      refine ⟨1, n', ca', ca', G', G, ?_, q1, ⟨zwA x A S, [], zwB x S B, hI.wrap hk hw'.1 hw'.2, p2, q2⟩, Or.inr rfl⟩
      unfold f_X7_wrapsInTrial
      simp (disch := omega) only [c_on_t, z_bd, z_jn, z_eq_f, cc, p1, z_gB]
    | false =>
      rw [hw, zbi_f] at cc
      have q1 := r_wraps_n hI hR hk hw
      refine ⟨0, n, ca, fr, F, R, ?_, q1, hF0, Or.inl rfl⟩
      unfold f_X7_wrapsInTrial
      simp (disch := omega) only [c_on_t, z_bd, z_jn, z_eq_f, z_eq_t, cc, z_gB]
  · have q1 := r_wraps_k hI hR hx hk
    refine ⟨0, n, ca, fr, F, R, ?_, q1, hF0, Or.inl rfl⟩
    unfold f_X7_wrapsInTrial
    simp (disch := omega) only [c_on_f, z_bd, z_jn, z_eq_t, z_gB]
theorem e_backsT {n ca fr : Int} {F R : Nat → Int} (hF : zF n ca fr F R) : ∃ ok n' ca' fr' F' G, f_X7_deletesInTrial n ca fr F = some (ok, n', ca', fr', F') ∧ f_X8_backs 184 R = some (ok, G) ∧ zF n' ca' fr' F' G ∧ (ok = 0 ∨ ok = 1) := by
  have hF0 := hF
  obtain ⟨A, S, B, hI, hC, hR⟩ := hF
  rcases e_backs hI hC hR with ⟨h1, h2⟩ | ⟨A', B', n', ca', F', G, h1, h2, h3, h4, h5, h6⟩
  · refine ⟨0, n, ca, fr, F, R, ?_, h2, hF0, Or.inl rfl⟩
    unfold f_X7_deletesInTrial
    simp (disch := omega) only [h1, z_bd, z_eq_t, z_gB]
  · refine ⟨1, n', ca', ca', F', G, ?_, h3, ⟨A', [], B', h6, h4, h5⟩, Or.inr rfl⟩
    unfold f_X7_deletesInTrial
    simp (disch := omega) only [h1, z_bd, z_eq_f, h2, z_gB]
theorem e_growT {n ca fr : Int} {F R : Nat → Int} (hF : zF n ca fr F R) : ∃ ok ca' fr' G, f_X0_growSelection n ca fr F = some (ok, ca', fr') ∧ f_X8_grows 184 R = some (ok, G) ∧ zF n ca' fr' F G ∧ (ok = 0 ∨ ok = 1) := by
  have hF0 := hF
  obtain ⟨A, S, B, hI, hC, hR⟩ := hF
  rcases e_grow hI hC hR with ⟨h1, h2⟩ | ⟨A', S', B', ca', fr', G, h1, h2, h3, h4, h5, h6⟩
  · exact ⟨0, ca, fr, R, h1, h2, hF0, Or.inl rfl⟩
  · exact ⟨1, ca', fr', G, h1, h2, ⟨A', S', B', h5, h3, h4⟩, Or.inr rfl⟩
theorem e_movesT {n ca fr x : Int} {F R : Nat → Int} (hF : zF n ca fr F R) (hx : -1000 ≤ x ∧ x ≤ 1000) : ∃ p G, f_X0_shiftCaret n ca fr x = some (p, p) ∧ f_X8_moves 184 R x = some G ∧ zF n p p F G := by
  obtain ⟨A, S, B, hI, hC, hR⟩ := hF
  obtain ⟨A', B', p, G, m1, m2, m3, m4, m5, m6⟩ := e_moves hI hC hR hx
  exact ⟨p, G, m1, m3, A', [], B', m5, m2, m4⟩
/-- the upper 31 bits of a number -/
theorem lsr_b (x : Int) : 0 ≤ lsrI x 33 ∧ lsrI x 33 ≤ 2147483647 := by
  unfold lsrI
  have e1 : ((iI 33).toInt64.toUInt64 &&& Int64.toUInt64 63) = 33 := by decide +kernel
  rw [e1]
  generalize (iL x).toUInt64 = u
  have h1 : (u >>> 33).toNat = u.toNat / 2 ^ 33 := by
    rw [UInt64.toNat_shiftRight]
    simp [Nat.shiftRight_eq_div_pow]
  have h2 : u.toNat < 2 ^ 64 := u.toNat_lt
  have h3 : (u >>> 33).toNat < 2 ^ 31 := by rw [h1]; omega
  have h4 : (u >>> 33).toInt64.toInt = ((u >>> 33).toNat : Int) := by
    show (u >>> 33).toInt64.toBitVec.toInt = _
    rw [BitVec.toInt_eq_toNat_of_lt]
    · rfl
    · show 2 * (u >>> 33).toNat < 2 ^ 64
      omega
  rw [h4]
  omega
theorem ztmod {a : Int} {k : Nat} (h : 0 ≤ a) : a.tmod k = a % k := Int.tmod_eq_emod_of_nonneg h
theorem ztdiv {a : Int} {k : Int} (h : 0 ≤ a) : a.tdiv k = a / k := Int.tdiv_eq_ediv_of_nonneg h
/-- one round of a simulation -/
theorem e_sim_loop {m : Int} (hm : 1 ≤ m ∧ m ≤ 60) {e : Int × Int × Int × (Nat → Int) × Int × Int → Option (Int × Int × Int × Int × Int × Int × (Nat → Int) × (Nat → Int) × (Nat → Int))} {e2 : (Nat → Int) × Int × Int → Option (Int × Int × Int × (Nat → Int) × (Nat → Int) × (Nat → Int))} : ∀ (r fu1 fu2 : Nat) (n ca fr x i : Int) (F R : Nat → Int), i = m - (r : Int) → r < fu1 → r < fu2 → (r : Int) ≤ m → zF n ca fr F R → ∃ n' ca' fr' x' F' R', f_X7_simulate_39 m e fu1 n ca fr F x i = e (n', ca', fr', F', x', m) ∧ f_X8_simulate_45 m e2 fu2 R x i = e2 (R', x', m) ∧ zF n' ca' fr' F' R'
  | r, 0, fu2, n, ca, fr, x, i, F, R, hi, h1, h2, hr, hF => by omega
  | r, fu1 + 1, 0, n, ca, fr, x, i, F, R, hi, h1, h2, hr, hF => by omega
  | 0, fu1 + 1, fu2 + 1, n, ca, fr, x, i, F, R, hi, h1, h2, hr, hF => by
    have : i = m := by omega
    subst this
    refine ⟨n, ca, fr, x, F, R, ?_, ?_, hF⟩
    · simp (disch := omega) only [f_X7_simulate_39, z_lt_f]
    · simp (disch := omega) only [f_X8_simulate_45, z_lt_f]
  | r + 1, fu1 + 1, fu2 + 1, n, ca, fr, x, i, F, R, hi, h1, h2, hr, hF => by
    have hb := lsr_b (x * 6364136223846793005 + 1442695040888963407)
    generalize hv : lsrI (x * 6364136223846793005 + 1442695040888963407) 33 = v at *
    have t1 : v.tdiv 8 = v / 8 := ztdiv hb.1
    have t2 : (v / 8).tmod 64 = v / 8 % 64 := Int.tmod_eq_emod_of_nonneg (by omega)
    have t3 : v.tmod 8 = v % 8 := Int.tmod_eq_emod_of_nonneg hb.1
    have t4 : (v / 8 % 64).tmod 17 = v / 8 % 64 % 17 := Int.tmod_eq_emod_of_nonneg (by omega)
    have t5 : (v / 8 % 64).tmod 5 = v / 8 % 64 % 5 := Int.tmod_eq_emod_of_nonneg (by omega)
    have ih := fun n ca fr F R hF => e_sim_loop hm (e := e) (e2 := e2) r fu1 fu2 n ca fr (x * 6364136223846793005 + 1442695040888963407) (i + 1) F R (by omega) (by omega) (by omega) (by omega) hF
    have step : ∃ n' ca' fr' F' R', f_X7_simulate_39 m e (fu1 + 1) n ca fr F x i = f_X7_simulate_39 m e fu1 n' ca' fr' F' (x * 6364136223846793005 + 1442695040888963407) (i + 1) ∧ f_X8_simulate_45 m e2 (fu2 + 1) R x i = f_X8_simulate_45 m e2 fu2 R' (x * 6364136223846793005 + 1442695040888963407) (i + 1) ∧ zF n' ca' fr' F' R' := by
      by_cases k1 : v % 8 ≤ 2
      · obtain ⟨ok, n', ca', fr', F', G, g1, g2, g3, g4⟩ := e_typesT (x := 97 + v / 8 % 64 % 17) hF (by omega)
        refine ⟨n', ca', fr', F', G, ?_, ?_, g3⟩
        · have kk : v % 8 = 0 ∨ v % 8 = 1 ∨ v % 8 = 2 := by omega
          rcases kk with kk | kk | kk <;> simp (disch := omega) only [f_X7_simulate_39, f_X7_playRound, z_lt_t, hv, t1, t2, t3, t4, z_gR, z_jn, z_eq_t, z_eq_f, g1, z_bd]
        · have kk : v % 8 = 0 ∨ v % 8 = 1 ∨ v % 8 = 2 := by omega
          rcases kk with kk | kk | kk <;> simp (disch := omega) only [f_X8_simulate_45, z_lt_t, hv, t1, t2, t3, t4, z_gR, z_jn, z_eq_t, z_eq_f, g2, z_bd]
      · by_cases k2 : v % 8 ≤ 4
        · obtain ⟨ok, n', ca', fr', F', G, g1, g2, g3, g4⟩ := e_wrapsT (x := 1 + v / 8 % 64 % 5) hF (by omega)
          refine ⟨n', ca', fr', F', G, ?_, ?_, g3⟩
          · have kk : v % 8 = 3 ∨ v % 8 = 4 := by omega
            rcases kk with kk | kk <;> simp (disch := omega) only [f_X7_simulate_39, f_X7_playRound, z_lt_t, hv, t1, t2, t3, t5, z_gR, z_jn, z_eq_t, z_eq_f, g1, z_bd]
          · have kk : v % 8 = 3 ∨ v % 8 = 4 := by omega
            rcases kk with kk | kk <;> simp (disch := omega) only [f_X8_simulate_45, z_lt_t, hv, t1, t2, t3, t5, z_gR, z_jn, z_eq_t, z_eq_f, g2, z_bd]
        · by_cases k3 : v % 8 = 5
          · obtain ⟨p, G, g1, g2, g3⟩ := e_movesT (x := v / 8 % 64 - 32) hF (by omega)
            refine ⟨n, p, p, F, G, ?_, ?_, g3⟩
            · simp (disch := omega) only [f_X7_simulate_39, f_X7_playRound, z_lt_t, hv, t1, t2, t3, z_gR, z_jn, z_eq_t, z_eq_f, g1, z_bd]
            · simp (disch := omega) only [f_X8_simulate_45, z_lt_t, hv, t1, t2, t3, z_gR, z_jn, z_eq_t, z_eq_f, g2, z_bd]
          · by_cases k4 : v % 8 = 6
            · obtain ⟨ok, n', ca', fr', F', G, g1, g2, g3, g4⟩ := e_backsT hF
              refine ⟨n', ca', fr', F', G, ?_, ?_, g3⟩
              · simp (disch := omega) only [f_X7_simulate_39, f_X7_playRound, z_lt_t, hv, t1, t2, t3, z_gR, z_jn, z_eq_t, z_eq_f, g1, z_bd]
              · simp (disch := omega) only [f_X8_simulate_45, z_lt_t, hv, t1, t2, t3, z_gR, z_jn, z_eq_t, z_eq_f, g2, z_bd]
            · obtain ⟨ok, ca', fr', G, g1, g2, g3, g4⟩ := e_growT hF
              refine ⟨n, ca', fr', F, G, ?_, ?_, g3⟩
              · simp (disch := omega) only [f_X7_simulate_39, f_X7_playRound, z_lt_t, hv, t1, t2, t3, z_gR, z_jn, z_eq_t, z_eq_f, g1, z_bd]
              · simp (disch := omega) only [f_X8_simulate_45, z_lt_t, hv, t1, t2, t3, z_gR, z_jn, z_eq_t, z_eq_f, g2, z_bd]
    obtain ⟨n1, ca1, fr1, F1, R1, s1, s2, s3⟩ := step
    obtain ⟨n', ca', fr', x', F', R', i1, i2, i3⟩ := ih n1 ca1 fr1 F1 R1 s3
    exact ⟨n', ca', fr', x', F', R', by rw [s1, i1], by rw [s2, i2], i3⟩
/-- both write the same text of a formula -/
theorem e_writeF {n ca fr wl ls : Int} {F R br sg pile line : Nat → Int} (hF : zF n ca fr F R) : ∃ (W : List Int) (br' sg' pile' line' : Nat → Int), f_X6_write 180 wl br sg n F = some ((W.length : Int), br', sg') ∧ f_X8_layLine 184 ls line pile R = some ((W.length : Int), line', pile') ∧ zCW sg' W ∧ zCW line' W ∧ W.length ≤ 300 := by
  obtain ⟨A, S, B, hI, hC, hR⟩ := hF
  exact e_write hC.1 hR.1 hI.bal hI.2.1 hI.2.2
theorem e_simulate {n ca fr tn tc tf wl ls rf x m : Int} {F R F2 R2 br sg pile line : Nat → Int} (hF : zF n ca fr F R) (hT : zF tn tc tf F2 R2 ∨ True) (hm : -2147483648 ≤ m ∧ m ≤ 2147483647) : ∃ t v v' k tn' tc' tf' wl' F2' br' sg' ls' line' pile' R2', f_X7_simulate n ca fr tn tc tf wl F F2 br sg x m = some (t, v, tn', tc', tf', wl', F2', br', sg') ∧ f_X8_simulate rf ls line R pile R2 x m = some (v', k, ls', line', pile', R2') ∧ zag t k v v' 1 9 := by
  by_cases h : 1 ≤ m ∧ m ≤ 60
  · obtain ⟨F3, b1, b2⟩ := c_become (n1 := tn) (c1 := tc) (f1 := tf) (F := F2) hF
    obtain ⟨T', t1, t2⟩ := r_trial R2 hF
    have hF3 := b2.congr t2
    obtain ⟨n', ca', fr', x', F', R', i1, i2, i3⟩ := e_sim_loop h (e := fun (z4 : Int × Int × Int × (Nat → Int) × Int × Int) => bd (f_X6_write 180 wl br sg z4.1 z4.2.2.2.1) (fun r5 => bd (f_X3_allItems 180 z4.1 z4.2.2.2.1) (fun r6 => some (0, (1000 * r6) + r5.1, z4.1, z4.2.1, z4.2.2.1, r5.1, z4.2.2.2.1, r5.2.1, r5.2.2)))) (e2 := fun (z17 : (Nat → Int) × Int × Int) => bd (f_X8_layLine 184 ls line pile z17.1) (fun r18 => gIn 180 184 (bd (f_X8_allIn 184 z17.1 0 (z17.1 (180 : Int).toNat)) (fun r19 => some ((1000 * r19) + r18.1, 0, r18.1, r18.2.1, r18.2.2, z17.1))))) m.toNat fuel fuel n ca fr x 0 F3 T' (by omega) (by unfold fuel; omega) (by unfold fuel; omega) (by omega) hF3
    obtain ⟨W, br', sg', pile', line', w1, w2, w3, w4, w5⟩ := e_writeF (wl := wl) (ls := ls) (br := br) (sg := sg) (pile := pile) (line := line) i3
    obtain ⟨v, a1, a2, a3, a4⟩ := e_all i3
    refine ⟨0, 1000 * v + (W.length : Int), 1000 * v + (W.length : Int), 0, n', ca', fr', (W.length : Int), F', br', sg', (W.length : Int), line', pile', R', ?_, ?_, Or.inl ⟨rfl, rfl, rfl, by omega⟩⟩
    · unfold f_X7_simulate
      simp (disch := omega) only [z_jn, z_lt_f, b1, z_bd]
      rw [i1]
      simp only [w1, z_bd, a1]
    · unfold f_X8_simulate
      simp (disch := omega) only [z_gR, r_in_t, z_bd, z_jn, z_eq_f, z_eq_t, r_rf_0, t1]
      simp (disch := omega) only [z_in, z180] at i2 ⊢
      rw [i2]
      simp (disch := omega) only [w2, z_bd, a2]
  · refine ⟨1, 0, 0, 1, tn, tc, tf, wl, F2, br, sg, ls, line, pile, R2, ?_, ?_, Or.inr (Or.inl ⟨rfl, rfl⟩)⟩
    · unfold f_X7_simulate
      by_cases h0 : m < 1
      · simp (disch := omega) only [z_jn, z_lt_t]
      · simp (disch := omega) only [z_jn, z_lt_f, z_lt_t]
    · unfold f_X8_simulate
      simp (disch := omega) only [z_gR, r_in_f, z_bd, z_jn, z_eq_t, z_eq_f, r_rf_1]
