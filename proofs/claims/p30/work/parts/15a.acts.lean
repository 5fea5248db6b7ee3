/-! the actions as calls -/
theorem e_all {n ca fr : Int} {F R : Nat → Int} (h : zF n ca fr F R) : ∃ v, f_X3_allItems 180 n F = some v ∧ f_X8_allIn 184 R 0 (R 180) = some v ∧ 0 ≤ v ∧ v ≤ 60 := by
  obtain ⟨A, S, B, hI, hC, hR⟩ := h
  have e1 := c_count hC.1 (A := []) (S := A ++ (S ++ B)) (B := []) (by simp) (x := 0) (y := n) rfl (by rw [hC.1.1.1]; simp)
  have e2 := r_all hR.1.1 (A := []) (S := A ++ (S ++ B)) (B := []) (by simp) (x := 0) (y := R 180) rfl (by rw [hR.1.2.1]; simp)
  refine ⟨(zcnt (A ++ (S ++ B)) : Int), ?_, e2, by omega, by have := hI.2.1; omega⟩
  unfold f_X3_allItems
  rw [e1, z_bd]
theorem e_type {o c acts n ca fr rf x : Int} {rS rC rM D F R : Nat → Int} {rF : Nat → Nat → Int} (T : Nat → Int) (hH : zH o c rS rC rM rF acts D) (hF : zF n ca fr F R) (hx : -2147483648 ≤ x ∧ x ≤ 2147483647) : ∃ t v v' k o' c' n' ca' fr' F' rS' rC' rM' rF' acts' D' R' T', f_X7_type o c n ca fr F rS rC rM rF x = some (t, v, o', c', n', ca', fr', F', rS', rC', rM', rF') ∧ f_X8_type rf acts D R T x = some (v', k, acts', D', R', T') ∧ zag t k v v' 1 2 ∧ zH o' c' rS' rC' rM' rF' acts' D' ∧ zF n' ca' fr' F' R' := by
  obtain ⟨T1, t1, t2⟩ := r_trial T hF
  have hF0 := hF
  obtain ⟨A, S, B, hI, hC, hR⟩ := hF
  have hT1 := hR.congr t2
  have cs := c_sy hx
  have rs := r_sy hx
  cases hs : zsy x with
  | false =>
    rw [hs, zbi_f] at cs rs
    refine ⟨1, 0, 0, 1, o, c, n, ca, fr, F, rS, rC, rM, rF, acts, D, R, T1, ?_, ?_, Or.inr (Or.inl ⟨rfl, rfl⟩), hH, hF0⟩
    · unfold f_X7_type
      simp (disch := omega) only [cs, z_bd, z_eq_t]
    · unfold f_X8_type
      simp (disch := omega) only [t1, rs, z_bd, z_jn, z_eq_t, z_eq_f, r_rf_1]
  | true =>
    rw [hs, zbi_t] at cs rs
    have cc := c_canSym hI hC
    by_cases hl : zcnt (A ++ B) < 60
    · rw [decide_eq_true hl, zbi_t] at cc
      obtain ⟨n', ca', G', p1, p2⟩ := c_putSym hI hC (zsy_c hs) hl
      obtain ⟨G, q1, q2⟩ := r_types_y hI hT1 hs hl
      have hN : zF n' ca' ca' G' G := ⟨A ++ [x], [], B, hI.sym (zsy_c hs) hl, p2, q2⟩
      obtain ⟨o', c', rS', rC', rM', rF', acts', D', R', g1, g2, g3, g4, g5⟩ := e_take hH hF0 hN
      obtain ⟨v, a1, a2, a3, a4⟩ := e_all g4
      refine ⟨0, v, v, 0, o', c', n', ca', ca', G', rS', rC', rM', rF', acts', D', R', G, ?_, ?_, Or.inl ⟨rfl, rfl, rfl, by omega⟩, g3, g4⟩
      · unfold f_X7_type
        simp (disch := omega) only [cs, z_bd, z_eq_f, cc, g1, p1, a1]
      · unfold f_X8_type
        simp (disch := omega) only [t1, rs, z_bd, z_jn, z_eq_t, z_eq_f, q1, r_rf_0, g2, z_in, z180, a2]
    · rw [decide_eq_false hl, zbi_f] at cc
      have q1 := r_types_n hI hT1 hx (fun h => hl h.2)
      refine ⟨2, 0, 0, 2, o, c, n, ca, fr, F, rS, rC, rM, rF, acts, D, R, T1, ?_, ?_, Or.inr (Or.inr ⟨rfl, rfl, by decide⟩), hH, hF0⟩
      · unfold f_X7_type
        simp (disch := omega) only [cs, z_bd, z_eq_f, cc, z_eq_t]
      · unfold f_X8_type
        simp (disch := omega) only [t1, rs, z_bd, z_jn, z_eq_t, z_eq_f, q1, r_rf_1]
theorem e_wrap {o c acts n ca fr rf x : Int} {rS rC rM D F R : Nat → Int} {rF : Nat → Nat → Int} (T : Nat → Int) (hH : zH o c rS rC rM rF acts D) (hF : zF n ca fr F R) (hx : -2147483648 ≤ x ∧ x ≤ 2147483647) : ∃ t v v' k o' c' n' ca' fr' F' rS' rC' rM' rF' acts' D' R' T', f_X7_wrap o c n ca fr F rS rC rM rF x = some (t, v, o', c', n', ca', fr', F', rS', rC', rM', rF') ∧ f_X8_wrap rf acts D R T x = some (v', k, acts', D', R', T') ∧ zag t k v v' 1 2 ∧ zH o' c' rS' rC' rM' rF' acts' D' ∧ zF n' ca' fr' F' R' := by
  obtain ⟨T1, t1, t2⟩ := r_trial T hF
  have hF0 := hF
  obtain ⟨A, S, B, hI, hC, hR⟩ := hF
  have hT1 := hR.congr t2
  by_cases hk : 1 ≤ x ∧ x ≤ 5
  · have cc := c_canStr hI hC
    cases hw : zwc A S B with
    | true =>
      rw [hw, zbi_t] at cc
      obtain ⟨n', ca', G', p1, p2⟩ := c_enclose hI hC hk hw
      obtain ⟨G, q1, q2⟩ := r_wraps_y hI hT1 hk hw
      have hw' := of_decide_eq_true hw
      have hI' := hI.wrap hk hw'.1 hw'.2
      have hN : zF n' ca' ca' G' G := ⟨zwA x A S, [], zwB x S B, hI', p2, q2⟩
      obtain ⟨o', c', rS', rC', rM', rF', acts', D', R', g1, g2, g3, g4, g5⟩ := e_take hH hF0 hN
      have hlen := hI'.len
      have h181 : R' 181 = ca' := by rw [g5 181 (by omega), q2.2.1, p2.2.1]
      have hca := p2.2.2
      refine ⟨0, ca', ca', 0, o', c', n', ca', ca', G', rS', rC', rM', rF', acts', D', R', G, ?_, ?_, Or.inl ⟨rfl, rfl, rfl, by omega⟩, g3, g4⟩
      · unfold f_X7_wrap
        simp (disch := omega) only [c_on_t, z_bd, z_eq_f, cc, g1, p1]
      · unfold f_X8_wrap
        simp (disch := omega) only [t1, z_bd, z_gR, r_in_t, z_jn, z_eq_t, z_eq_f, q1, r_rf_0, g2, z_in, z181, h181]
    | false =>
      rw [hw, zbi_f] at cc
      have q1 := r_wraps_n hI hT1 hk hw
      refine ⟨2, 0, 0, 2, o, c, n, ca, fr, F, rS, rC, rM, rF, acts, D, R, T1, ?_, ?_, Or.inr (Or.inr ⟨rfl, rfl, by decide⟩), hH, hF0⟩
      · unfold f_X7_wrap
        simp (disch := omega) only [c_on_t, z_bd, z_eq_f, cc, z_eq_t]
      · unfold f_X8_wrap
        simp (disch := omega) only [t1, z_bd, z_gR, r_in_t, z_jn, z_eq_t, z_eq_f, q1, r_rf_1]
  · refine ⟨1, 0, 0, 1, o, c, n, ca, fr, F, rS, rC, rM, rF, acts, D, R, T1, ?_, ?_, Or.inr (Or.inl ⟨rfl, rfl⟩), hH, hF0⟩
    · unfold f_X7_wrap
      simp (disch := omega) only [c_on_f, z_bd, z_eq_t]
    · unfold f_X8_wrap
      simp (disch := omega) only [t1, z_bd, z_gR, r_in_f, z_jn, z_eq_t, z_eq_f, r_rf_1]
theorem e_backspace {o c acts n ca fr rf : Int} {rS rC rM D F R : Nat → Int} {rF : Nat → Nat → Int} (T : Nat → Int) (hH : zH o c rS rC rM rF acts D) (hF : zF n ca fr F R) : ∃ t v v' k o' c' n' ca' fr' F' rS' rC' rM' rF' acts' D' R' T', f_X7_backspace o c n ca fr F rS rC rM rF = some (t, v, o', c', n', ca', fr', F', rS', rC', rM', rF') ∧ f_X8_backspace rf acts D R T = some (v', k, acts', D', R', T') ∧ zag t k v v' 2 9 ∧ zH o' c' rS' rC' rM' rF' acts' D' ∧ zF n' ca' fr' F' R' := by
  obtain ⟨T1, t1, t2⟩ := r_trial T hF
  have hF0 := hF
  obtain ⟨v0, a1, a2, a3, a4⟩ := e_all hF0
  obtain ⟨A, S, B, hI, hC, hR⟩ := hF
  have hT1 := hR.congr t2
  rcases e_backs hI hC hT1 with ⟨h1, h2⟩ | ⟨A', B', n', ca', F', G, h1, h2, h3, h4, h5, h6⟩
  · refine ⟨2, 0, 0, 1, o, c, n, ca, fr, F, rS, rC, rM, rF, acts, D, R, T1, ?_, ?_, Or.inr (Or.inl ⟨rfl, rfl⟩), hH, hF0⟩
    · unfold f_X7_backspace
      simp (disch := omega) only [h1, z_bd, z_eq_t]
    · unfold f_X8_backspace
      simp (disch := omega) only [t1, h2, z_bd, z_jn, z_eq_t, z_eq_f, r_rf_1]
  · have hN : zF n' ca' ca' F' G := ⟨A', [], B', h6, h4, h5⟩
    obtain ⟨o', c', rS', rC', rM', rF', acts', D', R', g1, g2, g3, g4, g5⟩ := e_take hH hF0 hN
    obtain ⟨v1, b1, b2, b3, b4⟩ := e_all g4
    refine ⟨0, v0 - v1, v0 - v1, 0, o', c', n', ca', ca', F', rS', rC', rM', rF', acts', D', R', G, ?_, ?_, Or.inl ⟨rfl, rfl, rfl, by omega⟩, g3, g4⟩
    · unfold f_X7_backspace
      simp (disch := omega) only [h1, z_bd, z_eq_f, g1, a1, h2, b1]
    · unfold f_X8_backspace
      simp (disch := omega) only [t1, h3, z_bd, z_jn, z_eq_t, z_eq_f, r_rf_0, z180, z_in, a2, g2, b2]
theorem e_paste {o c acts n ca fr rf cn : Int} {rS rC rM D F R Fc Rc : Nat → Int} {rF : Nat → Nat → Int} {Lc : List Int} (T : Nat → Int) (hH : zH o c rS rC rM rF acts D) (hF : zF n ca fr F R) (hK : zK Lc) (hCc : zCx 180 cn Fc Lc) (hRc : zRy 184 Rc Lc) : ∃ t v v' k o' c' n' ca' fr' F' rS' rC' rM' rF' acts' D' R' T', f_X7_paste cn o c n ca fr Fc F rS rC rM rF = some (t, v, o', c', n', ca', fr', F', rS', rC', rM', rF') ∧ f_X8_paste rf acts Rc D R T = some (v', k, acts', D', R', T') ∧ zag t k v v' 2 9 ∧ zH o' c' rS' rC' rM' rF' acts' D' ∧ zF n' ca' fr' F' R' := by
  obtain ⟨T1, t1, t2⟩ := r_trial T hF
  have hF0 := hF
  obtain ⟨A, S, B, hI, hC, hR⟩ := hF
  have hT1 := hR.congr t2
  obtain ⟨T2, d1, d2, -⟩ := r_clear hT1
  have hId := hI.del
  have hl := hId.len
  have hlv := hI.lv
  have hcl := hK.len
  have hcn : cn = (Lc.length : Int) := hCc.1.1
  have hrn : Rc 180 = (Lc.length : Int) := hRc.2.1
  have hT181 : T2 181 = (A.length : Int) := by have := d2.2.1; simpa using this
  have hT182 : T2 182 = -9 := d2.2.2
  have r1 := r_all d2.1.1 (A := []) (S := A ++ ([] ++ B)) (B := []) (by simp) (x := 0) (y := T2 180) rfl (by rw [d2.1.2.1]; simp)
  have r2 := r_all hRc.1 (A := []) (S := Lc) (B := []) (by simp) (x := 0) (y := Rc 180) rfl (by rw [hrn]; simp)
  have r3 := r_level d2.1.1 (A := A) (B := [] ++ B) rfl (x := T2 181) hT181
  have r4 := r_depth hRc.1 (A := []) (S := Lc) (B := []) (by simp) (x := 0) (y := Rc 180) rfl (by rw [hrn]; simp)
  have c1 := c_count hCc (A := []) (S := Lc) (B := []) (by simp) (x := 0) (y := cn) rfl (by rw [hcn]; simp)
  have c2 := c_depth hCc (A := []) (S := Lc) (B := []) (by simp) (x := 0) (y := cn) rfl (by rw [hcn]; simp)
  have hcK := hK.2.1
  have hpK := hK.2.2
  have hpK0 := zpk_0 Lc
  have hdel : A ++ ([] ++ B) = A ++ B := by simp
  rw [hdel] at r1
  have hzb := zcnt_b (A ++ B)
  have hcnd := hId.2.1
  rw [hdel] at hcnd
  have cch : f_X0_canHoldAll 180 n ca fr F cn Fc = some (zbi (decide ((zcnt (A ++ B) : Int) + zcnt Lc ≤ 60 ∧ zlv A + zmx 0 0 Lc ≤ 5))) := by
    unfold f_X0_canHoldAll f_X3_allItems
    rw [c1, z_bd, z_bd, c2, z_bd, c_ch hI hC (by unfold zpk at hpK hpK0; omega), z_bd]
    cases decide ((zcnt (A ++ B) : Int) + zcnt Lc ≤ 60 ∧ zlv A + zmx 0 0 Lc ≤ 5) <;> rfl
  have hp0S := zpk_0 S
  unfold zpk at hpK hpK0
  by_cases hn : Lc = []
  · have hn0 : Lc.length = 0 := by rw [hn]; rfl
    refine ⟨2, 0, 0, 1, o, c, n, ca, fr, F, rS, rC, rM, rF, acts, D, R, T2, ?_, ?_, Or.inr (Or.inl ⟨rfl, rfl⟩), hH, hF0⟩
    · unfold f_X7_paste
      simp (disch := omega) only [z_eq_t]
    · unfold f_X8_paste
      by_cases h1 : (zcnt (A ++ B) : Int) + zcnt Lc ≤ 60
      · by_cases h2 : zlv A + zmx 0 0 Lc ≤ 5
        · simp (disch := omega) only [t1, d1, z_bd, z_in, z180, z181, r1, r2, r3, r4, z_jn, z_lt_f, z_eq_f, r_rf_1]
        · simp (disch := omega) only [t1, d1, z_bd, z_in, z180, z181, r1, r2, r3, r4, z_jn, z_lt_f, z_lt_t, z_eq_f, r_rf_1]
      · simp (disch := omega) only [t1, d1, z_bd, z_in, z180, r1, r2, z_jn, z_lt_f, z_lt_t, z_eq_f, r_rf_1]
  · have hn0 : 0 < Lc.length := List.length_pos_iff.mpr hn
    by_cases hfit : (zcnt (A ++ B) : Int) + zcnt Lc ≤ 60 ∧ zlv A + zmx 0 0 Lc ≤ 5
    · rw [decide_eq_true hfit, zbi_t] at cch
      have hI' := hI.pst hK (by omega) hfit.2
      have hlen := hI'.len
      simp only [List.length_append, List.length_nil] at hlen
      obtain ⟨F1, p1, p2⟩ := c_rmSel hC
      obtain ⟨F2, p3, p4⟩ := c_insertAll (X := A) (Z := B) (by simpa using p2.1) hCc (x := fr) p2.2.2 (by omega)
      have cput : f_X0_putAll 180 n ca fr F cn Fc = some (n - S.length + cn, fr + cn, fr + cn, F2) := by
        unfold f_X0_putAll f_X0_putCaret
        rw [p1, z_bd, p3, z_bd, z_bd]
      have hCn : zCs (n - S.length + cn) (fr + cn) (fr + cn) F2 (A ++ Lc) [] B := ⟨by simpa using p4, by rw [hcn, hC.2.2]; simp, by rw [hcn, hC.2.2]; simp⟩
      obtain ⟨o', c', rS', rC', rM', rF', acts', D', n1, n2, n3⟩ := e_note hH hF0
      obtain ⟨G, s1, s2⟩ := r_ps_loop (A := A) (B := B) hRc (by omega) (e := fun (z17 : (Nat → Int) × Int) => bd (f_X8_take acts D R z17.1) (fun r18 => gIn 180 184 (bd (f_X8_allIn 184 r18.2.2 0 (r18.2.2 (180 : Int).toNat)) (fun r19 => some (r19, (0 : Int), r18.1, r18.2.1, r18.2.2, z17.1))))) Lc [] fuel T2 0 rfl (by simpa using d2.1) (by rw [hT181]; simp) hT182 (by unfold fuel; omega) rfl
      have hN : zF (n - S.length + cn) (fr + cn) (fr + cn) F2 G := ⟨A ++ Lc, [], B, hI', hCn, s2⟩
      obtain ⟨o', c', rS', rC', rM', rF', acts', D', R', g1, g2, g3, g4, g5⟩ := e_take hH hF0 hN
      obtain ⟨v1, b1, b2, b3, b4⟩ := e_all g4
      refine ⟨0, v1, v1, 0, o', c', _, _, _, F2, rS', rC', rM', rF', acts', D', R', G, ?_, ?_, Or.inl ⟨rfl, rfl, rfl, by omega⟩, g3, g4⟩
      · unfold f_X7_paste
        simp (disch := omega) only [z_eq_f, cch, z_bd, g1, cput, b1]
      · unfold f_X8_paste
        simp (disch := omega) only [t1, d1, z_bd, z_in, z180, z181, r1, r2, r3, r4, z_jn, z_lt_f, z_lt_t, z_eq_f, z_eq_t, r_rf_0]
        simp (disch := omega) only [z180, z_in, g2, b2, z_bd] at s1
        exact s1
    · rw [decide_eq_false hfit, zbi_f] at cch
      refine ⟨2, 0, 0, 1, o, c, n, ca, fr, F, rS, rC, rM, rF, acts, D, R, T2, ?_, ?_, Or.inr (Or.inl ⟨rfl, rfl⟩), hH, hF0⟩
      · unfold f_X7_paste
        simp (disch := omega) only [z_eq_f, z_eq_t, cch, z_bd]
      · unfold f_X8_paste
        by_cases h1 : (zcnt (A ++ B) : Int) + zcnt Lc ≤ 60
        · simp (disch := omega) only [t1, d1, z_bd, z_in, z180, z181, r1, r2, r3, r4, z_jn, z_lt_f, z_lt_t, z_eq_f, z_eq_t, r_rf_1]
        · simp (disch := omega) only [t1, d1, z_bd, z_in, z180, r1, r2, z_jn, z_lt_f, z_lt_t, z_eq_f, z_eq_t, r_rf_1]
theorem e_undo {o c acts n ca fr rf : Int} {rS rC rM D F R : Nat → Int} {rF : Nat → Nat → Int} (hH : zH o c rS rC rM rF acts D) (hF : zF n ca fr F R) : ∃ t v v' k c' n' ca' fr' F' acts' R', f_X7_undo o c n ca fr F rS rC rM rF = some (t, v, c', n', ca', fr', F') ∧ f_X8_undo rf acts D R = some (v', k, acts', R') ∧ zag t k v v' 2 9 ∧ zH o c' rS rC rM rF acts' D ∧ zF n' ca' fr' F' R' := by
  have hb := hH.1
  by_cases hc : c = 0
  · refine ⟨2, 0, 0, 1, c, n, ca, fr, F, acts, R, ?_, ?_, Or.inr (Or.inl ⟨rfl, rfl⟩), hH, hF⟩
    · unfold f_X7_undo
      simp (disch := omega) only [z_eq_t]
    · unfold f_X8_undo
      simp (disch := omega) only [z_jn, z_eq_t, z_eq_f, r_rf_1, z_bd]
  · obtain ⟨n', ca', fr', F', R', h1, h2, h3, h4⟩ := e_back (n := n) (ca := ca) (fr := fr) (F := F) (R := R) hH (by omega)
    refine ⟨0, c - 1, acts - 1, 0, c - 1, n', ca', fr', F', acts - 1, R', ?_, ?_, Or.inl ⟨rfl, rfl, by omega, by omega⟩, h4, h3⟩
    · unfold f_X7_undo
      simp (disch := omega) only [z_eq_f, h1, z_bd]
    · unfold f_X8_undo
      simp (disch := omega) only [z_jn, z_eq_t, z_eq_f, r_rf_0, z_bd, h2]
theorem e_replace {o c acts n ca fr rf x y : Int} {rS rC rM D F R : Nat → Int} {rF : Nat → Nat → Int} (hH : zH o c rS rC rM rF acts D) (hF : zF n ca fr F R) (hx : -2147483648 ≤ x ∧ x ≤ 2147483647) (hy : -2147483648 ≤ y ∧ y ≤ 2147483647) : ∃ t v v' k o' c' F' rS' rC' rM' rF' acts' D' R', f_X7_replace o c n ca fr F rS rC rM rF x y = some (t, v, o', c', F', rS', rC', rM', rF') ∧ f_X8_replace rf acts D R x y = some (v', k, acts', D', R') ∧ zag t k v v' 1 9 ∧ zH o' c' rS' rC' rM' rF' acts' D' ∧ zF n ca fr F' R' := by
  have cx := c_sy hx
  have cy := c_sy hy
  have rx := r_sy hx
  have ry := r_sy hy
  cases hsx : zsy x with
  | false =>
    rw [hsx, zbi_f] at cx rx
    refine ⟨1, 0, 0, 1, o, c, F, rS, rC, rM, rF, acts, D, R, ?_, ?_, Or.inr (Or.inl ⟨rfl, rfl⟩), hH, hF⟩
    · unfold f_X7_replace
      simp (disch := omega) only [cx, z_bd, z_jn, z_eq_t]
    · unfold f_X8_replace
      simp (disch := omega) only [rx, z_bd, z_jn, z_eq_t, z_eq_f, r_rf_1]
  | true =>
    rw [hsx, zbi_t] at cx rx
    cases hsy : zsy y with
    | false =>
      rw [hsy, zbi_f] at cy ry
      refine ⟨1, 0, 0, 1, o, c, F, rS, rC, rM, rF, acts, D, R, ?_, ?_, Or.inr (Or.inl ⟨rfl, rfl⟩), hH, hF⟩
      · unfold f_X7_replace
        simp (disch := omega) only [cx, cy, z_bd, z_jn, z_eq_t, z_eq_f]
      · unfold f_X8_replace
        simp (disch := omega) only [rx, ry, z_bd, z_jn, z_eq_t, z_eq_f, r_rf_1]
    | true =>
      rw [hsy, zbi_t] at cy ry
      obtain ⟨o', c', rS', rC', rM', rF', acts', D', n1, n2, n3⟩ := e_note hH hF
      obtain ⟨A, S, B, hI, hC, hR⟩ := hF
      have hc := zsy_b hsx
      have hd := zsy_b hsy
      obtain ⟨F', p1, p2⟩ := c_exchange hc hd hC.1
      have hl := hI.len
      obtain ⟨G, q1, q2, q3, q4⟩ := r_rp_loop hc hd (e := fun (z13 : (Nat → Int) × Int × Int) => some (z13.2.1, (0 : Int), acts', D', z13.1)) (A ++ (S ++ B)) [] fuel R 0 0 (by simpa using hR.1) (by unfold fuel; simp; omega) rfl (by simp)
      have hb := zxn_b x (A ++ (S ++ B))
      simp only [List.length_append] at hb
      have lxA := zxc_len x y A
      have lxS := zxc_len x y S
      simp only [List.nil_append] at q2
      rw [zxc_app, zxc_app] at p2 q2
      have hNF : zF n ca fr F' G := by
        refine ⟨zxc x y A, zxc x y S, zxc x y B, hI.xc (zsy_c hsx) (zsy_c hsy), ⟨p2, by rw [lxA, lxS]; exact hC.2.1, by rw [lxA]; exact hC.2.2⟩, ⟨q2, by rw [q3, lxA, lxS]; exact hR.2.1, ?_⟩⟩
        rw [q4, hR.2.2, lxA]
        by_cases hS : S = []
        · rw [if_pos hS, if_pos (zxc_nil.mpr hS)]
        · rw [if_neg hS, if_neg (fun h => hS (zxc_nil.mp h))]
      refine ⟨0, (zxn x (A ++ (S ++ B)) : Int), (zxn x (A ++ (S ++ B)) : Int), 0, o', c', F', rS', rC', rM', rF', acts', D', G, ?_, ?_, Or.inl ⟨rfl, rfl, rfl, by omega⟩, n3, hNF⟩
      · unfold f_X7_replace
        simp (disch := omega) only [cx, cy, z_bd, z_jn, z_eq_f, n1, p1]
      · unfold f_X8_replace
        simp (disch := omega) only [rx, ry, z_bd, z_jn, z_eq_t, z_eq_f, r_rf_0, n2]
        rw [q1]
        simp
