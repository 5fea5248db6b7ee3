/-! scripts -/
theorem r_inL_t {x a b : Int} (h : (-9223372036854775808 ≤ a ∧ b ≤ 9223372036854775807) ∧ a ≤ x ∧ x ≤ b) : f_X8_in x a b = some 1 := by
  unfold f_X8_in
  simp (disch := omega) only [z_dlt_f, z_jn, z_gB]
theorem zgrp {s : Int} (hs : 0 ≤ s ∧ s ≤ 9223372036854775807) {g : Nat} (hg : g ≤ 3) : zdv g s = s / ztp (4 * g) 1 ∧ 1 ≤ ztp (4 * g) 1 ∧ ztp (4 * g) 1 ≤ 1000000000000 ∧ 0 ≤ zdv g s ∧ zdv g s ≤ 9223372036854775807 := by
  have hg' : g = 0 ∨ g = 1 ∨ g = 2 ∨ g = 3 := by omega
  have p0 : ztp (4 * 0) 1 = 1 := by decide
  have p1 : ztp (4 * 1) 1 = 10000 := by decide
  have p2 : ztp (4 * 2) 1 = 100000000 := by decide
  have p3 : ztp (4 * 3) 1 = 1000000000000 := by decide
  have q0 : zdv 0 s = s := rfl
  have q1 : zdv 1 s = s / 10000 := rfl
  have q2 : zdv 2 s = s / 10000 / 10000 := rfl
  have q3 : zdv 3 s = s / 10000 / 10000 / 10000 := rfl
  rcases hg' with h | h | h | h <;> subst h
  · rw [p0, q0]; omega
  · rw [p1, q1]; omega
  · rw [p2, q2]; omega
  · rw [p3, q3]; omega
theorem zgrpn {s n : Int} (hn : 1 ≤ n ∧ n ≤ 4) (hs : 0 ≤ s ∧ s ≤ 9223372036854775807) : (zdv n.toNat s ≤ 0 ↔ s ≤ ztp (4 * n).toNat 1 - 1) ∧ 0 ≤ zdv n.toNat s ∧ zdv n.toNat s ≤ 9223372036854775807 ∧ 1 ≤ ztp (4 * n).toNat 1 ∧ ztp (4 * n).toNat 1 ≤ 10000000000000000 := by
  have hn' : n = 1 ∨ n = 2 ∨ n = 3 ∨ n = 4 := by omega
  have p1 : ztp (4 * 1 : Int).toNat 1 = 10000 := by decide
  have p2 : ztp (4 * 2 : Int).toNat 1 = 100000000 := by decide
  have p3 : ztp (4 * 3 : Int).toNat 1 = 1000000000000 := by decide
  have p4 : ztp (4 * 4 : Int).toNat 1 = 10000000000000000 := by decide
  have q1 : (1 : Int).toNat = 1 := by decide
  have q2 : (2 : Int).toNat = 2 := by decide
  have q3 : (3 : Int).toNat = 3 := by decide
  have q4 : (4 : Int).toNat = 4 := by decide
  rcases hn' with h | h | h | h <;> subst h
  · rw [p1, q1]; simp only [zdv]; omega
  · rw [p2, q2]; simp only [zdv]; omega
  · rw [p3, q3]; simp only [zdv]; omega
  · rw [p4, q4]; simp only [zdv]; omega
set_option maxHeartbeats 1000000 in
theorem e_run {n0 c0 f0 : Int} {F0 R0 : Nat → Int} {n s : Int} (hn : 1 ≤ n ∧ n ≤ 4) (hs : 0 ≤ s ∧ s ≤ 9223372036854775807) {e : Int × Int × Int × (Nat → Int) × (Nat → Int) × (Nat → Int) × (Nat → Int) × Int → Option (Int × Int × Int × Int × Int × (Nat → Int) × (Nat → Int) × (Nat → Int) × (Nat → Int))} {e2 : Int × (Nat → Int) × (Nat → Int) × (Nat → Int) × (Nat → Int) × (Nat → Int) × Int → Option (Int × Int × (Nat → Int) × (Nat → Int) × (Nat → Int) × (Nat → Int) × (Nat → Int))} {rf : Int} : ∀ (r fu1 fu2 : Nat) (i tn tc tf : Int) (a b w F hi iw lo G wi : Nat → Int), i = n - (r : Int) → r < fu1 → r < fu2 → (r : Int) ≤ n → zF tn tc tf F G → ∃ tn' tc' tf' a' b' w' F' hi' iw' lo' G' wi', zF tn' tc' tf' F' G' ∧ ((f_X7_runScript_62 n0 c0 f0 F0 n s e fu1 tn tc tf a b w F i = e (tn', tc', tf', a', b', w', F', n) ∧ f_X8_runScript_58 R0 n s e2 fu2 rf hi iw lo G wi i = e2 (rf, hi', iw', lo', G', wi', n)) ∨ ∃ y, 0 ≤ y ∧ y ≤ 3 ∧ f_X7_runScript_62 n0 c0 f0 F0 n s e fu1 tn tc tf a b w F i = some (0, y, tn', tc', tf', a', b', w', F') ∧ f_X8_runScript_58 R0 n s e2 fu2 rf hi iw lo G wi i = some (y, rf, hi', iw', lo', G', wi'))
  | r, 0, fu2, i, tn, tc, tf, a, b, w, F, hi, iw, lo, G, wi, hi0, h1, h2, hr, hF => by omega
  | r, fu1 + 1, 0, i, tn, tc, tf, a, b, w, F, hi, iw, lo, G, wi, hi0, h1, h2, hr, hF => by omega
  | 0, fu1 + 1, fu2 + 1, i, tn, tc, tf, a, b, w, F, hi, iw, lo, G, wi, hi0, h1, h2, hr, hF => by
    have : i = n := by omega
    subst this
    refine ⟨tn, tc, tf, a, b, w, F, hi, iw, lo, G, wi, hF, Or.inl ⟨?_, ?_⟩⟩
    · simp (disch := omega) only [f_X7_runScript_62, z_lt_f]
    · simp (disch := omega) only [f_X8_runScript_58, z_lt_f]
  | r + 1, fu1 + 1, fu2 + 1, i, tn, tc, tf, a, b, w, F, hi, iw, lo, G, wi, hi0, h1, h2, hr, hF => by
    have hg : (n - 1 - i) = (r : Int) := by omega
    have hr3 : r ≤ 3 := by omega
    have z1 := zgrp hs hr3
    have w1 := c_without (g := n - 1 - i) (y := s) (by omega) hs.1 hs.2
    have w2 := r_tenTo (g := 4 * (n - 1 - i)) (by omega)
    rw [show (n - 1 - i).toNat = r by omega] at w1
    rw [show (4 * (n - 1 - i)).toNat = 4 * r by omega] at w2
    have d1 : s.tdiv (ztp (4 * r) 1) = zdv r s := by rw [z1.1]; exact ztdiv hs.1
    have p0 : ¬ (ztp (4 * r) 1 = 0) := by omega
    have z2 := z1.2
    generalize zdv r s = q at *
    have m1 : q.tmod 10000 = q % 10000 := Int.tmod_eq_emod_of_nonneg z2.2.2.1
    obtain ⟨ok, n', ca', fr', a', b', w', F', G', hi', iw', lo', wi', o1, o2, o3, o4⟩ := e_does (v := q % 10000) (w := w) (a := a) (b := b) (hi := hi) (iw := iw) (lo := lo) (wi := wi) hF (by omega)
    generalize hv : q % 10000 = v at *
    have hv2 : 0 ≤ v ∧ v ≤ 9999 := by omega
    have m2 : v.tdiv 100 = v / 100 := ztdiv hv2.1
    have m3 : v.tdiv 1000 = v / 1000 := ztdiv hv2.1
    have m4 : (v / 100).tmod 10 = v / 100 % 10 := Int.tmod_eq_emod_of_nonneg (by omega)
    have m5 : v.tmod 100 = v % 100 := Int.tmod_eq_emod_of_nonneg hv2.1
    have cl : f_X7_runScript_62 n0 c0 f0 F0 n s e (fu1 + 1) tn tc tf a b w F i = cEq ok 0 (some (0, i, n', ca', fr', a', b', w', F')) (f_X7_runScript_62 n0 c0 f0 F0 n s e fu1 n' ca' fr' a' b' w' F' (i + 1)) := by
      simp (disch := omega) only [f_X7_runScript_62, z_lt_t, w1, z_bd, z_gL, m1]
      rw [if_neg (by decide), o1]
      simp only [z_bd]
    have rl : f_X8_runScript_58 R0 n s e2 (fu2 + 1) rf hi iw lo G wi i = cEq ok 0 (some (i, rf, hi', iw', lo', G', wi')) (f_X8_runScript_58 R0 n s e2 fu2 rf hi' iw' lo' G' wi' (i + 1)) := by
      simp (disch := omega) only [f_X8_runScript_58, z_lt_t, w2, z_bd, z_gL]
      rw [if_neg p0]
      simp (disch := omega) only [d1, z_gL, m1]
      rw [if_neg (by decide)]
      simp (disch := omega) only [m2, m3, m4, m5, z_gR, o2, z_bd]
    rcases o4 with o4 | o4
    · rw [cl, rl, z_eq_t (a := ok) (b := 0) (by omega), z_eq_t (a := ok) (b := 0) (by omega)]
      exact ⟨n', ca', fr', a', b', w', F', hi', iw', lo', G', wi', o3, Or.inr ⟨i, by omega, by omega, rfl, rfl⟩⟩
    · rw [cl, rl, z_eq_f (a := ok) (b := 0) (by omega), z_eq_f (a := ok) (b := 0) (by omega)]
      exact e_run hn hs r fu1 fu2 (i + 1) n' ca' fr' a' b' w' F' hi' iw' lo' G' wi' (by omega) (by omega) (by omega) (by omega) o3
theorem e_runScript {n ca fr tn tc tf rf x s : Int} {F R F2 R2 a b w hi iw lo wi : Nat → Int} (hF : zF n ca fr F R) (hx : -2147483648 ≤ x ∧ x ≤ 2147483647) (hs : -9223372036854775808 ≤ s ∧ s ≤ 9223372036854775807) : ∃ t v v' k tn' tc' tf' a' b' w' F2' hi' iw' lo' R2' wi', f_X7_runScript n ca fr tn tc tf F a b w F2 x s = some (t, v, tn', tc', tf', a', b', w', F2') ∧ f_X8_runScript rf hi iw lo R R2 wi x s = some (v', k, hi', iw', lo', R2', wi') ∧ zag t k v v' 1 9 := by
  by_cases h : 1 ≤ x ∧ x ≤ 4
  · by_cases h0 : 0 ≤ s
    · have hz := zgrpn h ⟨h0, hs.2⟩
      have w1 := c_without (g := x) (y := s) (by omega) h0 hs.2
      have w2 := r_tenTo (g := 4 * x) (by omega)
      generalize zdv x.toNat s = q at *
      generalize ztp (4 * x).toNat 1 = p at *
      obtain ⟨hz1, hz2, hz3, hz4, hz5⟩ := hz
      by_cases h1 : q ≤ 0
      · have h1' := hz1.1 h1
        obtain ⟨F3, b1, b2⟩ := c_become (n1 := tn) (c1 := tc) (f1 := tf) (F := F2) hF
        obtain ⟨T', t1, t2⟩ := r_trial R2 hF
        have hF3 := b2.congr t2
        obtain ⟨tn', tc', tf', a', b', w', F', hi', iw', lo', G', wi', o1, o2⟩ := e_run (n0 := n) (c0 := ca) (f0 := fr) (F0 := F) (R0 := R) (rf := 0) h ⟨h0, hs.2⟩ (e := fun (z7 : Int × Int × Int × (Nat → Int) × (Nat → Int) × (Nat → Int) × (Nat → Int) × Int) => some (0, (-9), z7.1, z7.2.1, z7.2.2.1, z7.2.2.2.1, z7.2.2.2.2.1, z7.2.2.2.2.2.1, z7.2.2.2.2.2.2.1)) (e2 := fun (z12 : Int × (Nat → Int) × (Nat → Int) × (Nat → Int) × (Nat → Int) × (Nat → Int) × Int) => some ((-9), z12.1, z12.2.1, z12.2.2.1, z12.2.2.2.1, z12.2.2.2.2.1, z12.2.2.2.2.2.1)) x.toNat fuel fuel 0 n ca fr a b w F3 hi iw lo T' wi (by omega) (by unfold fuel; omega) (by unfold fuel; omega) (by omega) hF3
        have cl : ∀ Z, f_X7_runScript_62 n ca fr F x s (fun (z7 : Int × Int × Int × (Nat → Int) × (Nat → Int) × (Nat → Int) × (Nat → Int) × Int) => some (0, (-9), z7.1, z7.2.1, z7.2.2.1, z7.2.2.2.1, z7.2.2.2.2.1, z7.2.2.2.2.2.1, z7.2.2.2.2.2.2.1)) fuel n ca fr a b w F3 0 = Z → f_X7_runScript n ca fr tn tc tf F a b w F2 x s = Z := by
          intro Z hZ
          unfold f_X7_runScript
          simp (disch := omega) only [z_jn, z_lt_f, z_dlt_f, w1, z_bd, b1]
          exact hZ
        have rl : ∀ Z, f_X8_runScript_58 R x s (fun (z12 : Int × (Nat → Int) × (Nat → Int) × (Nat → Int) × (Nat → Int) × (Nat → Int) × Int) => some ((-9), z12.1, z12.2.1, z12.2.2.1, z12.2.2.2.1, z12.2.2.2.2.1, z12.2.2.2.2.2.1)) fuel 0 hi iw lo T' wi 0 = Z → f_X8_runScript rf hi iw lo R R2 wi x s = Z := by
          intro Z hZ
          have i1 := r_in_t (x := x) (a := 1) (b := 4) (by omega)
          have i2 := r_inL_t (x := s) (a := 0) (b := p - 1) (by omega)
          unfold f_X8_runScript
          simp (disch := omega) only [z_gR, i1, w2, i2, z_jn, z_eq_f, z_eq_t, z_bd, r_rf_0, t1]
          exact hZ
        rcases o2 with ⟨p1, p2⟩ | ⟨y, y0, y1, p1, p2⟩
        · exact ⟨_, _, _, _, _, _, _, _, _, _, _, _, _, _, _, _, cl _ p1, rl _ p2, Or.inl ⟨rfl, rfl, rfl, by omega, by omega⟩⟩
        · exact ⟨_, _, _, _, _, _, _, _, _, _, _, _, _, _, _, _, cl _ p1, rl _ p2, Or.inl ⟨rfl, rfl, rfl, by omega, by omega⟩⟩
      · have h1' : ¬ (s ≤ p - 1) := fun hh => h1 (hz1.2 hh)
        have i1 := r_in_t (x := x) (a := 1) (b := 4) (by omega)
        have i2 := r_in_f (x := s) (a := 0) (b := p - 1) (by omega)
        have i3 := r_rf_1 (a := rf) (k := 1) (Or.inl rfl)
        refine ⟨1, 0, 0, 1, tn, tc, tf, a, b, w, F2, hi, iw, lo, R2, wi, ?_, ?_, Or.inr (Or.inl ⟨rfl, rfl⟩)⟩
        · unfold f_X7_runScript
          simp (disch := omega) only [z_jn, z_lt_f, z_dlt_f, z_dlt_t, w1, z_bd]
        · unfold f_X8_runScript
          simp (disch := omega) only [z_gR, i1, w2, i2, i3, z_jn, z_eq_f, z_eq_t, z_bd]
    · have w2 := r_tenTo (g := 4 * x) (by omega)
      have hz := zgrpn (s := 0) h (by omega)
      generalize ztp (4 * x).toNat 1 = p at *
      have i1 := r_in_t (x := x) (a := 1) (b := 4) (by omega)
      have i2 := r_in_f (x := s) (a := 0) (b := p - 1) (by omega)
      have i3 := r_rf_1 (a := rf) (k := 1) (Or.inl rfl)
      refine ⟨1, 0, 0, 1, tn, tc, tf, a, b, w, F2, hi, iw, lo, R2, wi, ?_, ?_, Or.inr (Or.inl ⟨rfl, rfl⟩)⟩
      · unfold f_X7_runScript
        simp (disch := omega) only [z_jn, z_lt_f, z_dlt_t]
      · unfold f_X8_runScript
        simp (disch := omega) only [z_gR, i1, w2, i2, i3, z_jn, z_eq_f, z_eq_t, z_bd]
  · have i1 := r_in_f (x := x) (a := 1) (b := 4) (by omega)
    have i3 := r_rf_1 (a := rf) (k := 1) (Or.inl rfl)
    refine ⟨1, 0, 0, 1, tn, tc, tf, a, b, w, F2, hi, iw, lo, R2, wi, ?_, ?_, Or.inr (Or.inl ⟨rfl, rfl⟩)⟩
    · unfold f_X7_runScript
      by_cases h3 : x < 1
      · simp (disch := omega) only [z_jn, z_lt_t]
      · simp (disch := omega) only [z_jn, z_lt_f, z_lt_t]
    · unfold f_X8_runScript
      simp (disch := omega) only [z_gR, i1, i3, z_jn, z_eq_t, z_eq_f, z_bd]
