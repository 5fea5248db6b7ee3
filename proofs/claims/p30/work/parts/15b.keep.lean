/-! the save slots as calls -/
def zKp (fl n ca fr : Int) (F : Nat → Int) (kf : Int) (P : Nat → Int) : Prop := kf = fl ∧ (fl = 0 ∨ fl = 1) ∧ (fl = 1 → zF n ca fr F P)
theorem zKp.congr {fl n ca fr : Int} {F : Nat → Int} {kf kf' : Int} {P G : Nat → Int} (h : zKp fl n ca fr F kf P) (e : ∀ j, j < 184 → G j = P j) (hk : kf' = kf) : zKp fl n ca fr F kf' G := ⟨by rw [hk]; exact h.1, h.2.1, fun h1 => (h.2.2 h1).congr e⟩
theorem e_save {fl1 n ca fr fl2 n1 c1 f1 n2 c2 f2 rf x : Int} {F F1 F2 R K P : Nat → Int} (hF : zF n ca fr F R) (h1 : zKp fl1 n1 c1 f1 F1 (K 0) P) (h2 : zKp fl2 n2 c2 f2 F2 (K 1) (fun j => P (184 + j))) (hx : -2147483648 ≤ x ∧ x ≤ 2147483647) : ∃ t v v' k fl1' fl2' n1' c1' f1' n2' c2' f2' F1' F2' K' P', f_X7_save fl1 n ca fr fl2 n1 c1 f1 F n2 c2 f2 F1 F2 x = some (t, v, fl1', fl2', n1', c1', f1', n2', c2', f2', F1', F2') ∧ f_X8_save rf K P R x = some (v', k, K', P') ∧ zag t k v v' 3 9 ∧ zKp fl1' n1' c1' f1' F1' (K' 0) P' ∧ zKp fl2' n2' c2' f2' F2' (K' 1) (fun j => P' (184 + j)) := by
  obtain ⟨v, a1, a2, a3, a4⟩ := e_all hF
  by_cases hr : 0 ≤ x ∧ x ≤ 1
  · have hx01 : x = 0 ∨ x = 1 := by omega
    rcases hx01 with rfl | rfl
    · obtain ⟨G, b1, b2⟩ := c_become (n1 := n1) (c1 := c1) (f1 := f1) (F := F1) hF
      have cp := r_copyPage (N := 184) (N2 := 368) (F := R) (F2 := P) (x1 := 0) (x3 := 184 * 0) (by omega) (by omega)
      refine ⟨0, v, v, 0, 1, fl2, n, ca, fr, n2, c2, f2, G, F2, va_up K (0 : Int).toNat 1, va_cpy R P (0 : Int).toNat (184 * 0 : Int).toNat 184, ?_, ?_, Or.inl ⟨rfl, rfl, rfl, by omega⟩, ⟨rfl, Or.inr rfl, fun _ => b2.congr (fun j hj => ?_)⟩, h2.congr (fun j hj => ?_) ?_⟩
      · unfold f_X7_save
        simp (disch := omega) only [z_jn, z_lt_f, z_eq_t, b1, z_bd, z_gB, a1]
      · unfold f_X8_save
        simp (disch := omega) only [z_gR, r_in_t, z_bd, z_jn, z_eq_f, z_eq_t, r_rf_0, z_in, z_gB, cp, z180, a2]
      · have := r_cpk (N2 := 0) (F := R) (F2 := P) (x1 := 0) (x3 := 0) hj
        simpa using this
      · show va_cpy R P 0 0 184 (184 + j) = P (184 + j)
        simp only [va_cpy]
        rw [if_neg (by omega)]
      · show va_up K 0 1 1 = K 1
        rw [zup_ne (by omega)]
    · obtain ⟨G, b1, b2⟩ := c_become (n1 := n2) (c1 := c2) (f1 := f2) (F := F2) hF
      have cp := r_copyPage (N := 184) (N2 := 368) (F := R) (F2 := P) (x1 := 0) (x3 := 184 * 1) (by omega) (by omega)
      refine ⟨0, v, v, 0, fl1, 1, n1, c1, f1, n, ca, fr, F1, G, va_up K (1 : Int).toNat 1, va_cpy R P (0 : Int).toNat (184 * 1 : Int).toNat 184, ?_, ?_, Or.inl ⟨rfl, rfl, rfl, by omega⟩, h1.congr (fun j hj => ?_) ?_, ⟨rfl, Or.inr rfl, fun _ => b2.congr (fun j hj => ?_)⟩⟩
      · unfold f_X7_save
        simp (disch := omega) only [z_jn, z_lt_f, z_eq_f, b1, z_bd, z_gB, a1]
      · unfold f_X8_save
        simp (disch := omega) only [z_gR, r_in_t, z_bd, z_jn, z_eq_f, z_eq_t, r_rf_0, z_in, z_gB, cp, z180, a2]
      · show va_cpy R P 0 184 184 j = P j
        simp only [va_cpy]
        rw [if_neg (by omega)]
      · show va_up K 1 1 0 = K 0
        rw [zup_ne (by omega)]
      · have := r_cpk (N2 := 0) (F := R) (F2 := P) (x1 := 0) (x3 := 184) hj
        simpa using this
  · refine ⟨3, 0, 0, 1, fl1, fl2, n1, c1, f1, n2, c2, f2, F1, F2, K, P, ?_, ?_, Or.inr (Or.inl ⟨rfl, rfl⟩), h1, h2⟩
    · unfold f_X7_save
      by_cases h0 : x < 0
      · simp (disch := omega) only [z_jn, z_lt_t]
      · simp (disch := omega) only [z_jn, z_lt_f, z_lt_t]
    · unfold f_X8_save
      simp (disch := omega) only [z_gR, r_in_f, z_bd, z_jn, z_eq_t, z_eq_f, r_rf_1]
theorem zH.none {o c acts : Int} {rS rC rM D : Nat → Int} {rF : Nat → Nat → Int} (h : zH o c rS rC rM rF acts D) : zH o 0 rS rC rM rF 0 D := ⟨⟨h.1.1, h.1.2.1, by omega, by omega, rfl⟩, fun i hi => by omega⟩
theorem e_restore {fl1 n ca fr fl2 n1 c1 f1 n2 c2 f2 rf x o c acts : Int} {F F1 F2 R K P rS rC rM D : Nat → Int} {rF : Nat → Nat → Int} (hH : zH o c rS rC rM rF acts D) (hF : zF n ca fr F R) (h1 : zKp fl1 n1 c1 f1 F1 (K 0) P) (h2 : zKp fl2 n2 c2 f2 F2 (K 1) (fun j => P (184 + j))) (hx : -2147483648 ≤ x ∧ x ≤ 2147483647) : ∃ t v v' k c' n' ca' fr' F' acts' R', f_X7_restore fl1 c n ca fr fl2 n1 c1 f1 F n2 c2 f2 F1 F2 x = some (t, v, c', n', ca', fr', F') ∧ f_X8_restore rf acts K P R x = some (v', k, acts', R') ∧ zag t k v v' 3 2 ∧ zH o c' rS rC rM rF acts' D ∧ zF n' ca' fr' F' R' := by
  by_cases hr : 0 ≤ x ∧ x ≤ 1
  · have hx01 : x = 0 ∨ x = 1 := by omega
    rcases hx01 with rfl | rfl
    · have e0 : (0 : Int).toNat = 0 := rfl
      rcases h1.2.1 with hf | hf
      · have hk : K 0 = 0 := by rw [h1.1, hf]
        refine ⟨2, 0, 0, 2, c, n, ca, fr, F, acts, R, ?_, ?_, Or.inr (Or.inr ⟨rfl, rfl, by decide⟩), hH, hF⟩
        · unfold f_X7_restore
          simp (disch := omega) only [z_jn, z_lt_f, z_eq_t]
        · unfold f_X8_restore
          simp (disch := omega) only [z_gR, r_in_t, z_bd, z_jn, z_eq_f, z_eq_t, z_in, e0, hk, r_rf_1]
      · have hk : K 0 = 1 := by rw [h1.1, hf]
        have hF1 := h1.2.2 hf
        obtain ⟨G, b1, b2⟩ := c_become (n1 := n) (c1 := ca) (f1 := fr) (F := F) hF1
        have cp := r_copyPage (N := 368) (N2 := 184) (F := P) (F2 := R) (x1 := 184 * 0) (x3 := 0) (by omega) (by omega)
        have hN : zF n1 c1 f1 G (va_cpy P R (184 * 0 : Int).toNat (0 : Int).toNat 184) := b2.congr (fun j hj => by
          have := r_cpk (N2 := 0) (F := P) (F2 := R) (x1 := 0) (x3 := 0) hj
          simpa using this)
        obtain ⟨v, a1, a2, a3, a4⟩ := e_all hN
        refine ⟨0, v, v, 0, 0, n1, c1, f1, G, 0, _, ?_, ?_, Or.inl ⟨rfl, rfl, rfl, by omega⟩, hH.none, hN⟩
        · unfold f_X7_restore f_X1_forget
          simp (disch := omega) only [z_jn, z_lt_f, z_eq_t, z_eq_f, b1, z_bd, a1]
        · unfold f_X8_restore
          simp (disch := omega) only [z_gR, r_in_t, z_bd, z_jn, z_eq_f, z_eq_t, z_in, e0, hk, r_rf_0, cp]
          simp only [e0] at a2
          simp (disch := omega) only [z180, a2, z_bd]
    · have e1 : (1 : Int).toNat = 1 := rfl
      rcases h2.2.1 with hf | hf
      · have hk : K 1 = 0 := by rw [h2.1, hf]
        refine ⟨2, 0, 0, 2, c, n, ca, fr, F, acts, R, ?_, ?_, Or.inr (Or.inr ⟨rfl, rfl, by decide⟩), hH, hF⟩
        · unfold f_X7_restore
          simp (disch := omega) only [z_jn, z_lt_f, z_eq_t, z_eq_f]
        · unfold f_X8_restore
          simp (disch := omega) only [z_gR, r_in_t, z_bd, z_jn, z_eq_f, z_eq_t, z_in, e1, hk, r_rf_1]
      · have hk : K 1 = 1 := by rw [h2.1, hf]
        have hF1 := h2.2.2 hf
        obtain ⟨G, b1, b2⟩ := c_become (n1 := n) (c1 := ca) (f1 := fr) (F := F) hF1
        have cp := r_copyPage (N := 368) (N2 := 184) (F := P) (F2 := R) (x1 := 184 * 1) (x3 := 0) (by omega) (by omega)
        have hN : zF n2 c2 f2 G (va_cpy P R (184 * 1 : Int).toNat (0 : Int).toNat 184) := b2.congr (fun j hj => by
          have := r_cpk (N2 := 0) (F := P) (F2 := R) (x1 := 184) (x3 := 0) hj
          simpa using this)
        obtain ⟨v, a1, a2, a3, a4⟩ := e_all hN
        refine ⟨0, v, v, 0, 0, n2, c2, f2, G, 0, _, ?_, ?_, Or.inl ⟨rfl, rfl, rfl, by omega⟩, hH.none, hN⟩
        · unfold f_X7_restore f_X1_forget
          simp (disch := omega) only [z_jn, z_lt_f, z_eq_f, b1, z_bd, a1]
        · unfold f_X8_restore
          simp (disch := omega) only [z_gR, r_in_t, z_bd, z_jn, z_eq_f, z_eq_t, z_in, e1, hk, r_rf_0, cp]
          simp (disch := omega) only [z180, a2, z_bd]
  · refine ⟨3, 0, 0, 1, c, n, ca, fr, F, acts, R, ?_, ?_, Or.inr (Or.inl ⟨rfl, rfl⟩), hH, hF⟩
    · unfold f_X7_restore
      by_cases h0 : x < 0
      · simp (disch := omega) only [z_jn, z_lt_t]
      · simp (disch := omega) only [z_jn, z_lt_f, z_lt_t]
    · unfold f_X8_restore
      simp (disch := omega) only [z_gR, r_in_f, z_bd, z_jn, z_eq_t, z_eq_f, r_rf_1]
