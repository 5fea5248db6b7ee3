/-! the clipboard; replacing; pasting -/
theorem zR_app {F : Nat → Int} {X : List Int} {m : Int} (h : zR F X) : zR (va_up F X.length (zr m)) (X ++ [m]) := by
  rw [zR_iff] at h ⊢
  intro i hi
  simp only [List.length_append, List.length_cons, List.length_nil] at hi
  simp only [va_up]
  rw [zg_app]
  by_cases h2 : i < X.length
  · rw [if_neg (by omega), if_pos h2, h i h2]
  · have : i = X.length := by omega
    subst this
    simp
theorem r_cy_loop {R : Nat → Int} {A S B : List Int} (hR : zRy 184 R (A ++ (S ++ B))) (h182 : R 182 = (A.length : Int)) {e : (Nat → Int) × Int → Option (Int × Int × (Nat → Int))} : ∀ (T D : List Int) (fu : Nat) (C : Nat → Int) (y : Int), S = D ++ T → zR C D → C 180 = (S.length : Int) → T.length < fu → y = (D.length : Int) → ∃ C', f_X8_copy_54 R e fu C y = e (C', (S.length : Int)) ∧ zR C' S ∧ C' 180 = (S.length : Int)
  | _, _, 0, _, _, _, _, _, hf, _ => by omega
  | [], D, fu + 1, C, y, hS, hD, h180, hf, hy => by
    have hl : S.length = D.length := by rw [hS]; simp
    have h1 := hR.2.2
    simp only [List.length_append] at h1
    refine ⟨C, ?_, by rw [hS]; simpa using hD, h180⟩
    simp (disch := omega) only [f_X8_copy_54, z_in, z180, h180, z_lt_f]
    rw [show y = (S.length : Int) by omega]
  | m :: T, D, fu + 1, C, y, hS, hD, h180, hf, hy => by
    have hl : S.length = D.length + (T.length + 1) := by rw [hS]; simp
    have h1 := hR.2.2
    simp only [List.length_append] at h1
    simp only [List.length_cons] at hf
    obtain ⟨hm, -, -⟩ := hR.1.at (A := A ++ D) (m := m) (T := T ++ B) (by rw [hS]; simp) (x := (A.length : Int) + y) (by simp; omega)
    have ey : y.toNat = D.length := by omega
    obtain ⟨C', c1, c2, c3⟩ := r_cy_loop hR h182 (e := e) T (D ++ [m]) fu (va_up C D.length (zr m)) (y + 1) (by rw [hS]; simp) (zR_app hD) (by rw [zup_ne (by omega)]; exact h180) (by omega) (by simp; omega)
    refine ⟨C', ?_, c2, c3⟩
    simp (disch := omega) only [f_X8_copy_54, z_in, z180, z182, h180, h182, z_lt_t, hm, ey, c1]
theorem e_copy {n ca fr rf cn : Int} {F R Fc Rc : Nat → Int} {A S B Lc : List Int} (hI : zI A S B) (hC : zCs n ca fr F A S B) (hR : zRs R A S B) (hK : zK Lc) (hCc : zCx 180 cn Fc Lc) (hRc : zRy 184 Rc Lc) : ∃ t v v' k cn' Fc' Rc', f_X7_copy cn ca fr Fc F = some (t, v, cn', Fc') ∧ f_X8_copy rf Rc R = some (v', k, Rc') ∧ zag t k v v' 2 9 ∧ ∃ Lc', zK Lc' ∧ zCx 180 cn' Fc' Lc' ∧ zRy 184 Rc' Lc' := by
  have hl := hI.len
  have hs := c_hasSel hC
  by_cases hS : S = []
  · rw [show decide (S ≠ []) = false from decide_eq_false (fun h => h hS), zbi_f] at hs
    have h182 : R 182 = -9 := by have := hR.2.2; rwa [if_pos hS] at this
    refine ⟨2, 0, 0, 1, cn, Fc, Rc, ?_, ?_, Or.inr (Or.inl ⟨rfl, rfl⟩), Lc, hK, hCc, hRc⟩
    · unfold f_X7_copy
      simp (disch := omega) only [hs, z_bd, z_eq_t]
    · unfold f_X8_copy
      simp (disch := omega) only [z182, h182, z_in, z_jn, z_eq_t, z_eq_f, r_rf_1, z_bd]
  · rw [show decide (S ≠ []) = true from decide_eq_true hS, zbi_t] at hs
    have h182 : R 182 = (A.length : Int) := by have := hR.2.2; rwa [if_neg hS] at this
    have h181 : R 181 = (A.length : Int) + S.length := hR.2.1
    have hSv : ∀ m ∈ S, zv m := zrun_v hI.1.2
    have hv := hI.lv
    have hK' : zK S := ⟨hI.1.2, by have := hI.2.1; simp only [zcnt_app] at this; omega, by omega⟩
    obtain ⟨G, t1, t2⟩ := c_take (N := 180) (n := cn) (F := Fc) hC.1 (x := fr) (y := ca) hC.2.2 hC.2.1 (by omega) (by omega)
    have e1 := c_count t2 (A := []) (S := S) (B := []) (by simp) (x := 0) (y := (S.length : Int)) rfl (by simp)
    obtain ⟨C', c1, c2, c3⟩ := r_cy_loop hR.1 h182 (e := fun (z4 : (Nat → Int) × Int) => gIn 180 184 (bd (f_X8_allIn 184 z4.1 0 (z4.1 (180 : Int).toNat)) (fun r5 => some (r5, (0 : Int), z4.1)))) S [] fuel (va_up Rc 180 (S.length : Int)) 0 rfl (by intro X m T e; simp at e) zup_eq (by unfold fuel; omega) rfl
    have hRy' : zRy 184 C' S := ⟨⟨⟨by omega, by omega⟩, c2, hSv, by omega⟩, c3, by omega, by omega⟩
    have e2 := r_all hRy'.1 (A := []) (S := S) (B := []) (by simp) (x := 0) (y := (S.length : Int)) rfl (by simp)
    have hb := zcnt_b S
    refine ⟨0, (zcnt S : Int), (zcnt S : Int), 0, (S.length : Int), G, C', ?_, ?_, Or.inl ⟨rfl, rfl, rfl, by omega⟩, S, hK', t2, hRy'⟩
    · unfold f_X7_copy
      simp (disch := omega) only [hs, z_bd, z_eq_f, t1, e1]
    · have e3 : R 181 - R 182 = (S.length : Int) := by omega
      unfold f_X8_copy
      simp (disch := omega) only [z180, z181, z182, z_in, z_jn, z_eq_f, r_rf_0, z_bd, e3, z_eq_t]
      simp (disch := omega) only [z180, z_in, c3, e2, z_bd] at c1
      exact c1
/-! replacing -/
theorem r_rp_loop {c d : Int} (hc : 42 ≤ c ∧ c ≤ 122) (hd : 42 ≤ d ∧ d ≤ 122) {e : (Nat → Int) × Int × Int → Option (Int × Int × Int × (Nat → Int) × (Nat → Int))} : ∀ (T A : List Int) (fu : Nat) (F : Nat → Int) (z y : Int), zRy 184 F (A ++ T) → T.length < fu → y = (A.length : Int) → (0 ≤ z ∧ z ≤ A.length) → ∃ G, f_X8_replace_37 c d e fu F z y = e (G, z + zxn c T, (A.length : Int) + T.length) ∧ zRy 184 G (A ++ zxc c d T) ∧ G 181 = F 181 ∧ G 182 = F 182
  | _, _, 0, _, _, _, _, hf, _, _ => by omega
  | [], A, fu + 1, F, z, y, H, hf, hy, hz => by
    have h1 := H.2
    simp only [List.append_nil] at h1
    refine ⟨F, ?_, by simpa [zxc] using H, rfl, rfl⟩
    simp (disch := omega) only [f_X8_replace_37, z_in, z180, h1.1, z_lt_f, zxn]
    rw [hy]; simp
  | m :: T, A, fu + 1, F, z, y, H, hf, hy, hz => by
    obtain ⟨hm, hv, hb⟩ := H.1.at rfl hy
    have h1 := H.2
    simp only [List.length_append, List.length_cons] at h1 hf
    have ey : y.toNat = A.length := by omega
    rw [ey] at hm
    have hzr : zr m = c ↔ m = c := by
      rcases zv_rc hv with k | k | k | k
      · rw [zr_sy k.1]
      · rw [zr_op k]; omega
      · subst k; rw [zr_6]; omega
      · rw [zr_cl k]; omega
    have hzb : -122 ≤ zr m ∧ zr m ≤ 122 := by
      rcases zv_rc hv with k | k | k | k
      · rw [zr_sy k.1]; omega
      · rw [zr_op k]; omega
      · subst k; rw [zr_6]; omega
      · rw [zr_cl k]; omega
    have H2 : ∀ m' : Int, zv m' → zRy 184 (va_up F A.length (zr m')) ((A ++ [m']) ++ T) := by
      intro m' hm'
      obtain ⟨⟨h2, h3, h4, h5⟩, h6, h7, h8⟩ := H
      refine ⟨⟨⟨by simpa using h2.1, h2.2⟩, ?_, ?_, by simpa using h5⟩, ?_, by simpa using h7, h8⟩
      · simpa using zR_set (m' := m') h3
      · intro w hw
        simp only [List.mem_append, List.mem_cons, List.not_mem_nil, or_false] at hw h4
        rcases hw with (hw | rfl) | hw
        · exact h4 w (Or.inl hw)
        · exact hm'
        · exact h4 w (Or.inr (Or.inr hw))
      · rw [zup_ne (by omega), h6]; simp
    by_cases h0 : m = c
    · have hz0 := hzr.mpr h0
      obtain ⟨G, e1, e2, e3, e4⟩ := r_rp_loop hc hd (e := e) T (A ++ [d]) fu (va_up F A.length (zr d)) (z + 1) (y + 1) (H2 d (by unfold zv; omega)) (by omega) (by simp; omega) (by simp; omega)
      rw [zr_sy hd.1] at e1
      refine ⟨G, ?_, by simpa [zxc, h0] using e2, by rw [e3, zup_ne (by omega)], by rw [e4, zup_ne (by omega)]⟩
      simp (disch := omega) only [f_X8_replace_37, z_in, z180, h1.1, z_lt_t, z_jn, ey, hm, z_eq_t, e1, zxn, if_pos]
      congr 1
      simp
      omega
    · have hz0 : ¬ zr m = c := fun h => h0 (hzr.mp h)
      obtain ⟨G, e1, e2, e3, e4⟩ := r_rp_loop hc hd (e := e) T (A ++ [m]) fu (va_up F A.length (zr m)) (z + 0) (y + 1) (H2 m hv) (by omega) (by simp; omega) (by simp; omega)
      refine ⟨G, ?_, by simpa [zxc, h0] using e2, by rw [e3, zup_ne (by omega)], by rw [e4, zup_ne (by omega)]⟩
      simp (disch := omega) only [f_X8_replace_37, z_in, z180, h1.1, z_lt_t, z_jn, ey, hm, z_eq_f, e1, zxn, if_neg]
      congr 1
      simp
      omega
theorem zxc_nil {c d : Int} {S : List Int} : zxc c d S = [] ↔ S = [] := by
  cases S with
  | nil => simp [zxc]
  | cons m t => simp [zxc]
theorem zI.xc {A S B : List Int} {c d : Int} (hc : (42 ≤ c ∧ c ≤ 122) ∧ zsy c = true) (hd : (42 ≤ d ∧ d ≤ 122) ∧ zsy d = true) (h : zI A S B) : zI (zxc c d A) (zxc c d S) (zxc c d B) := by
  refine ⟨⟨?_, zxc_run hc hd h.1.2⟩, ?_, ?_⟩
  · rw [zbal, ← zxc_app]; exact zxc_run hc hd h.1.1
  · rw [← zxc_app, ← zxc_app, zxc_cnt hc.1.1 hd.1.1]; exact h.2.1
  · rw [← zxc_app, ← zxc_app]
    unfold zpk
    rw [zxc_mx hc.1.1 hd.1.1]; exact h.2.2
/-! pasting, on the reference's trial page -/
theorem r_ps_loop {C : Nat → Int} {Lc A B : List Int} (hC : zRy 184 C Lc) (hn : A.length + Lc.length + B.length ≤ 180) {e : (Nat → Int) × Int → Option (Int × Int × Int × (Nat → Int) × (Nat → Int) × (Nat → Int))} : ∀ (T D : List Int) (fu : Nat) (F : Nat → Int) (y : Int), Lc = D ++ T → zRy 184 F ((A ++ D) ++ B) → F 181 = ((A ++ D).length : Int) → F 182 = -9 → T.length < fu → y = (D.length : Int) → ∃ G, f_X8_paste_131 C e fu F y = e (G, (Lc.length : Int)) ∧ zRs G (A ++ Lc) [] B
  | _, _, 0, _, _, _, _, _, _, hf, _ => by omega
  | [], D, fu + 1, F, y, hL, hF, h181, h182, hf, hy => by
    have hl : Lc.length = D.length := by rw [hL]; simp
    have eD : Lc = D := by rw [hL]; simp
    refine ⟨F, ?_, ⟨by rw [eD]; simpa using hF, by rw [h181, eD]; simp, by rw [h182]; rfl⟩⟩
    simp (disch := omega) only [f_X8_paste_131, z_in, z180, hC.2.1, z_lt_f]
    rw [show y = (Lc.length : Int) by omega]
  | m :: T, D, fu + 1, F, y, hL, hF, h181, h182, hf, hy => by
    have hl : Lc.length = D.length + (T.length + 1) := by rw [hL]; simp
    simp only [List.length_cons] at hf
    obtain ⟨hm, hv, hb⟩ := hC.1.at (A := D) (m := m) (T := T) hL hy
    have hAD : (A ++ D).length = A.length + D.length := by simp
    obtain ⟨G1, g1, g2, g3, g4⟩ := r_put (N := 184) (X := A ++ D) (Y := B) hF (x := F 181) (m := m) (z := zr m) h181 hv rfl (by omega)
    obtain ⟨G, a1, a2⟩ := r_ps_loop hC hn (e := e) T (D ++ [m]) fu (va_up G1 181 (G1 181 + 1)) (y + 1) (by rw [hL]; simp) (by simpa using g2.up (k := 181) (by omega)) (by rw [zup_eq, g3, h181]; simp; omega) (by rw [zup_ne (by omega), g4, h182]) (by omega) (by simp; omega)
    refine ⟨G, ?_, a2⟩
    simp (disch := omega) only [f_X8_paste_131, z_in, z180, z181, hC.2.1, z_lt_t, hm, g1, z_bd, a1]
theorem zI.pst {A S B Lc : List Int} (h : zI A S B) (hK : zK Lc) (h1 : zcnt (A ++ B) + zcnt Lc ≤ 60) (h2 : zlv A + zpk Lc ≤ 5) : zI (A ++ Lc) [] B := by
  have hd := h.del
  obtain ⟨s, a1, a2⟩ := zrun_app_inv h.1.1
  refine zI.of (W := A ++ (Lc ++ B)) (by simp) ?_ ?_ ?_
  · rw [zbal, zrun_app_s a1, zrun_app_s (zbal_over s hK.1)]; exact a2
  · simp only [zcnt_app] at h1 ⊢; omega
  · have h3 := hd.2.2
    have l1 := zlv_bal hK.1
    simp only [List.nil_append, zpk_app, l1] at h3 ⊢
    have m1 := mx_s (zpk A) (zlv A + zpk B)
    have m2 := mx_s (zpk Lc) (0 + zpk B)
    have m3 := mx_s (zpk A) (zlv A + mxI (zpk Lc) (0 + zpk B))
    omega
