/-! what is asked of a formula: about, place, selection -/
def zag (t k v v' t1 t2 : Int) : Prop := (t = 0 ∧ k = 0 ∧ v = v' ∧ -2147483648 ≤ v ∧ v ≤ 2147483647) ∨ (t = t1 ∧ k = 1) ∨ (t = t2 ∧ k = 2 ∧ t2 ≠ 9)
theorem r_rf_0 {a : Int} : f_X8_refused a 0 = some (0, 0) := by
  unfold f_X8_refused
  simp (disch := omega) only [z_jn, z_lt_f, z_gB]
theorem r_rf_1 {a k : Int} (h : k = 1 ∨ k = 2) : f_X8_refused a k = some (1, k) := by
  unfold f_X8_refused
  simp (disch := omega) only [z_jn, z_lt_t, z_gB]
/-- empty slots -/
def zhd : List Int → Int
  | [] => 0
  | m :: _ => m
def zeb (m q : Int) : Nat := if (1 ≤ m ∧ m ≤ 6) ∧ zsi q = false then 1 else 0
theorem zeb_t {m q : Int} (h : (1 ≤ m ∧ m ≤ 6) ∧ zsi q = false) : zeb m q = 1 := if_pos h
theorem zeb_f {m q : Int} (h : ¬ ((1 ≤ m ∧ m ≤ 6) ∧ zsi q = false)) : zeb m q = 0 := if_neg h
def zes : List Int → Nat
  | [] => 0
  | m :: t => zeb m (zhd t) + zes t
theorem zes_b : ∀ (A : List Int), zes A ≤ A.length
  | [] => by simp [zes]
  | m :: A => by have := zes_b A; simp only [zes, List.length_cons, zeb]; split <;> omega
theorem c_es_loop {N : Nat} {n : Int} {F : Nat → Int} {L : List Int} (H : zCx N n F L) {e : Int × Int → Option Int} (he : ∀ z y, e (z, y) = some z) : ∀ (T A : List Int) (fu : Nat) (z y : Int), L = A ++ T → T.length < fu → y = (A.length : Int) → f_X3_emptySlots_4 N n F e fu z y = some (z + zes T)
  | _, _, 0, _, _, _, hf, _ => by omega
  | [], A, fu + 1, z, y, hL, hf, hy => by
    have hn : n = y := by rw [H.1.1, hL]; simp; omega
    have h3 := H.1
    subst hn
    simp (disch := omega) only [f_X3_emptySlots_4, z_lt_f, he, zes]
    exact congrArg some (by omega)
  | m :: T, A, fu + 1, z, y, hL, hf, hy => by
    obtain ⟨hm, hv, hb⟩ := H.at hL hy
    simp only [List.length_cons] at hf
    have ih : ∀ z' : Int, f_X3_emptySlots_4 N n F e fu z' (y + 1) = some (z' + zes T) := fun z' => by
      exact c_es_loop H he T (A ++ [m]) fu z' (y + 1) (by rw [hL]; simp) (by omega) (by simp; omega)
    have hq : ∃ q, f_X3_mark N n F (y + 1) = some q ∧ q = zhd T ∧ (0 ≤ q ∧ q ≤ 122) := by
      cases T with
      | nil => exact ⟨0, H.out (by have := H.1; simp at hb; omega), rfl, by omega, by omega⟩
      | cons q T =>
        obtain ⟨h1, h2, h3⟩ := H.at (A := A ++ [m]) (m := q) (T := T) (by rw [hL]; simp) (x := y + 1) (by simp; omega)
        exact ⟨q, h1, rfl, by have := zv_rc h2; omega⟩
    obtain ⟨q, q1, q2, q3⟩ := hq
    have hv2 := zv_rc hv
    have hst : f_X7_startsItem q = some (zbi (zsi q)) := by
      by_cases h : (1 ≤ q ∧ q ≤ 5) ∨ 42 ≤ q
      · rw [c_st_t ⟨by omega, h⟩, show zsi q = true from decide_eq_true h]; rfl
      · rw [c_st_f ⟨by omega, h⟩, show zsi q = false from decide_eq_false h]; rfl
    simp only [zes, ← q2]
    by_cases h1 : 1 ≤ m ∧ m ≤ 5
    · cases hz : zsi q
      · rw [hz, zbi_f] at hst
        rw [zeb_t ⟨by omega, hz⟩]
        simp (disch := omega) only [f_X3_emptySlots_4, z_lt_t, hm, z_bd, c_on_t, z_jn, z_eq_f, z_eq_t, q1, hst, ih]
        exact congrArg some (by omega)
      · rw [hz, zbi_t] at hst
        rw [zeb_f (fun h => by rw [hz] at h; exact absurd h.2 (by decide))]
        simp (disch := omega) only [f_X3_emptySlots_4, z_lt_t, hm, z_bd, c_on_t, z_jn, z_eq_f, z_eq_t, q1, hst, ih]
        simp
    · by_cases h6 : m = 6
      · cases hz : zsi q
        · rw [hz, zbi_f] at hst
          rw [zeb_t ⟨by omega, hz⟩]
          simp (disch := omega) only [f_X3_emptySlots_4, z_lt_t, hm, z_bd, c_on_f, z_jn, z_eq_f, z_eq_t, q1, hst, ih]
          exact congrArg some (by omega)
        · rw [hz, zbi_t] at hst
          rw [zeb_f (fun h => by rw [hz] at h; exact absurd h.2 (by decide))]
          simp (disch := omega) only [f_X3_emptySlots_4, z_lt_t, hm, z_bd, c_on_f, z_jn, z_eq_f, z_eq_t, q1, hst, ih]
          simp
      · rw [zeb_f (by omega)]
        simp (disch := omega) only [f_X3_emptySlots_4, z_lt_t, hm, z_bd, c_on_f, z_jn, z_eq_f, z_eq_t, ih]
        exact congrArg some (by omega)
theorem c_empty {N : Nat} {n : Int} {F : Nat → Int} {L : List Int} (H : zCx N n F L) : f_X3_emptySlots N n F = some (zes L : Int) := by
  have h1 := H.1
  have := c_es_loop H (e := fun (z12 : Int × Int) => some z12.1) (fun _ _ => rfl) L [] fuel 0 0 rfl (by unfold fuel; omega) rfl
  simpa [f_X3_emptySlots] using this
theorem r_es_loop {F : Nat → Int} {L : List Int} (H : zRy 184 F L) {k : Int} {e : Int × Int → Option (Int × Int)} (he : ∀ z y, e (z, y) = some (z, k)) : ∀ (T A : List Int) (fu : Nat) (z y : Int), L = A ++ T → (∀ X m, T = X ++ [m] → 6 < m) → T.length < fu → y = (A.length : Int) → f_X8_about_118 F e fu z y = some (z + zes T, k)
  | _, _, 0, _, _, _, _, hf, _ => by omega
  | [], A, fu + 1, z, y, hL, ht, hf, hy => by
    have h180 : F (180 : Int).toNat = (A.length : Int) := by rw [z180, H.2.1, hL]; simp
    have h3 := H.2.2
    have hl : L.length = A.length := by rw [hL]; simp
    simp (disch := omega) only [f_X8_about_118, z_in, h180, z_lt_f, he, zes]
    exact congrArg some (by simp)
  | [m], A, fu + 1, z, y, hL, ht, hf, hy => by
    have h180 : F (180 : Int).toNat = (A.length : Int) + 1 := by rw [z180, H.2.1, hL]; simp
    have h3 := H.2.2
    have hl : L.length = A.length + 1 := by rw [hL]; simp
    have hm := ht [] m rfl
    simp (disch := omega) only [f_X8_about_118, z_in, h180, z_lt_f, he, zes]
    rw [zeb_f (by omega)]
    exact congrArg some (by simp)
  | m :: q :: T, A, fu + 1, z, y, hL, ht, hf, hy => by
    obtain ⟨hm, hv, hb⟩ := H.1.at hL hy
    obtain ⟨hq, hv2, hb2⟩ := H.1.at (A := A ++ [m]) (m := q) (T := T) (by rw [hL]; simp) (x := y + 1) (by simp; omega)
    have h180 : F (180 : Int).toNat = (A.length : Int) + T.length + 2 := by rw [z180, H.2.1, hL]; simp; omega
    have h3 := H.2.2
    have hl : L.length = A.length + T.length + 2 := by rw [hL]; simp; omega
    simp only [List.length_cons] at hf
    have ih : ∀ z' : Int, f_X8_about_118 F e fu z' (y + 1) = some (z' + zes (q :: T), k) := fun z' => by
      exact r_es_loop H he (q :: T) (A ++ [m]) fu z' (y + 1) (by rw [hL]; simp) (fun X w e2 => ht (m :: X) w (by rw [e2]; rfl)) (by simp; omega) (by simp; omega)
    have key : ∀ w : Int, (w = (zeb m q : Int)) → z + w + zes (q :: T) = z + (zes (m :: q :: T) : Int) := by
      intro w hw
      show z + w + zes (q :: T) = z + ((zeb m q + zes (q :: T) : Nat) : Int)
      omega
    have kq := zv_rc hv2
    by_cases hz : zsi q = false
    · have hz' : ¬ ((1 ≤ q ∧ q ≤ 5) ∨ 42 ≤ q) := of_decide_eq_false hz
      have hq2 : F (y + 1).toNat = -10 ∨ F (y + 1).toNat = -11 := by
        rcases kq with k1 | k1 | k1 | k1
        · omega
        · omega
        · subst k1; left; rw [hq, zr_6]
        · right; rw [hq, zr_cl k1]
      rcases zv_rc hv with k1 | k1 | k1 | k1
      · rw [zr_sy k1.1] at hm
        simp (disch := omega) only [f_X8_about_118, z_in, h180, z_lt_t, hm, r_bg_f, z_bd, z_jn, z_eq_t, z_eq_f, ih]
        rw [key 0 (by rw [zeb_f (by omega)]; rfl)]
      · rw [zr_op k1] at hm
        rcases hq2 with hq2 | hq2 <;> simp (disch := omega) only [f_X8_about_118, z_in, h180, z_lt_t, hm, hq2, r_bg_t, z_bd, z_jn, z_eq_t, z_eq_f, ih] <;> rw [key 1 (by rw [zeb_t ⟨by omega, hz⟩]; rfl)]
      · subst k1
        rw [zr_6] at hm
        rcases hq2 with hq2 | hq2 <;> simp (disch := omega) only [f_X8_about_118, z_in, h180, z_lt_t, hm, hq2, r_bg_f, z_bd, z_jn, z_eq_t, z_eq_f, ih] <;> rw [key 1 (by rw [zeb_t ⟨by omega, hz⟩]; rfl)]
      · rw [zr_cl k1] at hm
        simp (disch := omega) only [f_X8_about_118, z_in, h180, z_lt_t, hm, r_bg_f, z_bd, z_jn, z_eq_t, z_eq_f, ih]
        rw [key 0 (by rw [zeb_f (by omega)]; rfl)]
    · have hz2 : zsi q = true := by simpa using hz
      have hz' : ((1 ≤ q ∧ q ≤ 5) ∨ 42 ≤ q) := of_decide_eq_true hz2
      have hq2 : -5 ≤ F (y + 1).toNat ∧ F (y + 1).toNat ≤ 122 := by
        rw [hq]
        rcases kq with k1 | k1 | k1 | k1
        · rw [zr_sy k1.1]; omega
        · rw [zr_op k1]; omega
        · omega
        · omega
      rcases zv_rc hv with k1 | k1 | k1 | k1
      · rw [zr_sy k1.1] at hm
        simp (disch := omega) only [f_X8_about_118, z_in, h180, z_lt_t, hm, r_bg_f, z_bd, z_jn, z_eq_t, z_eq_f, ih]
        rw [key 0 (by rw [zeb_f (by omega)]; rfl)]
      · rw [zr_op k1] at hm
        simp (disch := omega) only [f_X8_about_118, z_in, h180, z_lt_t, hm, r_bg_t, z_bd, z_jn, z_eq_t, z_eq_f, ih]
        rw [key 0 (by rw [zeb_f (fun h => by rw [hz2] at h; exact absurd h.2 (by decide))]; rfl)]
      · subst k1
        rw [zr_6] at hm
        simp (disch := omega) only [f_X8_about_118, z_in, h180, z_lt_t, hm, r_bg_f, z_bd, z_jn, z_eq_t, z_eq_f, ih]
        rw [key 0 (by rw [zeb_f (fun h => by rw [hz2] at h; exact absurd h.2 (by decide))]; rfl)]
      · rw [zr_cl k1] at hm
        simp (disch := omega) only [f_X8_about_118, z_in, h180, z_lt_t, hm, r_bg_f, z_bd, z_jn, z_eq_t, z_eq_f, ih]
        rw [key 0 (by rw [zeb_f (by omega)]; rfl)]
theorem zlast {L : List Int} (h : zbal L) : ∀ X m, L = X ++ [m] → 6 < m := by
  rintro X m rfl
  obtain ⟨s', q1, q2⟩ := zrun_snoc_inv h
  rcases zst_cases q2 with ⟨a, b, e⟩ | ⟨a, b, e⟩ | ⟨rfl, r, e1, e2⟩ | ⟨k2, e, h3⟩
  · omega
  · cases e
  · cases e2
  · omega
/-- the clipboard: any balanced line -/
def zK (L : List Int) : Prop := zbal L ∧ zcnt L ≤ 60 ∧ zpk L ≤ 5
theorem zK.len {L : List Int} (h : zK L) : L.length ≤ 180 := by
  have h1 := zlen3 h.1
  have h2 := h.2.1
  omega
theorem e_about {n ca fr cn rf x : Int} {F R Fc Rc : Nat → Int} {A S B Lc : List Int} (hI : zI A S B) (hC : zCs n ca fr F A S B) (hR : zRs R A S B) (hK : zK Lc) (hCc : zCx 180 cn Fc Lc) (hRc : zRy 184 Rc Lc) (hx : -2147483648 ≤ x ∧ x ≤ 2147483647) : ∃ t v v' k, f_X7_about cn n ca Fc F x = some (t, v) ∧ f_X8_about rf Rc R x = some (v', k) ∧ zag t k v v' 1 9 := by
  have hl := hI.len
  have hn : n = (A.length : Int) + S.length + B.length := by rw [hC.1.1.1]; simp; omega
  have hr : R 180 = n := by rw [hR.1.2.1, hC.1.1.1]
  have hca : ca = (A.length : Int) + S.length := hC.2.1
  have hc2 : R 181 = ca := by rw [hR.2.1, hca]
  have hcn : Rc 180 = cn := by rw [hRc.2.1, hCc.1.1]
  have hcl := hK.len
  have hcc := hK.2.1
  have hc3 := hI.2.1
  have hc4 := hI.2.2
  have hc5 := zpk_0 (A ++ (S ++ B))
  by_cases h : 0 ≤ x ∧ x ≤ 5
  · have h6 : x = 0 ∨ x = 1 ∨ x = 2 ∨ x = 3 ∨ x = 4 ∨ x = 5 := by omega
    rcases h6 with rfl | rfl | rfl | rfl | rfl | rfl
    · have e1 := c_count hC.1 (A := []) (S := A ++ (S ++ B)) (B := []) (by simp) (x := 0) (y := n) rfl (by rw [hC.1.1.1]; simp)
      have e2 := r_all hR.1.1 (A := []) (S := A ++ (S ++ B)) (B := []) (by simp) (x := 0) (y := n) rfl (by rw [hC.1.1.1]; simp)
      refine ⟨0, (zcnt (A ++ (S ++ B)) : Int), (zcnt (A ++ (S ++ B)) : Int), 0, ?_, ?_, Or.inl ⟨rfl, rfl, rfl, ?_⟩⟩
      · unfold f_X7_about f_X3_allItems
        simp (disch := omega) only [z_eq_t, e1, z_bd]
      · unfold f_X8_about
        simp (disch := omega) only [z_gR, r_in_t, z_bd, z_jn, z_eq_t, z_eq_f, r_rf_0, z180, z_in, hr, e2]
      · omega
    · refine ⟨0, n + 1, n + 1, 0, ?_, ?_, Or.inl ⟨rfl, rfl, rfl, by omega⟩⟩
      · unfold f_X7_about
        simp (disch := omega) only [z_eq_t, z_eq_f]
      · unfold f_X8_about
        simp (disch := omega) only [z_gR, r_in_t, z_bd, z_jn, z_eq_t, z_eq_f, r_rf_0, z180, z_in, hr]
    · refine ⟨0, ca, ca, 0, ?_, ?_, Or.inl ⟨rfl, rfl, rfl, by omega⟩⟩
      · unfold f_X7_about
        simp (disch := omega) only [z_eq_t, z_eq_f]
      · unfold f_X8_about
        simp (disch := omega) only [z_gR, r_in_t, z_bd, z_jn, z_eq_t, z_eq_f, r_rf_0, z181, z_in, hc2]
    · have e1 := c_depth hC.1 (A := []) (S := A ++ (S ++ B)) (B := []) (by simp) (x := 0) (y := n) rfl (by rw [hC.1.1.1]; simp)
      have e2 := r_depth hR.1.1 (A := []) (S := A ++ (S ++ B)) (B := []) (by simp) (x := 0) (y := n) rfl (by rw [hC.1.1.1]; simp)
      refine ⟨0, zmx 0 0 (A ++ (S ++ B)), zmx 0 0 (A ++ (S ++ B)), 0, ?_, ?_, Or.inl ⟨rfl, rfl, rfl, ?_⟩⟩
      · unfold f_X7_about
        simp (disch := omega) only [z_eq_t, z_eq_f, e1, z_bd]
      · unfold f_X8_about
        simp (disch := omega) only [z_gR, r_in_t, z_bd, z_jn, z_eq_t, z_eq_f, r_rf_0, z180, z_in, hr, e2]
      · unfold zpk at hc4 hc5; omega
    · have e1 := c_empty hC.1
      have h1 := hR.1.2.2.1
      have e2 := r_es_loop hR.1 (k := 0) (e := fun (z18 : Int × Int) => some (z18.1, 0)) (fun _ _ => rfl) (A ++ (S ++ B)) [] fuel 0 0 rfl (zlast hI.bal) (by unfold fuel; omega) rfl
      have hb := zes_b (A ++ (S ++ B))
      simp only [List.length_append] at hb
      refine ⟨0, (zes (A ++ (S ++ B)) : Int), (zes (A ++ (S ++ B)) : Int), 0, ?_, ?_, Or.inl ⟨rfl, rfl, rfl, by omega⟩⟩
      · unfold f_X7_about
        simp (disch := omega) only [z_eq_t, z_eq_f, e1, z_bd]
      · unfold f_X8_about
        simp (disch := omega) only [z_gR, r_in_t, z_bd, z_jn, z_eq_t, z_eq_f, r_rf_0, e2]
        simp
    · have e1 := c_count hCc (A := []) (S := Lc) (B := []) (by simp) (x := 0) (y := cn) rfl (by rw [hCc.1.1]; simp)
      have e2 := r_all hRc.1 (A := []) (S := Lc) (B := []) (by simp) (x := 0) (y := cn) rfl (by rw [hCc.1.1]; simp)
      refine ⟨0, (zcnt Lc : Int), (zcnt Lc : Int), 0, ?_, ?_, Or.inl ⟨rfl, rfl, rfl, by omega⟩⟩
      · unfold f_X7_about
        simp (disch := omega) only [z_eq_t, z_eq_f, e1, z_bd]
      · unfold f_X8_about
        simp (disch := omega) only [z_gR, r_in_t, z_bd, z_jn, z_eq_t, z_eq_f, r_rf_0, z180, z_in, hcn, e2]
  · refine ⟨1, 0, 0, 1, ?_, ?_, Or.inr (Or.inl ⟨rfl, rfl⟩)⟩
    · unfold f_X7_about
      simp (disch := omega) only [z_eq_f]
    · unfold f_X8_about
      simp (disch := omega) only [z_gR, r_in_f, z_bd, z_jn, z_eq_t, z_eq_f, r_rf_1]
theorem e_selection {n ca fr rf x : Int} {F R : Nat → Int} {A S B : List Int} (hI : zI A S B) (hC : zCs n ca fr F A S B) (hR : zRs R A S B) (hx : -2147483648 ≤ x ∧ x ≤ 2147483647) : ∃ t v v' k, f_X7_selection n ca fr F x = some (t, v) ∧ f_X8_selection rf R x = some (v', k) ∧ zag t k v v' 1 9 := by
  have hl := hI.len
  have hfr : fr = (A.length : Int) := hC.2.2
  by_cases h : 0 ≤ x ∧ x ≤ 2
  · have key : ∀ {ρ : Type} (q : Int → Option ρ), gIn 182 184 (jn q (fun k5 => cEq (R (182 : Int).toNat) ((-9)) (gIn 181 184 (k5 (R (181 : Int).toNat))) (gIn 182 184 (k5 (R (182 : Int).toNat))))) = q (A.length : Int) := by
      intro ρ q
      obtain ⟨h1, h2, h3⟩ := hR
      by_cases hS : S = []
      · subst hS
        rw [if_pos rfl] at h3
        simp (disch := omega) only [z181, z182, h2, h3, z_in, z_jn, z_eq_t]
        simp
      · rw [if_neg hS] at h3
        simp (disch := omega) only [z181, z182, h2, h3, z_in, z_jn, z_eq_f]
    have h6 : x = 0 ∨ x = 1 ∨ x = 2 := by omega
    rcases h6 with rfl | rfl | rfl
    · have e1 := c_rowItems hC.1 (A := A) (S := S) (B := B) rfl hC.2.2 hC.2.1
      have e2 := r_itemsIn hR.1.1 (A := A) (S := S) (B := B) rfl hI.1.2 (x := (A.length : Int)) (y := R 181) rfl hR.2.1
      have hb := zni_b S 0
      refine ⟨0, (zni 0 S : Int), (zni 0 S : Int), 0, ?_, ?_, Or.inl ⟨rfl, rfl, rfl, by omega⟩⟩
      · unfold f_X7_selection f_X0_selectedOfRow
        simp (disch := omega) only [z_eq_t, e1, z_bd]
      · unfold f_X8_selection
        simp (disch := omega) only [z_gR, r_in_t, z_bd, z_jn, z_eq_t, z_eq_f, r_rf_0]
        simp only [z_jn] at key
        refine (key (fun z => gIn 181 184 (bd (f_X8_itemsIn 184 R z (R (181 : Int).toNat)) (fun z10 => some (z10, 0))))).trans ?_
        simp (disch := omega) only [z181, z_in, e2, z_bd]
    · have e1 := c_count hC.1 (A := A) (S := S) (B := B) rfl hC.2.2 hC.2.1
      have e2 := r_all hR.1.1 (A := A) (S := S) (B := B) rfl (x := (A.length : Int)) (y := R 181) rfl hR.2.1
      have hb := zcnt_b S
      refine ⟨0, (zcnt S : Int), (zcnt S : Int), 0, ?_, ?_, Or.inl ⟨rfl, rfl, rfl, by omega⟩⟩
      · unfold f_X7_selection f_X0_selectedInAll
        simp (disch := omega) only [z_eq_t, z_eq_f, e1, z_bd]
      · unfold f_X8_selection
        simp (disch := omega) only [z_gR, r_in_t, z_bd, z_jn, z_eq_t, z_eq_f, r_rf_0]
        simp only [z_jn] at key
        refine (key (fun z => gIn 181 184 (bd (f_X8_allIn 184 R z (R (181 : Int).toNat)) (fun z10 => some (z10, 0))))).trans ?_
        simp (disch := omega) only [z181, z_in, e2, z_bd]
    · refine ⟨0, fr, (A.length : Int), 0, ?_, ?_, Or.inl ⟨rfl, rfl, hfr, by omega⟩⟩
      · unfold f_X7_selection
        simp (disch := omega) only [z_eq_t, z_eq_f]
      · unfold f_X8_selection
        simp (disch := omega) only [z_gR, r_in_t, z_bd, z_jn, z_eq_t, z_eq_f, r_rf_0]
        simp only [z_jn] at key
        exact key (fun z => some (z, 0))
  · refine ⟨1, 0, 0, 1, ?_, ?_, Or.inr (Or.inl ⟨rfl, rfl⟩)⟩
    · unfold f_X7_selection
      simp (disch := omega) only [z_eq_f]
    · unfold f_X8_selection
      simp (disch := omega) only [z_gR, r_in_f, z_bd, z_jn, z_eq_t, z_eq_f, r_rf_1]
