/-! p30: the signs of the drawing are counted -/
theorem zS_add1 : ∀ (k : Nat) (lo : Int) (f : Int → Nat), zS lo (k + 1) f = f lo + zS (lo + 1) k f := fun _ _ _ => rfl
theorem zS_swap : ∀ (R : Nat) (r c : Int) (C : Nat) (f : Int → Int → Nat), zS r R (fun y => zS c C (fun x => f x y)) = z2 c C r R f
  | 0, r, c, C, f => by
    show 0 = zS c C (fun x => 0)
    exact (zS_0 C c).symm
  | R + 1, r, c, C, f => by
    show zS c C (fun x => f x r) + zS (r + 1) R (fun y => zS c C (fun x => f x y)) = zS c C (fun x => f x r + zS (r + 1) R (fun y => f x y))
    rw [zS_swap R (r + 1) c C f, zS_plus]
    rfl
/-- a sign's place among the counts -/
def zix (v : Int) : Nat := if 97 ≤ v ∧ v ≤ 122 then (v - 97).toNat else if 48 ≤ v ∧ v ≤ 57 then (v - 18).toNat else if v = 63 then 41 else if v = 86 then 42 else if v = 61 then 43 else 44
def zi2 (v : Int) : Nat := if 97 ≤ v ∧ v ≤ 122 then (v - 97).toNat else if 48 ≤ v ∧ v ≤ 57 then (v - 18).toNat else if v = 61 then 43 else 44
/-- whose place it is -/
def zjx (j : Nat) (s : Int) : Prop := (97 ≤ s ∧ s ≤ 122 ∧ (j : Int) = s - 97) ∨ (48 ≤ s ∧ s ≤ 57 ∧ (j : Int) = s - 18) ∨ (s = 61 ∧ j = 43) ∨ (s = 1000 ∧ ((26 ≤ j ∧ j ≤ 29) ∨ j = 40))
theorem zjx_ok {j : Nat} {s : Int} (h : zjx j s) : zok s ∧ s ≠ 63 ∧ s ≠ 32 ∧ s ≠ -9 := by
  unfold zjx at h
  refine ⟨⟨?_, ?_, ?_, ?_⟩, ?_, ?_, ?_⟩ <;> omega
theorem zjx_ex {j : Nat} (h : j ≤ 40 ∨ j = 43) : ∃ s, zjx j s := by
  by_cases h1 : j ≤ 25
  · exact ⟨97 + j, Or.inl ⟨by omega, by omega, by omega⟩⟩
  · by_cases h2 : 30 ≤ j ∧ j ≤ 39
    · exact ⟨18 + j, Or.inr (Or.inl ⟨by omega, by omega, by omega⟩)⟩
    · by_cases h3 : j = 43
      · exact ⟨61, Or.inr (Or.inr (Or.inl ⟨rfl, h3⟩))⟩
      · exact ⟨1000, Or.inr (Or.inr (Or.inr ⟨rfl, by omega⟩))⟩
theorem zix_s {j : Nat} {s v : Int} (h : zjx j s ∨ (s = 63 ∧ j = 41)) (hv : 32 ≤ v ∧ v ≤ 122) : zis9 v s = if zix v = j then 1 else 0 := by
  unfold zis9 zix
  unfold zjx at h
  by_cases e : v = s
  · rw [if_pos e]
    subst e
    by_cases h1 : 97 ≤ v ∧ v ≤ 122
    · rw [if_pos h1, if_pos (by omega)]
    · rw [if_neg h1]
      by_cases h2 : 48 ≤ v ∧ v ≤ 57
      · rw [if_pos h2, if_pos (by omega)]
      · rw [if_neg h2]
        by_cases h3 : v = 63
        · rw [if_pos h3, if_pos (by omega)]
        · rw [if_neg h3, if_neg (by omega : ¬ v = 86), if_pos (by omega : v = 61), if_pos (by omega)]
  · rw [if_neg e]
    by_cases h1 : 97 ≤ v ∧ v ≤ 122
    · rw [if_pos h1, if_neg (by omega)]
    · rw [if_neg h1]
      by_cases h2 : 48 ≤ v ∧ v ≤ 57
      · rw [if_pos h2, if_neg (by omega)]
      · rw [if_neg h2]
        by_cases h3 : v = 63
        · rw [if_pos h3, if_neg (by omega)]
        · rw [if_neg h3]
          by_cases h4 : v = 86
          · rw [if_pos h4, if_neg (by omega)]
          · rw [if_neg h4]
            by_cases h5 : v = 61
            · rw [if_pos h5, if_neg (by omega)]
            · rw [if_neg h5, if_neg (by omega)]
theorem zi2_s {j : Nat} {s v : Int} (h : zjx j s) (hv : -9 ≤ v ∧ v ≤ 122) : zis9 v s = if zi2 v = j then 1 else 0 := by
  unfold zis9 zi2
  unfold zjx at h
  by_cases e : v = s
  · rw [if_pos e]
    subst e
    by_cases h1 : 97 ≤ v ∧ v ≤ 122
    · rw [if_pos h1, if_pos (by omega)]
    · rw [if_neg h1]
      by_cases h2 : 48 ≤ v ∧ v ≤ 57
      · rw [if_pos h2, if_pos (by omega)]
      · rw [if_neg h2, if_pos (by omega : v = 61), if_pos (by omega)]
  · rw [if_neg e]
    by_cases h1 : 97 ≤ v ∧ v ≤ 122
    · rw [if_pos h1, if_neg (by omega)]
    · rw [if_neg h1]
      by_cases h2 : 48 ≤ v ∧ v ≤ 57
      · rw [if_pos h2, if_neg (by omega)]
      · rw [if_neg h2]
        by_cases h5 : v = 61
        · rw [if_pos h5, if_neg (by omega)]
        · rw [if_neg h5, if_neg (by omega)]
/-- one more at a place -/
theorem zup_n {S : Nat → Int} {i j : Nat} : va_up S i (S i + 1) j = S j + ((if i = j then 1 else 0 : Nat) : Int) := by
  by_cases h : j = i
  · rw [h, zup_eq, if_pos rfl]; rfl
  · rw [zup_ne h, if_neg (fun z => h z.symm)]; simp
theorem m_isL {v : Int} (h : -1000 ≤ v ∧ v ≤ 1000) : f_L_isLetter v = some (if 97 ≤ v ∧ v ≤ 122 then 1 else 0) := by
  unfold f_L_isLetter
  by_cases h1 : 97 ≤ v
  · by_cases h2 : v ≤ 122
    · rw [if_pos ⟨h1, h2⟩]
      simp (disch := omega) only [z_jn, z_lt_f, z_gB]
    · rw [if_neg (fun z => h2 z.2)]
      simp (disch := omega) only [z_jn, z_lt_f, z_lt_t, z_gB]
  · rw [if_neg (fun z => h1 z.1)]
    simp (disch := omega) only [z_jn, z_lt_t, z_gB]
section CT
variable {n : Int} {F : Nat → Int} {a b w : Nat → Int}
/-- one cell is counted -/
theorem m_35s {W y x r c h r' c' h' v : Int} {S : Nat → Int} {e : Int × Int × Int × (Nat → Int) × (Nat → Int) × (Nat → Int) × (Nat → Int) × Int → Option (Int × Int × Int × Int × (Nat → Int) × (Nat → Int) × (Nat → Int))} {fu : Nat} (hx : 0 ≤ x ∧ x < W ∧ W ≤ 1000) (hd : f_L_tryDrawn0 n r c h F a b w x y = some (v, r', c', h', a, b, w)) (hv : 32 ≤ v ∧ v ≤ 122) : f_L_drawings_35 n F W y e (fu + 1) r c h a b w S x = f_L_drawings_35 n F W y e fu r' c' h' a b w (va_up S (zix v) (S (zix v) + 1)) (x + 1) := by
  have hL := m_isL (v := v) (by omega)
  have e41 : ((41 : Int)).toNat = 41 := rfl
  have e42 : ((42 : Int)).toNat = 42 := rfl
  have e43 : ((43 : Int)).toNat = 43 := rfl
  have e44 : ((44 : Int)).toNat = 44 := rfl
  unfold zix
  by_cases h1 : 97 ≤ v ∧ v ≤ 122
  · rw [if_pos h1] at hL ⊢
    simp (disch := omega) only [f_L_drawings_35, z_lt_t, hd, z_bd, hL, z_jn, z_eq_f, z_in]
  · rw [if_neg h1] at hL ⊢
    by_cases h2 : 48 ≤ v ∧ v ≤ 57
    · rw [if_pos h2]
      have e1 : v - 48 + 30 = v - 18 := by omega
      simp (disch := omega) only [f_L_drawings_35, z_lt_t, z_lt_f, hd, z_bd, hL, z_jn, z_eq_t, e1, z_in]
    · rw [if_neg h2]
      by_cases h3 : v = 63
      · rw [if_pos h3]
        simp (disch := omega) only [f_L_drawings_35, z_lt_t, z_lt_f, hd, z_bd, hL, z_jn, z_eq_t, z_in, e41]
      · rw [if_neg h3]
        by_cases hlo : v < 48
        · rw [if_neg (by omega : ¬ v = 86), if_neg (by omega : ¬ v = 61)]
          simp (disch := omega) only [f_L_drawings_35, z_lt_t, z_lt_f, hd, z_bd, hL, z_jn, z_eq_t, z_eq_f, z_in, e44]
        · by_cases h4 : v = 86
          · rw [if_pos h4]
            simp (disch := omega) only [f_L_drawings_35, z_lt_t, z_lt_f, hd, z_bd, hL, z_jn, z_eq_t, z_eq_f, z_in, e42]
          · rw [if_neg h4]
            by_cases h5 : v = 61
            · rw [if_pos h5]
              simp (disch := omega) only [f_L_drawings_35, z_lt_t, z_lt_f, hd, z_bd, hL, z_jn, z_eq_t, z_eq_f, z_in, e43]
            · rw [if_neg h5]
              simp (disch := omega) only [f_L_drawings_35, z_lt_t, z_lt_f, hd, z_bd, hL, z_jn, z_eq_t, z_eq_f, z_in, e44]
/-- a line of cells -/
theorem m_35 {W H A y : Int} {g : Int → Int → Int} (hW : 0 ≤ W ∧ W ≤ 1000) (hy : 0 ≤ y ∧ y < H) (hd : ∀ (x y r c h : Int), (0 ≤ x ∧ x < W) → (0 ≤ y ∧ y < H) → ∃ r' c' h', f_L_tryDrawn0 n r c h F a b w x y = some (g x (y - A), r', c', h', a, b, w)) (hb : ∀ x h, 32 ≤ g x h ∧ g x h ≤ 122) : ∀ (k fu : Nat) (x r c h : Int) (S : Nat → Int), 0 ≤ x → x = W - k → k < fu → ∃ (r' c' h' : Int) (S' : Nat → Int), (∀ (e : Int × Int × Int × (Nat → Int) × (Nat → Int) × (Nat → Int) × (Nat → Int) × Int → Option (Int × Int × Int × Int × (Nat → Int) × (Nat → Int) × (Nat → Int))), f_L_drawings_35 n F W y e fu r c h a b w S x = e (r', c', h', a, b, w, S', W)) ∧ ∀ j, S' j = S j + (zS x k (fun x => if zix (g x (y - A)) = j then 1 else 0) : Nat)
  | k, 0, x, r, c, h, S, hx, hk, hf => by omega
  | 0, fu + 1, x, r, c, h, S, hx, hk, hf => by
    have ex : x = W := by omega
    subst ex
    refine ⟨r, c, h, S, fun e => ?_, fun j => by simp [zS]⟩
    simp (disch := omega) only [f_L_drawings_35, z_lt_f]
  | k + 1, fu + 1, x, r, c, h, S, hx, hk, hf => by
    obtain ⟨r1, c1, h1, d⟩ := hd x y r c h ⟨hx, by omega⟩ hy
    obtain ⟨r', c', h', S', i1, i2⟩ := m_35 hW hy hd hb k fu (x + 1) r1 c1 h1 (va_up S (zix (g x (y - A))) (S (zix (g x (y - A))) + 1)) (by omega) (by omega) (by omega)
    refine ⟨r', c', h', S', fun e => ?_, fun j => ?_⟩
    · rw [m_35s ⟨hx, by omega, by omega⟩ d (hb _ _)]
      exact i1 e
    · rw [i2 j, zup_n, zS_add1]
      omega
/-- all lines -/
theorem m_26 {W H A : Int} {g : Int → Int → Int} (hW : 0 ≤ W ∧ W ≤ 1000) (hH : H ≤ 1000) (hd : ∀ (x y r c h : Int), (0 ≤ x ∧ x < W) → (0 ≤ y ∧ y < H) → ∃ r' c' h', f_L_tryDrawn0 n r c h F a b w x y = some (g x (y - A), r', c', h', a, b, w)) (hb : ∀ x h, 32 ≤ g x h ∧ g x h ≤ 122) : ∀ (k fu : Nat) (y r c h : Int) (S : Nat → Int), 0 ≤ y → y = H - k → k < fu → ∃ (r' c' h' : Int) (S' : Nat → Int), (∀ (e : Int × Int × Int × (Nat → Int) × (Nat → Int) × (Nat → Int) × (Nat → Int) × Int → Option (Int × Int × Int × Int × (Nat → Int) × (Nat → Int) × (Nat → Int))), f_L_drawings_26 n F W H e fu r c h a b w S y = e (r', c', h', a, b, w, S', H)) ∧ ∀ j, S' j = S j + (zS y k (fun y => zS 0 W.toNat (fun x => if zix (g x (y - A)) = j then 1 else 0)) : Nat)
  | k, 0, y, r, c, h, S, hy, hk, hf => by omega
  | 0, fu + 1, y, r, c, h, S, hy, hk, hf => by
    have ey : y = H := by omega
    subst ey
    refine ⟨r, c, h, S, fun e => ?_, fun j => by simp [zS]⟩
    simp (disch := omega) only [f_L_drawings_26, z_lt_f]
  | k + 1, fu + 1, y, r, c, h, S, hy, hk, hf => by
    have hfu : W.toNat < fuel := by unfold fuel; omega
    obtain ⟨r1, c1, h1, S1, i1, i2⟩ := m_35 (y := y) hW ⟨hy, by omega⟩ hd hb W.toNat fuel 0 r c h S (Int.le_refl 0) (by omega) hfu
    obtain ⟨r', c', h', S', j1, j2⟩ := m_26 hW hH hd hb k fu (y + 1) r1 c1 h1 S1 (by omega) (by omega) (by omega)
    refine ⟨r', c', h', S', fun e => ?_, fun j => ?_⟩
    · simp (disch := omega) only [f_L_drawings_26, z_lt_t]
      rw [i1]
      exact j1 e
    · rw [j2 j, i2 j, zS_add1]
      omega

end CT
section CU
variable {n cn ca : Int} {F Fc : Nat → Int} {L : List Int}
theorem t_dr {a b w a' b' w' : Nat → Int} {k v : Int} (h : f_X7_drawing n F a b w k = some (0, v, a', b', w')) : f_L_tryDrawing n F a b w k = some (v, a', b', w') := by
  unfold f_L_tryDrawing
  rw [h, z_bd]
  exact z_tg1 rfl
/-- one place is counted -/
theorem m_151s {P y v : Int} {D : Nat → Int} {e : (Nat → Int) × Int → Option (Int × Int × Int × Int × (Nat → Int) × (Nat → Int) × (Nat → Int))} {fu : Nat} (hp : f_L_tryAbout0 cn n ca Fc F 1 = some P) (hy : 0 ≤ y ∧ y < P ∧ P ≤ 1000) (hd : f_L_tryPlace0 n F y 5 = some v) (hv : -9 ≤ v ∧ v ≤ 122) : f_L_drawings_151 cn n ca Fc F e (fu + 1) D y = f_L_drawings_151 cn n ca Fc F e fu (va_up D (zi2 v) (D (zi2 v) + 1)) (y + 1) := by
  have hL := m_isL (v := v) (by omega)
  have e43 : ((43 : Int)).toNat = 43 := rfl
  have e44 : ((44 : Int)).toNat = 44 := rfl
  unfold zi2
  by_cases h1 : 97 ≤ v ∧ v ≤ 122
  · rw [if_pos h1] at hL ⊢
    simp (disch := omega) only [f_L_drawings_151, hp, z_lt_t, hd, z_bd, hL, z_jn, z_eq_f, z_in]
  · rw [if_neg h1] at hL ⊢
    by_cases h2 : 48 ≤ v ∧ v ≤ 57
    · rw [if_pos h2]
      have e1 : v - 48 + 30 = v - 18 := by omega
      simp (disch := omega) only [f_L_drawings_151, hp, z_lt_t, z_lt_f, hd, z_bd, hL, z_jn, z_eq_t, e1, z_in]
    · rw [if_neg h2]
      by_cases hlo : v < 48
      · rw [if_neg (by omega : ¬ v = 61)]
        simp (disch := omega) only [f_L_drawings_151, hp, z_lt_t, z_lt_f, hd, z_bd, hL, z_jn, z_eq_t, z_eq_f, z_in, e44]
      · by_cases h5 : v = 61
        · rw [if_pos h5]
          simp (disch := omega) only [f_L_drawings_151, hp, z_lt_t, z_lt_f, hd, z_bd, hL, z_jn, z_eq_t, z_eq_f, z_in, e43]
        · rw [if_neg h5]
          simp (disch := omega) only [f_L_drawings_151, hp, z_lt_t, z_lt_f, hd, z_bd, hL, z_jn, z_eq_t, z_eq_f, z_in, e44]
theorem zjx_b {j : Nat} {s : Int} (h : zjx j s) : j ≤ 43 ∧ zsi s = true := by
  unfold zjx at h
  refine ⟨by omega, ?_⟩
  simp only [zsi, decide_eq_true_eq]
  omega
theorem m_151 (hC : zCx 180 n F L) : ∀ (B A : List Int) (fu : Nat) (D : Nat → Int) (y : Int), L = A ++ B → y = (A.length : Int) → B.length + 1 < fu → ∃ D' : Nat → Int, (∀ (e : (Nat → Int) × Int → Option (Int × Int × Int × Int × (Nat → Int) × (Nat → Int) × (Nat → Int))), f_L_drawings_151 cn n ca Fc F e fu D y = e (D', (L.length : Int) + 1)) ∧ ∀ j s, zjx j s → D' j = D j + (zmc s B : Int)
  | [], A, 0, D, y, hL, hy, hf => by omega
  | [], A, fu + 1, D, y, hL, hy, hf => by
    have h180 := hC.1
    have lL : L.length = A.length := by rw [hL]; simp
    have hp := (t_ab (m_ab1 (cn := cn) (ca := ca) (Fc := Fc) hC)).2
    have hd := (t_pl (m_pl5 hC hL hy)).2
    have e0 : (if zsi (zhd ([] : List Int)) = true then zhd ([] : List Int) else (-9 : Int)) = -9 := rfl
    rw [e0] at hd
    obtain ⟨f1, rfl⟩ : ∃ f, fu = f + 1 := ⟨fu - 1, by simp at hf; omega⟩
    refine ⟨va_up D (zi2 (-9)) (D (zi2 (-9)) + 1), fun e => ?_, fun j s hj => ?_⟩
    · rw [m_151s hp ⟨by omega, by omega, by omega⟩ hd ⟨by omega, by omega⟩]
      simp (disch := omega) only [f_L_drawings_151, hp, z_bd, z_lt_f]
      rw [show y + 1 = (L.length : Int) + 1 by omega]
    · have := (zjx_b hj).1
      rw [zup_n, if_neg (by show ¬ (44 : Nat) = j; omega)]
      simp [zmc]
  | m :: t, A, 0, D, y, hL, hy, hf => by omega
  | m :: t, A, fu + 1, D, y, hL, hy, hf => by
    have h180 := hC.1
    have lL : L.length = A.length + (t.length + 1) := by rw [hL]; simp
    have hp := (t_ab (m_ab1 (cn := cn) (ca := ca) (Fc := Fc) hC)).2
    have hd := (t_pl (m_pl5 hC hL hy)).2
    have hm := (hC.at (A := A) (m := m) (T := t) hL hy).2.1
    have hv := zv_rc hm
    have hv2 : m ≤ 122 ∧ 1 ≤ m := by
      unfold zv at hm
      omega
    obtain ⟨v, ev⟩ : ∃ v, v = (if zsi (zhd (m :: t)) = true then zhd (m :: t) else (-9 : Int)) := ⟨_, rfl⟩
    rw [← ev] at hd
    have ev2 : v = if zsi m = true then m else -9 := ev
    have hvb : -9 ≤ v ∧ v ≤ 122 := by rw [ev2]; split <;> omega
    have hf' : t.length + 1 < fu := by simp at hf; omega
    obtain ⟨D', i1, i2⟩ := m_151 hC t (A ++ [m]) fu (va_up D (zi2 v) (D (zi2 v) + 1)) (y + 1) (by rw [hL]; simp) (by simp; omega) hf'
    refine ⟨D', fun e => ?_, fun j s hj => ?_⟩
    · rw [m_151s hp ⟨by omega, by omega, by omega⟩ hd hvb]
      exact i1 e
    · rw [i2 j s hj, zup_n, ← zi2_s hj hvb]
      have e1 : zis9 v s = zis9 m s := by
        rw [ev2]
        by_cases hs : zsi m = true
        · rw [if_pos hs]
        · rw [if_neg hs, zis9_n (fun z => (zjx_ok hj).2.2.2 z.symm), zis9_n (fun z => hs (by rw [z]; exact (zjx_b hj).2))]
      rw [e1]
      simp only [zmc]
      omega
theorem m_283 {S D : Nat → Int} (h : ∀ j : Nat, j ≤ 40 → S j = D j ∧ 0 ≤ D j ∧ D j ≤ 1000) : ∀ (k fu : Nat) (i : Int), i = 41 - (k : Int) → k ≤ 41 → k < fu → ∀ (e : Int × Int → Option (Int × Int × Int × Int × (Nat → Int) × (Nat → Int) × (Nat → Int))), f_L_drawings_283 S D e fu 1 i = e (1, 41)
  | k, 0, i, hi, hk, hf, e => by omega
  | 0, fu + 1, i, hi, hk, hf, e => by
    have ei : i = 41 := by omega
    subst ei
    simp (disch := omega) only [f_L_drawings_283, z_lt_f]
  | k + 1, fu + 1, i, hi, hk, hf, e => by
    obtain ⟨g1, g2, g3⟩ := h i.toNat (by omega)
    have ih := m_283 h k fu (i + 1) (by omega) (by omega) (by omega) e
    simp (disch := omega) only [f_L_drawings_283, z_lt_t, z_jn, z_eq_f, z_in, g1, z_eq_t]
    exact ih
theorem zmc_len (s : Int) : ∀ T : List Int, zmc s T ≤ T.length
  | [] => Nat.le_refl _
  | m :: t => by
    have := zmc_len s t
    simp only [zmc, zis9, List.length_cons]
    split <;> omega
theorem zes_len : ∀ T : List Int, zes T ≤ T.length
  | [] => Nat.le_refl _
  | m :: t => by
    have := zes_len t
    rw [zes_cons]
    simp only [List.length_cons]
    have : zeb m (zhd t) ≤ 1 := by unfold zeb; split <;> omega
    omega
theorem zmc_63 {L : List Int} (h : zbal L) : zmc 63 L = 0 := by
  refine zbal_ind2 (P := fun L => zmc 63 L = 0) rfl ?_ ?_ ?_ L.length L (Nat.le_refl _) h
  · intro m R hm hR ih
    simp only [zmc, ih]
    rw [zis9_n (fun z => by rw [z] at hm; exact absurd hm.2 (by decide))]
  · intro k I R h1 hI hR iI iR
    simp only [zmc, zmc_app, iI, iR]
    rw [zis9_n (by omega), zis9_n (by omega)]
  · intro I J R hI hJ hR iI iJ iR
    simp only [zmc, zmc_app, iI, iJ, iR]
    rw [zis9_n (by omega), zis9_n (by omega), zis9_n (by omega)]
/-- the signs of the drawing are as many as the formula asks -/
theorem m_drawings (hC : zCx 180 n F L) (hb : zbal L) (h6 : zcnt L ≤ 60) (h5 : zpk L ≤ 5) (r0 c0 h0 : Int) (a0 b0 w0 : Nat → Int) : ∃ r, f_L_drawings cn n ca r0 c0 h0 Fc F a0 b0 w0 = some r ∧ r.1 = 1 := by
  have h180 := hC.1
  obtain ⟨w1, a1, b1, g0, d0, -, -⟩ := m_drawing hC hb h6 w0 a0 b0
  obtain ⟨i0, i1, i2⟩ := m_drawing_id hC hb h6 g0
  obtain ⟨g, q1, q2, q3⟩ := m_drawn hC h5 hb h6 g0
  obtain ⟨⟨k1, k2⟩, k3⟩ := zdm_b hb
  obtain ⟨o1, o2, o3⟩ := zdm_o hb
  obtain ⟨f1, f2, f3, f4⟩ := zbf_1 (zdm_o hb)
  obtain ⟨W, hW⟩ : ∃ W, W = (zbf (zdm L)).1 := ⟨_, rfl⟩
  obtain ⟨A, hA⟩ : ∃ A, A = (zdm L).2.1 := ⟨_, rfl⟩
  obtain ⟨B, hB⟩ : ∃ B, B = (zdm L).2.2 := ⟨_, rfl⟩
  rw [← hW] at d0 i0 q1 q3 f1 f3 f4
  rw [← hA] at i1 i2 q1 q3 o2 k2
  rw [← hB] at i1 q1 q3 o3 k2
  have hfu : (A + 1 + B).toNat < fuel := by unfold fuel; omega
  obtain ⟨r', c', h', S, s1, s2⟩ := m_26 (W := W) (H := A + 1 + B) (A := A) (by omega) (by omega) q1 q2 (A + 1 + B).toNat fuel 0 r0 c0 h0 (fun _ => 0) (Int.le_refl 0) (by omega) hfu
  have hfu2 : L.length + 1 < fuel := by unfold fuel; omega
  obtain ⟨D, t1, t2⟩ := m_151 (cn := cn) (ca := ca) (Fc := Fc) hC L [] fuel (fun _ => 0) 0 rfl rfl hfu2
  have hS : ∀ j s, (zjx j s ∨ (s = 63 ∧ j = 41)) → zok s → S j = (zrc s L : Int) := by
    intro j s hj hs
    rw [s2 j, ← q3 s hs]
    unfold zG
    have e1 : zS 0 (A + 1 + B).toNat (fun y => zS 0 W.toNat (fun x => if zix (g x (y - A)) = j then 1 else 0)) = zS 0 (A + 1 + B).toNat (fun y => zS 0 W.toNat (fun x => zis9 (g x (y - A)) s)) :=
      zS_congr _ _ _ _ (fun y _ _ => zS_congr _ _ _ _ (fun x _ _ => (zix_s hj (q2 _ _)).symm))
    rw [e1, zS_swap]
    have e2 : z2 0 W.toNat 0 (A + 1 + B).toNat (fun x y => zis9 (g x (y - A)) s) = z2 0 W.toNat (-A) (A + 1 + B).toNat (fun x h => zis9 (g x h) s) := by
      unfold z2
      refine zS_congr _ _ _ _ (fun x _ _ => ?_)
      have := zS_shift (A + 1 + B).toNat 0 (-A) (fun h => zis9 (g x h) s)
      rw [show (0 : Int) + -A = -A by omega] at this
      exact this
    rw [e2]
    simp
  have hz63 := zmc_63 hb
  have hSD : ∀ j : Nat, (j ≤ 40 ∨ j = 43) → S j = D j ∧ 0 ≤ D j ∧ D j ≤ 1000 := by
    intro j hj
    obtain ⟨s, hs⟩ := zjx_ex hj
    obtain ⟨p1, p2, p3, p4⟩ := zjx_ok hs
    have e1 := hS j s (Or.inl hs) p1
    have e2 := t2 j s hs
    have e3 := zmc_len s L
    have e4 : zrc s L = zmc s L := by
      unfold zrc zri
      rw [if_neg p2, if_neg (fun z => p2 z.1)]
      rfl
    rw [e4] at e1
    refine ⟨?_, ?_, ?_⟩ <;> omega
  have hS41 : S 41 = (zes L : Int) + (if zcnt L = 0 then 1 else 0) := by
    have e1 := hS 41 63 (Or.inr ⟨rfl, rfl⟩) ⟨by omega, by omega, by omega, by omega⟩
    rw [e1]
    unfold zrc zri
    rw [hz63, if_pos rfl]
    by_cases hn : L = []
    · rw [if_pos ⟨rfl, hn⟩, if_pos (by rw [hn]; rfl)]; omega
    · have : zcnt L ≠ 0 := by
        obtain ⟨X, R, e, hX, hR⟩ := zitF hb hn
        obtain ⟨m, Z, e3, e4, -⟩ := zit_first hX
        rw [e, e3]
        simp only [List.cons_append, zcnt]
        rw [if_pos e4]
        omega
      rw [if_neg (fun z => hn z.2), if_neg this]; omega
  have hzl := zes_len L
  have y0 := t_dr d0
  have y1 := t_dr i1
  have y2 := t_dr i2
  have z4 := (t_ab (m_ab4 (cn := cn) (ca := ca) (Fc := Fc) hC)).1
  have z0 := (t_ab (m_ab0 (cn := cn) (ca := ca) (Fc := Fc) hC)).1
  have n41 : ((41 : Int)).toNat = 41 := rfl
  have n43 : ((43 : Int)).toNat = 43 := rfl
  have h43 := hSD 43 (Or.inr rfl)
  have hl := m_283 (S := S) (D := D) (fun j hj => hSD j (Or.inl hj)) 41 fuel 0 rfl (Nat.le_refl _) (by unfold fuel; omega)
  refine ⟨(1, r', c', h', a1, b1, w1), ?_, rfl⟩
  · unfold f_L_drawings
    rw [y0, z_bd]
    dsimp only
    rw [y1, z_bd]
    dsimp only
    rw [s1]
    dsimp only
    rw [t1]
    dsimp only
    rw [y2, z_bd]
    dsimp only
    by_cases hc0 : zcnt L = 0
    · rw [if_pos hc0] at hS41
      simp (disch := omega) only [z_jn, z_lt_t, z_in, z4, z0, z_bd, z_eq_t, z_eq_f, n41, hl, n43, z_gB]
    · rw [if_neg hc0] at hS41
      simp (disch := omega) only [z_jn, z_lt_t, z_in, z4, z0, z_bd, z_eq_t, z_eq_f, n41, hl, n43, z_gB]
end CU
