/-! p30: counting the signs of a drawing -/
def zS : Int → Nat → (Int → Nat) → Nat
  | _, 0, _ => 0
  | lo, n + 1, f => f lo + zS (lo + 1) n f
theorem zS_congr : ∀ (n : Nat) (lo : Int) (f g : Int → Nat), (∀ z, lo ≤ z → z < lo + n → f z = g z) → zS lo n f = zS lo n g
  | 0, lo, f, g, h => rfl
  | n + 1, lo, f, g, h => by
    simp only [zS]
    rw [h lo (by omega) (by omega), zS_congr n (lo + 1) f g (fun z h1 h2 => h z (by omega) (by omega))]
theorem zS_0 : ∀ (n : Nat) (lo : Int), zS lo n (fun _ => 0) = 0
  | 0, lo => rfl
  | n + 1, lo => by simp only [zS]; rw [zS_0 n]
theorem zS_z {n : Nat} {lo : Int} {f : Int → Nat} (h : ∀ z, lo ≤ z → z < lo + n → f z = 0) : zS lo n f = 0 := by
  rw [zS_congr n lo f (fun _ => 0) h, zS_0]
theorem zS_app : ∀ (m n : Nat) (lo : Int) (f : Int → Nat), zS lo (m + n) f = zS lo m f + zS (lo + m) n f
  | 0, n, lo, f => by simp [zS]
  | m + 1, n, lo, f => by
    rw [show m + 1 + n = (m + n) + 1 by omega]
    simp only [zS]
    rw [zS_app m n (lo + 1) f, show lo + 1 + (m : Int) = lo + ((m + 1 : Nat) : Int) by omega]
    omega
theorem zS_shift : ∀ (n : Nat) (lo k : Int) (f : Int → Nat), zS lo n (fun z => f (z + k)) = zS (lo + k) n f
  | 0, lo, k, f => rfl
  | n + 1, lo, k, f => by
    simp only [zS]
    rw [zS_shift n (lo + 1) k f, show lo + 1 + k = lo + k + 1 by omega]
theorem zS_plus : ∀ (n : Nat) (lo : Int) (f g : Int → Nat), zS lo n (fun z => f z + g z) = zS lo n f + zS lo n g
  | 0, lo, f, g => rfl
  | n + 1, lo, f, g => by
    simp only [zS]
    rw [zS_plus n]
    omega
theorem zS_win {N n : Nat} {lo p : Int} {f : Int → Nat} (h1 : lo ≤ p) (h2 : p + n ≤ lo + N) (h : ∀ z, lo ≤ z → z < lo + N → (z < p ∨ p + n ≤ z) → f z = 0) : zS lo N f = zS p n f := by
  obtain ⟨a, ha⟩ : ∃ a : Nat, (a : Int) = p - lo := ⟨(p - lo).toNat, by omega⟩
  obtain ⟨b, hb⟩ : ∃ b : Nat, (b : Int) = lo + N - (p + n) := ⟨(lo + N - (p + n)).toNat, by omega⟩
  rw [show N = a + (n + b) by omega, zS_app, zS_app, zS_z (n := a) (fun z g1 g2 => h z (by omega) (by omega) (Or.inl (by omega))), zS_z (n := b) (fun z g1 g2 => h z (by omega) (by omega) (Or.inr (by omega))), show lo + (a : Int) = p by omega]
  omega
def z2 (c : Int) (C : Nat) (r : Int) (R : Nat) (f : Int → Int → Nat) : Nat := zS c C (fun x => zS r R (fun h => f x h))
theorem z2_congr {c r : Int} {C R : Nat} {f g : Int → Int → Nat} (h : ∀ x y, c ≤ x → x < c + C → r ≤ y → y < r + R → f x y = g x y) : z2 c C r R f = z2 c C r R g :=
  zS_congr C c _ _ (fun x h1 h2 => zS_congr R r _ _ (fun y h3 h4 => h x y h1 h2 h3 h4))
theorem z2_plus {c r : Int} {C R : Nat} {f g : Int → Int → Nat} : z2 c C r R (fun x y => f x y + g x y) = z2 c C r R f + z2 c C r R g := by
  unfold z2
  rw [← zS_plus]
  exact zS_congr C c _ _ (fun x _ _ => zS_plus R r _ _)
theorem z2_app {c r : Int} {C D R : Nat} {f : Int → Int → Nat} : z2 c (C + D) r R f = z2 c C r R f + z2 (c + C) D r R f := zS_app C D c _
theorem z2_shift {c r k : Int} {C R : Nat} {f : Int → Int → Nat} : z2 c C r R (fun x y => f (x + k) y) = z2 (c + k) C r R f := zS_shift C c k (fun x => zS r R (fun y => f x y))
theorem z2_z {c r : Int} {C R : Nat} {f : Int → Int → Nat} (h : ∀ x y, c ≤ x → x < c + C → r ≤ y → y < r + R → f x y = 0) : z2 c C r R f = 0 :=
  zS_z (fun x h1 h2 => zS_z (fun y h3 h4 => h x y h1 h2 h3 h4))
theorem z2_win {c r p q : Int} {C R m n : Nat} {f : Int → Int → Nat} (h1 : c ≤ p) (h2 : p + m ≤ c + C) (h3 : r ≤ q) (h4 : q + n ≤ r + R) (h : ∀ x y, c ≤ x → x < c + C → r ≤ y → y < r + R → (x < p ∨ p + m ≤ x ∨ y < q ∨ q + n ≤ y) → f x y = 0) : z2 c C r R f = z2 p m q n f := by
  unfold z2
  rw [zS_win (p := p) (n := m) h1 h2 (fun x g1 g2 g3 => zS_z (fun y g4 g5 => h x y g1 g2 g4 g5 (by omega)))]
  exact zS_congr m p _ _ (fun x g1 g2 => zS_win h3 h4 (fun y g4 g5 g6 => h x y (by omega) (by omega) g4 g5 (by omega)))
/-- is it this sign -/
def zis9 (v s : Int) : Nat := if v = s then 1 else 0
theorem zis9_n {v s : Int} (h : v ≠ s) : zis9 v s = 0 := if_neg h
/-- a box laid somewhere, blanks around it -/
def zpl (g : Int → Int → Int) (w a b sx sh x h : Int) : Int := if (0 ≤ x - sx ∧ x - sx < w) ∧ (-a ≤ h - sh ∧ h - sh ≤ b) then g (x - sx) (h - sh) else 32
theorem zpl_in {g : Int → Int → Int} {w a b sx sh x h : Int} (q : (0 ≤ x - sx ∧ x - sx < w) ∧ (-a ≤ h - sh ∧ h - sh ≤ b)) : zpl g w a b sx sh x h = g (x - sx) (h - sh) := if_pos q
theorem zpl_out {g : Int → Int → Int} {w a b sx sh x h : Int} (q : ¬ ((0 ≤ x - sx ∧ x - sx < w) ∧ (-a ≤ h - sh ∧ h - sh ≤ b))) : zpl g w a b sx sh x h = 32 := if_neg q
/-- the signs of a box: how often s -/
def zG (g : Int → Int → Int) (w a b s : Int) : Nat := z2 0 w.toNat (-a) (a + 1 + b).toNat (fun x h => zis9 (g x h) s)
theorem zpl_count {g : Int → Int → Int} {w a b sx sh s c r : Int} {C R : Nat} (hs : s ≠ 32) (hw : 0 ≤ w) (ha : 0 ≤ a) (hb : 0 ≤ b) (h1 : c ≤ sx) (h2 : sx + w ≤ c + C) (h3 : r ≤ sh - a) (h4 : sh + b + 1 ≤ r + R) : z2 c C r R (fun x h => zis9 (zpl g w a b sx sh x h) s) = zG g w a b s := by
  rw [z2_win (p := sx) (q := sh - a) (m := w.toNat) (n := (a + 1 + b).toNat) h1 (by omega) h3 (by omega) (fun x y g1 g2 g3 g4 g5 => by
    rw [zpl_out (by omega)]
    exact zis9_n (fun z => hs z.symm))]
  unfold zG
  rw [show sx = 0 + sx by omega, ← z2_shift]
  unfold z2
  refine zS_congr _ _ _ _ (fun x g1 g2 => ?_)
  rw [show 0 + sx = sx by omega, show sh - a = -a + sh by omega, ← zS_shift]
  refine zS_congr _ _ _ _ (fun y g3 g4 => ?_)
  show zis9 (zpl g w a b sx sh (x + sx) (y + sh)) s = zis9 (g x y) s
  rw [zpl_in (by omega), show x + sx - sx = x by omega, show y + sh - sh = y by omega]
/-- how often a sign stands in a row: the marks that are it; for the question mark the empty rows -/
def zmc (s : Int) : List Int → Nat
  | [] => 0
  | m :: t => zis9 m s + zmc s t
theorem zmc_app (s : Int) : ∀ (A B : List Int), zmc s (A ++ B) = zmc s A + zmc s B
  | [], B => by simp [zmc]
  | m :: A, B => by simp only [List.cons_append, zmc, zmc_app s A B]; omega
def zri (s : Int) (T : List Int) : Nat := zmc s T + (if s = 63 then zes T else 0)
def zrc (s : Int) (T : List Int) : Nat := zri s T + (if s = 63 ∧ T = [] then 1 else 0)
/-- a sign that only symbols and empty rows make -/
def zok (s : Int) : Prop := 42 ≤ s ∧ s ≠ 45 ∧ s ≠ 95 ∧ s ≠ 86
theorem zes_app {A B : List Int} (hA : zbal A) : zes (A ++ B) = zes A + zes B := by
  by_cases hn : A = []
  · subst hn; simp [zes]
  · have key : ∀ (A0 : List Int) (o : Int), ¬ (1 ≤ o ∧ o ≤ 6) → ∀ B, zes (A0 ++ o :: B) = zes (A0 ++ [o]) + zes B := by
      intro A0 o ho B
      induction A0 with
      | nil =>
        show zeb o (zhd B) + zes B = zeb o (zhd []) + zes [] + zes B
        have : ∀ q, zeb o q = 0 := fun q => by unfold zeb; rw [if_neg (fun z => ho z.1)]
        rw [this, this]
        show 0 + zes B = 0 + 0 + zes B
        omega
      | cons m t ih =>
        show zeb m (zhd (t ++ o :: B)) + zes (t ++ o :: B) = zeb m (zhd (t ++ [o])) + zes (t ++ [o]) + zes B
        have : zhd (t ++ o :: B) = zhd (t ++ [o]) := by cases t <;> rfl
        rw [this, ih]
        omega
    obtain ⟨A0, o, e⟩ : ∃ A0 o, A = A0 ++ [o] := by
      rcases List.eq_nil_or_concat A with h | ⟨A0, m, h⟩
      · exact absurd h hn
      · exact ⟨A0, m, by rw [h, List.concat_eq_append]⟩
    have ho : ¬ (1 ≤ o ∧ o ≤ 6) := zlast9 (P := []) (P0 := A0) hA hn (by rw [List.nil_append]; exact e)
    rw [e, List.append_assoc]
    exact key A0 o ho B
theorem zri_app {s : Int} {A B : List Int} (hA : zbal A) : zri s (A ++ B) = zri s A + zri s B := by
  unfold zri
  rw [zmc_app, zes_app hA]
  split <;> omega
theorem zes_cons {m : Int} {t : List Int} : zes (m :: t) = zeb m (zhd t) + zes t := rfl
theorem zhd_row {I : List Int} {c : Int} {t : List Int} (hI : zbal I) (hc : zsi c = false) : zsi (zhd (I ++ c :: t)) = decide (I ≠ []) := by
  by_cases hn : I = []
  · subst hn
    rw [decide_eq_false (by simp)]
    exact hc
  · obtain ⟨X, R, rfl, hX, hR⟩ := zitF hI hn
    obtain ⟨m, Y, e, h1, -⟩ := zit_first hX
    subst e
    rw [decide_eq_true hn]
    exact h1
theorem zri_k {s k : Int} {I : List Int} (hs : zok s) (hk : 2 ≤ k ∧ k ≤ 5) (hI : zbal I) : zri s (k :: (I ++ [k + 10])) = zrc s I := by
  have hs2 : 42 ≤ s := hs.1
  have hcl : zsi (k + 10) = false := by simp [zsi]; omega
  have h1 : zmc s (k :: (I ++ [k + 10])) = zmc s I := by
    simp only [zmc, zmc_app]
    rw [zis9_n (by omega), zis9_n (by omega)]; omega
  have h2 : zes (k :: (I ++ [k + 10])) = (if I = [] then 1 else 0) + zes I := by
    rw [zes_cons, zes_app hI]
    have e1 : zes [k + 10] = 0 := by
      show zeb (k + 10) (zhd []) + 0 = 0
      unfold zeb; rw [if_neg (by omega)]
    have e2 : zeb k (zhd (I ++ [k + 10])) = if I = [] then 1 else 0 := by
      unfold zeb
      rw [zhd_row hI hcl]
      by_cases hn : I = []
      · rw [if_pos hn, if_pos ⟨by omega, decide_eq_false (by simpa using hn)⟩]
      · rw [if_neg hn, if_neg (fun z => by have := z.2; rw [decide_eq_true hn] at this; cases this)]
    rw [e1, e2]; omega
  unfold zrc zri
  rw [h1, h2]
  by_cases h63 : s = 63
  · rw [if_pos h63, if_pos h63]
    by_cases hn : I = []
    · rw [if_pos hn, if_pos ⟨h63, hn⟩]; omega
    · rw [if_neg hn, if_neg (fun z => hn z.2)]; omega
  · rw [if_neg h63, if_neg h63, if_neg (fun z => h63 z.1)]
theorem zri_q {s : Int} {I J : List Int} (hs : zok s) (hI : zbal I) (hJ : zbal J) : zri s (1 :: (I ++ 6 :: (J ++ [11]))) = zrc s I + zrc s J := by
  have hs2 : 42 ≤ s := hs.1
  have h6 : zsi 6 = false := by decide
  have h11 : zsi 11 = false := by decide
  have h1 : zmc s (1 :: (I ++ 6 :: (J ++ [11]))) = zmc s I + zmc s J := by
    simp only [zmc, zmc_app]
    rw [zis9_n (by omega), zis9_n (by omega), zis9_n (by omega)]; omega
  have h2 : zes (1 :: (I ++ 6 :: (J ++ [11]))) = ((if I = [] then 1 else 0) + zes I) + ((if J = [] then 1 else 0) + zes J) := by
    rw [zes_cons, zes_app hI, zes_cons, zes_app hJ]
    have e1 : zes [11] = 0 := by decide
    have e2 : zeb 1 (zhd (I ++ 6 :: (J ++ [11]))) = if I = [] then 1 else 0 := by
      unfold zeb
      rw [zhd_row hI h6]
      by_cases hn : I = []
      · rw [if_pos hn, if_pos ⟨by omega, decide_eq_false (by simpa using hn)⟩]
      · rw [if_neg hn, if_neg (fun z => by have := z.2; rw [decide_eq_true hn] at this; cases this)]
    have e3 : zeb 6 (zhd (J ++ [11])) = if J = [] then 1 else 0 := by
      unfold zeb
      rw [zhd_row hJ h11]
      by_cases hn : J = []
      · rw [if_pos hn, if_pos ⟨by omega, decide_eq_false (by simpa using hn)⟩]
      · rw [if_neg hn, if_neg (fun z => by have := z.2; rw [decide_eq_true hn] at this; cases this)]
    rw [e1, e2, e3]; omega
  unfold zrc zri
  rw [h1, h2]
  by_cases h63 : s = 63
  · rw [if_pos h63, if_pos h63, if_pos h63]
    by_cases hn : I = []
    · by_cases hm : J = []
      · rw [if_pos hn, if_pos hm, if_pos ⟨h63, hn⟩, if_pos ⟨h63, hm⟩]; omega
      · rw [if_pos hn, if_neg hm, if_pos ⟨h63, hn⟩, if_neg (fun z => hm z.2)]; omega
    · by_cases hm : J = []
      · rw [if_neg hn, if_pos hm, if_neg (fun z => hn z.2), if_pos ⟨h63, hm⟩]; omega
      · rw [if_neg hn, if_neg hm, if_neg (fun z => hn z.2), if_neg (fun z => hm z.2)]; omega
  · rw [if_neg h63, if_neg h63, if_neg h63, if_neg (fun z => h63 z.1), if_neg (fun z => h63 z.1)]; omega
