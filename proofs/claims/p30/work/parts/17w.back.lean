/-! p30: step by step through the law's own methods -/
def zW {ρ : Type} (P : ρ → Prop) (X : Option ρ) : Prop := ∃ r, X = some r ∧ P r
section WS
variable {α ρ : Type} {P : ρ → Prop} {A B : Option ρ} {a b : Int}
theorem w_of {X Y : Option ρ} (h : X = Y) (k : zW P Y) : zW P X := by rw [h]; exact k
theorem w_bd {x : Option α} {v : α} {f : α → Option ρ} (h : x = some v) (k : zW P (f v)) : zW P (bd x f) := w_of (by rw [h, z_bd]) k
theorem w_jn {K : α → Option ρ} {b : (α → Option ρ) → Option ρ} (k : zW P (b K)) : zW P (jn K b) := w_of (z_jn K b) k
theorem w_use (Q : α → Prop) {K : α → Option ρ} {b : (α → Option ρ) → Option ρ} (h1 : ∀ v, Q v → zW P (K v)) (h2 : ∀ K, (∀ v, Q v → zW P (K v)) → zW P (b K)) : zW P (jn K b) := w_of (z_jn K b) (h2 K h1)
theorem w_eqt (h : ((-2147483648 ≤ a ∧ a ≤ 2147483647) ∧ (-2147483648 ≤ b ∧ b ≤ 2147483647)) ∧ a = b) (k : zW P A) : zW P (cEq a b A B) := w_of (z_eq_t h) k
theorem w_eqf (h : ((-2147483648 ≤ a ∧ a ≤ 2147483647) ∧ (-2147483648 ≤ b ∧ b ≤ 2147483647)) ∧ ¬ a = b) (k : zW P B) : zW P (cEq a b A B) := w_of (z_eq_f h) k
theorem w_ltt (h : ((-2147483648 ≤ a ∧ a ≤ 2147483647) ∧ (-2147483648 ≤ b ∧ b ≤ 2147483647)) ∧ a < b) (k : zW P A) : zW P (cLt a b A B) := w_of (z_lt_t h) k
theorem w_ltf (h : ((-2147483648 ≤ a ∧ a ≤ 2147483647) ∧ (-2147483648 ≤ b ∧ b ≤ 2147483647)) ∧ ¬ a < b) (k : zW P B) : zW P (cLt a b A B) := w_of (z_lt_f h) k
theorem w_gR (h : -2147483648 ≤ a ∧ a ≤ 2147483647) (k : zW P A) : zW P (gR a A) := w_of (z_gR h) k
theorem w_gB (h : a = 0 ∨ a = 1) (k : zW P A) : zW P (gB a A) := w_of (z_gB h) k
theorem w_in {n : Nat} (h : 0 ≤ a ∧ a < (n : Int) ∧ a ≤ 2147483647) (k : zW P A) : zW P (gIn a n A) := w_of (z_in h) k
theorem w_some {v : ρ} (h : P v) : zW P (some v) := ⟨v, rfl, h⟩
end WS
theorem m_symb {x : Int} (hx : 0 ≤ x ∧ x ≤ 2147483647) : ∃ v, f_L_symbol x = some v ∧ zsy v = true := by
  have ht : 0 ≤ x.tmod 24 ∧ x.tmod 24 < 24 := by
    rw [Int.tmod_eq_emod_of_nonneg hx.1]
    omega
  unfold f_L_symbol
  rw [z_gR (by omega), z_jn]
  generalize x.tmod 24 = k at *
  by_cases h1 : k < 10
  · exact ⟨97 + k, z_lt_t (by omega), by simp [zsy, zle, zdi, zmk]; omega⟩
  · rw [z_lt_f (by omega)]
    by_cases h2 : k < 16
    · exact ⟨48 + k - 10, z_lt_t (by omega), by simp [zsy, zle, zdi, zmk]; omega⟩
    · rw [z_lt_f (by omega)]
      by_cases h3 : k = 16
      · exact ⟨43, z_eq_t (by omega), by decide⟩
      · rw [z_eq_f (by omega)]
        by_cases h4 : k = 17
        · exact ⟨45, z_eq_t (by omega), by decide⟩
        · rw [z_eq_f (by omega)]
          by_cases h5 : k = 18
          · exact ⟨42, z_eq_t (by omega), by decide⟩
          · rw [z_eq_f (by omega)]
            by_cases h6 : k = 19
            · exact ⟨61, z_eq_t (by omega), by decide⟩
            · rw [z_eq_f (by omega)]
              by_cases h7 : k = 20
              · exact ⟨44, z_eq_t (by omega), by decide⟩
              · rw [z_eq_f (by omega)]
                by_cases h8 : k = 21
                · exact ⟨46, z_eq_t (by omega), by decide⟩
                · exact ⟨120, z_eq_f (by omega), by decide⟩
/-- an editor in a state, what was found so far being good -/
def zq11 (A S B : List Int) (v : Int × Int × Int × Int × Int × (Nat → Int) × (Nat → Int) × (Nat → Int) × (Nat → Int) × (Nat → Nat → Int) × Int) : Prop := v.2.2.2.2.2.2.2.2.2.2 = 1 ∧ zHh v.1 v.2.1 v.2.2.2.2.2.2.1 v.2.2.2.2.2.2.2.1 v.2.2.2.2.2.2.2.2.1 v.2.2.2.2.2.2.2.2.2.1 ∧ zCs v.2.2.1 v.2.2.2.1 v.2.2.2.2.1 v.2.2.2.2.2.1 A S B
/-- what the method leaves -/
def zPb (Lc L : List Int) (r : Int × Int × Int × Int × Int × Int × Int × (Nat → Int) × (Nat → Int) × (Nat → Int) × (Nat → Int) × (Nat → Int) × (Nat → Nat → Int)) : Prop := r.1 = 1 ∧ zHh r.2.2.1 r.2.2.2.1 r.2.2.2.2.2.2.2.2.2.1 r.2.2.2.2.2.2.2.2.2.2.1 r.2.2.2.2.2.2.2.2.2.2.2.1 r.2.2.2.2.2.2.2.2.2.2.2.2 ∧ (∃ A S B, zI A S B ∧ zCs r.2.2.2.2.1 r.2.2.2.2.2.1 r.2.2.2.2.2.2.1 r.2.2.2.2.2.2.2.2.1 A S B) ∧ zCx 180 r.2.1 r.2.2.2.2.2.2.2.1 (if L = [] then Lc else L)
set_option maxHeartbeats 4000000 in
theorem m_back {o c n ca fr cn n' ca' cn' x : Int} {rS rC rM F Fc F' Fc' : Nat → Int} {rF : Nat → Nat → Int} {A S B Lc : List Int} (hx : 0 ≤ x ∧ x ≤ 2147483647) (hI : zI A S B) (hC : zCs n ca fr F A S B) (hH : zHh o c rS rC rM rF) (hc : zCx 180 cn Fc Lc) (hC' : zCx 180 n' F' (A ++ (S ++ B))) : zW (zPb Lc (A ++ (S ++ B))) (f_L_back cn o c n ca fr Fc F rS rC rM rF cn' n' ca' Fc' F' x) := by
  have hl := hI.len
  obtain ⟨L, hL⟩ : ∃ L, L = A ++ (S ++ B) := ⟨_, rfl⟩
  have lL : L.length = A.length + (S.length + B.length) := by rw [hL]; simp
  have hcnt : zcnt L ≤ 60 := by rw [hL]; exact hI.2.1
  have hpk : zpk L ≤ 5 := by rw [hL]; exact hI.2.2
  have hbL : zbal L := by rw [hL]; exact hI.bal
  have hb2 := zcnt_b L
  have hat : 0 ≤ x.tmod ((L.length : Int) + 1) ∧ x.tmod ((L.length : Int) + 1) ≤ L.length := by
    rw [Int.tmod_eq_emod_of_nonneg hx.1]
    have h1 := Int.emod_nonneg x (show (L.length : Int) + 1 ≠ 0 by omega)
    have h2 := Int.emod_lt_of_pos x (show 0 < (L.length : Int) + 1 by omega)
    omega
  obtain ⟨P, Q, e1, e2⟩ := zat (L := L) (x := x.tmod ((L.length : Int) + 1)) hat
  have lPQ : L.length = P.length + Q.length := by rw [← e1]; simp
  obtain ⟨mt1, mt2, mt3⟩ := m_moveTo hI hC (A' := P) (B' := Q) (by rw [e1, hL])
  have a1 := (t_ab (m_ab1 (cn := cn) (ca := ca) (Fc := Fc) hC.1)).1
  have a0 := (t_ab (m_ab0 (cn := cn) (ca := ca) (Fc := Fc) hC.1)).1
  rw [← hL] at a1 a0
  have hca : ca = (A.length : Int) + S.length := hC.2.1
  have hC'L : zCx 180 n' F' L := by rw [hL]; exact hC'
  have heq : ∀ {cn n1 ca1 : Int} {Fc F1 : Nat → Int}, zCx 180 n1 F1 L → f_L_equal cn n1 ca1 Fc F1 cn' n' ca' Fc' F' = some 1 := fun h => m_equal h hC'L hbL hcnt hpk
  have e1' : P ++ ([] ++ Q) = L := by rw [List.nil_append]; exact e1
  rw [← hL]
  unfold f_L_back
  refine w_bd a1 ?_
  refine w_bd a0 ?_
  refine w_gR (by omega) ?_
  refine w_gR (by omega) ?_
  refine w_of (if_neg (by omega)) ?_
  rw [e2]
  refine w_bd mt1 ?_
  -- the caret went there
  refine w_use (fun z : Int => z = 1) ?_ (fun k5 hk5 => ?_)
  rotate_left 1
  · refine w_jn ?_
    refine w_ltf (by (try dsimp only); omega) ?_
    refine w_bd (t_ab m_ab2).1 ?_
    refine w_eqt (by (try dsimp only); omega) ?_
    refine w_bd (t_sl (m_sel mt3 mt2).1).1 ?_
    refine w_eqt ⟨by decide, rfl⟩ ?_
    refine w_bd (t_sl (m_sel mt3 mt2).2.2).1 ?_
    refine w_eqt (by omega) ?_
    exact hk5 1 rfl
  intro z10 hz10
  subst hz10
  refine w_use (zq11 P [] Q) ?_ (fun k11 hk11 => ?_)
  rotate_left 1
  · -- typed, wrapped, each taken back
    by_cases h60 : zcnt L < 60
    · refine w_ltt (by omega) ?_
      refine w_eqf (by omega) ?_
      obtain ⟨sy, y1, y2⟩ := m_symb hx
      have hsy := zsy_b y2
      have hPQ : zcnt (P ++ Q) < 60 := by rw [e1]; exact h60
      have eP : zcnt (P ++ Q) = zcnt L := by rw [e1]
      obtain ⟨o1, c1, n1, ca1, F1, rS1, rC1, rM1, rF1, t1, t2, t3, t4⟩ := m_type hH mt3 mt2 y2 hPQ
      rw [eP] at t1
      obtain ⟨o2, c2, n2, ca2, F2, rS2, rC2, rM2, rF2, b1, b2, b3⟩ := m_bk_sym t4 y2 t3 t2
      refine w_bd y1 ?_
      refine w_bd t1 ?_
      refine w_use (zq11 P [] Q) ?_ (fun k15 hk15 => ?_)
      rotate_left 1
      · refine w_jn ?_
        refine w_eqt (by (try dsimp only); omega) ?_
        refine w_bd (t_ab m_ab2).1 ?_
        have hca1 : ca1 = (P.length : Int) + 1 := by have := t2.2.1; simp at this; omega
        refine w_eqt (by (try dsimp only); omega) ?_
        have pl := (t_pl (m_pl5 t2.1 (A := P) (B := sy :: Q) (by simp) rfl)).1
        have epl : (if zsi (zhd (sy :: Q)) = true then zhd (sy :: Q) else -9) = sy := by
          show (if zsi sy = true then sy else -9) = sy
          rw [if_pos (by simp only [zsi, decide_eq_true_eq]; omega)]
        rw [epl] at pl
        refine w_bd pl ?_
        refine w_bd y1 ?_
        refine w_eqt (by omega) ?_
        refine w_bd b1 ?_
        refine w_eqt (by (try dsimp only); omega) ?_
        refine w_bd (t_ab m_ab2).1 ?_
        have hca2 : ca2 = (P.length : Int) := by have := b2.2.1; simp at this; omega
        refine w_eqt (by (try dsimp only); omega) ?_
        refine w_bd (heq (by rw [← e1']; exact b2.1)) ?_
        refine w_eqf (by (try dsimp only); omega) ?_
        exact hk15 _ ⟨rfl, b3, b2⟩
      rintro ⟨o3, c3, n3, ca3, fr3, F3, rS3, rC3, rM3, rF3, g3⟩ ⟨q1, q2, q3⟩
      dsimp only at q1 q2 q3
      subst q1
      have hkd : 1 ≤ 1 + (x.tdiv 64).tmod 5 ∧ 1 + (x.tdiv 64).tmod 5 ≤ 5 := by
        rw [Int.tdiv_eq_ediv_of_nonneg hx.1, Int.tmod_eq_emod_of_nonneg (by omega)]
        omega
      have hdv : 0 ≤ x.tdiv 64 ∧ x.tdiv 64 ≤ 2147483647 := by
        rw [Int.tdiv_eq_ediv_of_nonneg hx.1]
        omega
      refine w_gR (by omega) ?_
      refine w_gR (by omega) ?_
      obtain ⟨kd, ekd⟩ : ∃ kd, kd = 1 + (x.tdiv 64).tmod 5 := ⟨_, rfl⟩
      rw [← ekd] at hkd ⊢
      have plv := (t_pl (m_pl0 q3.1 (A := P) (B := [] ++ Q) rfl rfl)).1
      have hlv : 0 ≤ zlv P ∧ zlv P ≤ 5 := by
        have z1 := zpk_lv P
        have z2 : zpk P ≤ zpk (P ++ Q) := zpk_le
        rw [e1] at z2
        exact ⟨zpre0 (A := P) (B := Q) (by rw [e1]; exact hbL), by omega⟩
      rcases m_wrap q2 mt3 q3 hkd hPQ with ⟨w1, w2⟩ | ⟨w1, o4, c4, n4, ca4, F4, rS4, rC4, rM4, rF4, w2, w3, w4, w5⟩
      · refine w_bd w2 ?_
        refine w_jn ?_
        refine w_jn ?_
        refine w_eqf (by (try dsimp only); omega) ?_
        refine w_bd plv ?_
        refine w_jn ?_
        refine w_eqt (by omega) ?_
        refine w_eqt (by (try dsimp only); omega) ?_
        exact hk11 _ ⟨rfl, q2, q3⟩
      · refine w_bd w2 ?_
        refine w_jn ?_
        refine w_jn ?_
        refine w_eqf (by (try dsimp only); omega) ?_
        have pl4 := (t_pl (m_pl0 w3.1 (A := P) (B := [kd] ++ ([] ++ zwE kd Q)) (by simp) rfl)).1
        refine w_bd pl4 ?_
        refine w_jn ?_
        refine w_eqf (by omega) ?_
        refine w_eqt (by (try dsimp only); omega) ?_
        have a14 := (t_ab (m_ab1 (cn := cn) (ca := ca4) (Fc := Fc) w3.1)).1
        have l14 : ((P ++ [kd] ++ ([] ++ zwE kd Q)).length : Int) = (L.length : Int) + (if kd = 1 then 3 else 2) := by
          unfold zwE
          split <;> simp <;> omega
        rw [l14] at a14
        refine w_bd a14 ?_
        have hca4 : ca4 = (P.length : Int) + 1 := by have := w3.2.1; simp at this; omega
        have pl5 := (t_pl (m_pl5 w3.1 (A := P) (B := kd :: zwE kd Q) (by simp) rfl)).1
        have epl5 : (if zsi (zhd (kd :: zwE kd Q)) = true then zhd (kd :: zwE kd Q) else -9) = kd := by
          show (if zsi kd = true then kd else -9) = kd
          rw [if_pos (by simp only [zsi, decide_eq_true_eq]; omega)]
        rw [epl5] at pl5
        have a04 := (t_ab (m_ab0 (cn := cn) (ca := ca4) (Fc := Fc) w3.1)).1
        have l04 : (zcnt (P ++ [kd] ++ ([] ++ zwE kd Q)) : Int) = (zcnt L : Int) + 1 := by
          have z1 : zcnt ([kd] : List Int) = 1 := by
            simp only [zcnt]; rw [if_pos (by simp only [zsi, decide_eq_true_eq]; omega)]
          have z2 : zcnt (zwE kd Q) = zcnt Q := by
            unfold zwE
            split
            · show (if zsi 6 = true then 1 else 0) + ((if zsi 11 = true then 1 else 0) + zcnt Q) = zcnt Q
              rw [if_neg (by decide), if_neg (by decide)]; omega
            · show (if zsi (kd + 10) = true then 1 else 0) + zcnt Q = zcnt Q
              rw [if_neg (by simp only [zsi, decide_eq_true_eq]; omega)]; omega
          rw [List.nil_append, zcnt_app, zcnt_app, z1, z2, ← e1, zcnt_app]; omega
        rw [l04] at a04
        obtain ⟨o5, c5, n5, ca5, F5, rS5, rC5, rM5, rF5, b5, b6, b7⟩ := m_bk_str w5 hkd w4 w3
        have hca5 : ca5 = (P.length : Int) := by have := b6.2.1; simp at this; omega
        refine w_use (fun z : Int => z = (if kd = 1 then 3 else 2)) ?_ (fun k30 hk30 => ?_)
        · intro z31 hz
          subst hz
          refine w_eqt (by split <;> omega) ?_
          refine w_bd pl5 ?_
          refine w_eqt (by omega) ?_
          refine w_bd a04 ?_
          refine w_eqt (by omega) ?_
          refine w_bd b5 ?_
          refine w_eqt (by (try dsimp only); omega) ?_
          refine w_bd (t_ab m_ab2).1 ?_
          refine w_eqt (by (try dsimp only); omega) ?_
          refine w_bd (heq (by rw [← e1']; exact b6.1)) ?_
          refine w_eqf (by (try dsimp only); omega) ?_
          exact hk11 _ ⟨rfl, b7, b6⟩
        · by_cases hk1 : kd = 1
          · refine w_eqt (by omega) ?_
            exact hk30 3 (by rw [if_pos hk1])
          · refine w_eqf (by omega) ?_
            exact hk30 2 (by rw [if_neg hk1])
    · refine w_ltf (by omega) ?_
      exact hk11 _ ⟨rfl, hH, mt2⟩
  rintro ⟨o3, c3, n3, ca3, fr3, F3, rS3, rC3, rM3, rF3, g3⟩ ⟨q1, q2, q3⟩
  dsimp only at q1 q2 q3
  subst q1
  -- grown to the whole
  obtain ⟨kg, g1, g2, g3, g4, g5⟩ := zgf_ex mt3
  have hgr : ∃ (v4 ca4 fr4 : Int), f_L_tryGrow n3 ca3 fr3 F3 = some (v4, ca4, fr4) ∧ ∃ ca' fr' y7' : Int, (∀ (e : Int × Int × Int × Int × Int → Option (Int × Int × Int × Int × Int × Int × Int × (Nat → Int) × (Nat → Int) × (Nat → Int) × (Nat → Int) × (Nat → Int) × (Nat → Nat → Int))), f_L_back_289 cn n3 Fc F3 e 24 ca4 fr4 1 0 v4 = e (ca', fr', 1, y7', -1003)) ∧ (0 ≤ y7' ∧ y7' < 20) ∧ zCs n3 ca' fr' F3 [] L [] ∧ zI [] L [] := by
    rcases m_grow mt3 q3 g1 with ⟨u1, u2, u3⟩ | ⟨A', S', B', ca4, fr4, k', u1, u2, u3, u4, u5, u6, u7⟩
    · obtain ⟨ca', fr', y7', i1, i2, i3, i4⟩ := m_289 (cn := cn) (Fc := Fc) 24 P [] Q ca3 fr3 0 (-1003) kg mt3 q3 g1 (Int.le_refl 0) (Or.inl ⟨rfl, u2, u3, by omega, by omega⟩)
      rw [e1'] at i3 i4
      exact ⟨_, _, _, u1, ca', fr', y7', i1, i2, i3, i4⟩
    · obtain ⟨ca', fr', y7', i1, i2, i3, i4⟩ := m_289 (cn := cn) (Fc := Fc) 24 A' S' B' ca4 fr4 0 (zni 0 S' : Int) k' u3 u2 u6 (Int.le_refl 0) (Or.inr ⟨rfl, u4, by omega, by omega⟩)
      rw [u5, e1'] at i3 i4
      exact ⟨_, _, _, u1, ca', fr', y7', i1, i2, i3, i4⟩
  obtain ⟨v4, ca4, fr4, u1, ca5, fr5, y75, i1, i2, i3, i4⟩ := hgr
  refine w_bd u1 ?_
  refine w_of (i1 _) ?_
  refine w_use (fun z : Int => z = 1) ?_ (fun k53 hk53 => ?_)
  rotate_left 1
  · refine w_jn ?_
    refine w_eqf (by (try dsimp only); omega) ?_
    refine w_ltt (by (try dsimp only); omega) ?_
    refine w_bd (t_sl (m_sel i4 i3).2.1).1 ?_
    refine w_eqt (by omega) ?_
    exact hk53 1 rfl
  intro z56 hz56
  subst hz56
  refine w_jn ?_
  by_cases hn : L = []
  · have hz0 : zcnt L = 0 := by rw [hn]; rfl
    refine w_ltf (by omega) ?_
    refine w_gB (Or.inr rfl) ?_
    refine w_some ⟨rfl, q2, ⟨[], L, [], i4, i3⟩, ?_⟩
    rw [if_pos hn]
    exact hc
  · have hz1 : 1 ≤ zcnt L := by
      obtain ⟨X, R, e, hX, hR⟩ := zitF hbL hn
      obtain ⟨m, Z, e3, e4, -⟩ := zit_first hX
      rw [e, e3]
      simp only [List.cons_append, zcnt]
      rw [if_pos e4]
      omega
    refine w_ltt (by omega) ?_
    refine w_eqf (by (try dsimp only); omega) ?_
    obtain ⟨cn6, Fc6, s1, s2, s3⟩ := m_copy i4 i3 hn cn Fc
    obtain ⟨o7, c7, n7, ca7, F7, rS7, rC7, rM7, rF7, s4, s5, s6⟩ := m_bk_sel q2 i4 i3 hn
    have i7 : zI [] [] [] := i4.del
    obtain ⟨o8, c8, n8, ca8, F8, rS8, rC8, rM8, rF8, s7, s8, s9, s10⟩ := m_paste s6 i7 s5 s3 s2 hn
    have hca8 : ca8 = (L.length : Int) := by have := s8.2.1; simp at this; omega
    have hCL8 : zCx 180 n8 F8 L := by have := s8.1; simpa using this
    have x1 := m_ext_r0 hbL s8
    obtain ⟨ca9, fr9, A9, S9, x2, x3, x4, x5⟩ := m_ext_l1 hbL hn s9 s8
    obtain ⟨x6, x7, x8⟩ := m_front x4 x3
    rw [x5] at x7 x8
    have x9 := m_bk_no (o := o8) (c := c8) (rS := rS8) (rC := rC8) (rM := rM8) (rF := rF8) x7
    have x10 := m_ext_l0 x7
    obtain ⟨ca11, fr11, S11, B11, x11, x12, x13, x14⟩ := m_ext_r1 hbL hn x8 x7
    have a17 := (t_ab (m_ab1 (cn := cn6) (ca := ca7) (Fc := Fc6) s5.1)).1
    refine w_bd s1 ?_
    refine w_use (fun v => zq11 [] S11 B11 v) ?_ (fun k60 hk60 => ?_)
    · rintro ⟨o12, c12, n12, ca12, fr12, F12, rS12, rC12, rM12, rF12, g12⟩ ⟨q4, q5, q6⟩
      dsimp only at q4 q5 q6
      subst q4
      refine w_gB (Or.inr rfl) ?_
      refine w_some ⟨rfl, q5, ⟨_, _, _, x13, q6⟩, ?_⟩
      rw [if_neg hn]
      exact s2
    · refine w_jn ?_
      refine w_eqt (by (try dsimp only); omega) ?_
      refine w_bd (t_ab (m_ab5 s2)).1 ?_
      refine w_eqt (by omega) ?_
      refine w_bd s4 ?_
      refine w_eqt (by (try dsimp only); omega) ?_
      refine w_bd a17 ?_
      refine w_eqt ⟨by decide, rfl⟩ ?_
      refine w_bd s7 ?_
      refine w_eqt (by (try dsimp only); omega) ?_
      refine w_bd (heq hCL8) ?_
      refine w_eqf (by (try dsimp only); omega) ?_
      refine w_bd (t_ab m_ab2).1 ?_
      refine w_eqt (by (try dsimp only); omega) ?_
      refine w_bd x1 ?_
      refine w_eqt (by (try dsimp only); omega) ?_
      refine w_bd x2 ?_
      refine w_eqt (by (try dsimp only); omega) ?_
      refine w_bd x6 ?_
      refine w_eqt (by (try dsimp only); omega) ?_
      refine w_bd x9 ?_
      refine w_eqt (by (try dsimp only); omega) ?_
      refine w_bd x10 ?_
      refine w_eqt (by (try dsimp only); omega) ?_
      refine w_bd x11 ?_
      refine w_eqt (by (try dsimp only); omega) ?_
      exact hk60 _ ⟨rfl, s10, x12⟩
