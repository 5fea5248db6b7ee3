/-! the history on both sides -/
theorem zRs.congr {F G : Nat → Int} {A S B : List Int} (h : zRs F A S B) (e : ∀ j, j < 184 → G j = F j) : zRs G A S B := by
  obtain ⟨⟨⟨h1, h2, h3, h4⟩, h5, h6, h7⟩, h8, h9⟩ := h
  refine ⟨⟨⟨h1, ?_, h3, h4⟩, ?_, h6, h7⟩, ?_, ?_⟩
  · rw [zR_iff] at h2 ⊢
    intro i hi
    rw [e i (by omega)]; exact h2 i hi
  · rw [e 180 (by omega)]; exact h5
  · rw [e 181 (by omega)]; exact h8
  · rw [e 182 (by omega)]; exact h9
def zF (n ca fr : Int) (F R : Nat → Int) : Prop := ∃ A S B : List Int, zI A S B ∧ zCs n ca fr F A S B ∧ zRs R A S B
theorem zF.congr {n ca fr : Int} {F R G : Nat → Int} (h : zF n ca fr F R) (e : ∀ j, j < 184 → G j = R j) : zF n ca fr F G := by
  obtain ⟨A, S, B, h1, h2, h3⟩ := h
  exact ⟨A, S, B, h1, h2, h3.congr e⟩
theorem c_become {n1 c1 f1 n2 c2 f2 : Int} {F G R : Nat → Int} (h : zF n2 c2 f2 G R) : ∃ G', f_X0_become n1 c1 f1 F n2 c2 f2 G = some (n2, c2, f2, G') ∧ zF n2 c2 f2 G' R := by
  obtain ⟨A, S, B, h1, h2, h3⟩ := h
  have hl := h1.len
  have hn : n2 = ((A ++ (S ++ B)).length : Int) := h2.1.1.1
  obtain ⟨G', t1, t2⟩ := c_take (N := 180) (n := n1) (F := F) (X := []) (Y := A ++ (S ++ B)) (Z := []) (by simpa using h2.1) (x := 0) (y := n2) rfl (by simp; rw [hn]; simp) (by simp; omega) (by omega)
  refine ⟨G', ?_, A, S, B, h1, ⟨by rw [hn]; exact t2, h2.2.1, h2.2.2⟩, h3⟩
  unfold f_X0_become
  rw [t1, z_bd, ← hn]
theorem r_cpk {N2 : Nat} {F F2 : Nat → Int} {x1 x3 : Nat} {j : Nat} (hj : j < 184) : va_cpy F F2 x1 x3 184 (x3 + j) = F (x1 + j) := by
  simp only [va_cpy]
  rw [if_pos (by omega)]
  congr 1; omega
def zH (o c : Int) (rS rC rM : Nat → Int) (rF : Nat → Nat → Int) (acts : Int) (D : Nat → Int) : Prop := (0 ≤ o ∧ o < 14 ∧ 0 ≤ c ∧ c ≤ 14 ∧ acts = c) ∧ ∀ i : Nat, (i : Int) < c → zF (rS ((o.toNat + i) % 14)) (rC ((o.toNat + i) % 14)) (rM ((o.toNat + i) % 14)) (rF ((o.toNat + i) % 14)) (fun j => D (184 * i + j))
theorem ztm {a : Int} (h : 0 ≤ a) : a.tmod 14 = ((a.toNat % 14 : Nat) : Int) := by
  rw [Int.tmod_eq_emod_of_nonneg h]; omega
theorem c_entry {o x : Int} (h : 0 ≤ o ∧ o < 14 ∧ 0 ≤ x ∧ x < 14) : f_X1_entry o x = some (((o.toNat + x.toNat) % 14 : Nat) : Int) := by
  unfold f_X1_entry
  rw [ztm (by omega)]
  have e : (o + x).toNat % 14 = (o.toNat + x.toNat) % 14 := by congr 1; omega
  rw [e]
  have := Nat.mod_lt (o.toNat + x.toNat) (show 0 < 14 by omega)
  simp (disch := omega) only [z_gR, z_jn, z_lt_f, z_lt_t, z_in]
theorem vup_ne {α : Type} {F : Nat → α} {k j : Nat} {v : α} (h : j ≠ k) : va_up F k v j = F j := if_neg h
theorem vup_eq {α : Type} {F : Nat → α} {k : Nat} {v : α} : va_up F k v k = v := if_pos rfl
theorem r_nt_loop {R : Nat → Int} {e : Int × (Nat → Int) × Int → Option (Int × (Nat → Int))} {a : Int} (D : Nat → Int) : ∀ (r fu : Nat) (y : Int), y = 2392 - (r : Int) → r ≤ 2392 → r < fu → f_X8_note_11 R e fu a (fun j => if j < 2392 - r then D (j + 184) else D j) y = e (a, (fun j => if j < 2392 then D (j + 184) else D j), 2392)
  | _, 0, _, _, _, hf => by omega
  | 0, fu + 1, y, hy, hr, hf => by
    simp (disch := omega) only [f_X8_note_11, z_lt_f, Nat.sub_zero]
    rw [hy]; rfl
  | r + 1, fu + 1, y, hy, hr, hf => by
    have ih := r_nt_loop (R := R) (e := e) (a := a) D r fu (y + 1) (by omega) (by omega) (by omega)
    have e1 : va_up (fun j => if j < 2392 - (r + 1) then D (j + 184) else D j) y.toNat ((fun j => if j < 2392 - (r + 1) then D (j + 184) else D j) (y + 184).toNat) = (fun j => if j < 2392 - r then D (j + 184) else D j) := by
      funext j
      simp only [va_up]
      rw [if_neg (show ¬ (y + 184).toNat < 2392 - (r + 1) by omega)]
      by_cases hj : j = y.toNat
      · rw [if_pos hj, if_pos (by omega)]
        congr 1; omega
      · rw [if_neg hj]
        by_cases hj2 : j < 2392 - (r + 1)
        · rw [if_pos hj2, if_pos (by omega)]
        · rw [if_neg hj2, if_neg (by omega)]
    simp (disch := omega) only [f_X8_note_11, z_lt_t, z_in]
    rw [e1, ih]
theorem e_note {o c acts n ca fr : Int} {rS rC rM D F R : Nat → Int} {rF : Nat → Nat → Int} (hH : zH o c rS rC rM rF acts D) (hF : zF n ca fr F R) : ∃ o' c' rS' rC' rM' rF' acts' D', f_X1_remember o c rS rC rM rF n ca fr F = some (o', c', rS', rC', rM', rF') ∧ f_X8_note acts D R = some (acts', D') ∧ zH o' c' rS' rC' rM' rF' acts' D' := by
  obtain ⟨⟨h1, h2, h3, h4, h5⟩, hE⟩ := hH
  have h5 := h5.symm
  subst h5
  -- one more entry behind c of them, c at most 13
  have key : ∀ (o c : Int) (D : Nat → Int), 0 ≤ o → o < 14 → 0 ≤ c → c ≤ 13 → (∀ i : Nat, (i : Int) < c → zF (rS ((o.toNat + i) % 14)) (rC ((o.toNat + i) % 14)) (rM ((o.toNat + i) % 14)) (rF ((o.toNat + i) % 14)) (fun j => D (184 * i + j))) → ∃ rS' rC' rM' rF' D', bd (f_X1_entry o c) (fun r3 => gIn r3 14 (bd (f_X0_become (rS r3.toNat) (rC r3.toNat) (rM r3.toNat) (rF r3.toNat) n ca fr F) (fun r4 => some (o, c + 1, va_up rS r3.toNat r4.1, va_up rC r3.toNat r4.2.1, va_up rM r3.toNat r4.2.2.1, va_up rF r3.toNat r4.2.2.2)))) = some (o, c + 1, rS', rC', rM', rF') ∧ bd (f_X8_copyPage 184 2576 R D 0 (184 * c)) (fun r4 => some (c + 1, r4)) = some (c + 1, D') ∧ zH o (c + 1) rS' rC' rM' rF' (c + 1) D' := by
    intro o c D h1 h2 h3 h4 hE
    have hlt := Nat.mod_lt (o.toNat + c.toNat) (show 0 < 14 by omega)
    obtain ⟨G', b1, b2⟩ := c_become (n1 := rS ((o.toNat + c.toNat) % 14)) (c1 := rC ((o.toNat + c.toNat) % 14)) (f1 := rM ((o.toNat + c.toNat) % 14)) (F := rF ((o.toNat + c.toNat) % 14)) hF
    have cp := r_copyPage (N := 184) (N2 := 2576) (F := R) (F2 := D) (x1 := 0) (x3 := 184 * c) (by omega) (by omega)
    refine ⟨va_up rS ((o.toNat + c.toNat) % 14) n, va_up rC ((o.toNat + c.toNat) % 14) ca, va_up rM ((o.toNat + c.toNat) % 14) fr, va_up rF ((o.toNat + c.toNat) % 14) G', va_cpy R D 0 (184 * c).toNat 184, ?_, ?_, ⟨h1, h2, by omega, by omega, rfl⟩, ?_⟩
    · rw [c_entry ⟨h1, h2, h3, by omega⟩, z_bd]
      rw [z_in (by omega)]
      simp only [Int.toNat_natCast]
      rw [b1, z_bd]
    · rw [cp, z_bd]; rfl
    · intro i hi
      by_cases hic : (i : Int) = c
      · have e1 : c.toNat = i := by omega
        rw [e1]
        simp only [vup_eq]
        refine b2.congr (fun j hj => ?_)
        rw [show 184 * i + j = (184 * c).toNat + j by omega, r_cpk (N2 := 0) hj]
        congr 1; omega
      · have hne : (o.toNat + i) % 14 ≠ (o.toNat + c.toNat) % 14 := by omega
        rw [vup_ne hne, vup_ne hne, vup_ne hne, vup_ne hne]
        refine (hE i (by omega)).congr (fun j hj => ?_)
        simp only [va_cpy]
        rw [if_neg (by omega)]
  by_cases hc : c = 14
  · subst hc
    have e2 : (o + 1).tmod 14 = (((o.toNat + 1) % 14 : Nat) : Int) := by rw [ztm (by omega)]; congr 2; omega
    obtain ⟨rS', rC', rM', rF', D', k1, k2, k3⟩ := key ((o + 1).tmod 14) 13 (fun j => if j < 2392 then D (j + 184) else D j) (by rw [e2]; omega) (by rw [e2]; omega) (by omega) (by omega) (by
      intro i hi
      have := hE (i + 1) (by omega)
      rw [e2]
      have e3 : ((((o.toNat + 1) % 14 : Nat) : Int).toNat + i) % 14 = (o.toNat + (i + 1)) % 14 := by omega
      rw [e3]
      refine this.congr (fun j hj => ?_)
      show (if 184 * i + j < 2392 then D (184 * i + j + 184) else D (184 * i + j)) = D (184 * (i + 1) + j)
      rw [if_pos (by omega)]
      congr 1; omega)
    refine ⟨(o + 1).tmod 14, 13 + 1, rS', rC', rM', rF', 13 + 1, D', ?_, ?_, k3⟩
    · unfold f_X1_remember
      simp (disch := omega) only [z_jn, z_lt_f, z_gR]
      exact k1
    · unfold f_X8_note
      simp (disch := omega) only [z_jn, z_eq_t]
      have e4 : D = (fun j => if j < 2392 - 2392 then D (j + 184) else D j) := by
        funext j; rw [if_neg (by omega)]
      have lp := r_nt_loop (R := R) (e := fun (z2 : Int × (Nat → Int) × Int) => bd (f_X8_copyPage 184 2576 R z2.2.1 0 (184 * (z2.1 - 1))) (fun r4 => some (z2.1 - 1 + 1, r4))) (a := 14) D 2392 fuel 0 (by omega) (by omega) (by unfold fuel; omega)
      rw [← e4] at lp
      rw [lp]
      exact k2
  · obtain ⟨rS', rC', rM', rF', D', k1, k2, k3⟩ := key o c D h1 h2 h3 (by omega) hE
    refine ⟨o, c + 1, rS', rC', rM', rF', c + 1, D', ?_, ?_, k3⟩
    · unfold f_X1_remember
      simp (disch := omega) only [z_jn, z_lt_t]
      exact k1
    · unfold f_X8_note
      simp (disch := omega) only [z_jn, z_eq_f]
      exact k2
theorem e_take {o c acts n ca fr n' ca' fr' : Int} {rS rC rM D F R F' T : Nat → Int} {rF : Nat → Nat → Int} (hH : zH o c rS rC rM rF acts D) (hF : zF n ca fr F R) (hT : zF n' ca' fr' F' T) : ∃ o' c' rS' rC' rM' rF' acts' D' R', f_X1_remember o c rS rC rM rF n ca fr F = some (o', c', rS', rC', rM', rF') ∧ f_X8_take acts D R T = some (acts', D', R') ∧ zH o' c' rS' rC' rM' rF' acts' D' ∧ zF n' ca' fr' F' R' ∧ (∀ j, j < 184 → R' j = T j) := by
  obtain ⟨o', c', rS', rC', rM', rF', acts', D', h1, h2, h3⟩ := e_note hH hF
  have cp := r_copyPage (N := 184) (N2 := 184) (F := T) (F2 := R) (x1 := 0) (x3 := 0) (by omega) (by omega)
  have hc : ∀ j, j < 184 → va_cpy T R (0 : Int).toNat (0 : Int).toNat 184 j = T j := by
    intro j hj
    have := r_cpk (N2 := 0) (F := T) (F2 := R) (x1 := 0) (x3 := 0) hj
    simpa using this
  refine ⟨o', c', rS', rC', rM', rF', acts', D', va_cpy T R (0 : Int).toNat (0 : Int).toNat 184, h1, ?_, h3, hT.congr hc, hc⟩
  unfold f_X8_take
  rw [h2, z_bd, cp, z_bd]
/-- the trial page is the page -/
theorem r_trial {n ca fr : Int} {F R : Nat → Int} (T : Nat → Int) (hF : zF n ca fr F R) : ∃ T', f_X8_copyPage 184 184 R T 0 0 = some T' ∧ ∀ j, j < 184 → T' j = R j := by
  refine ⟨_, r_copyPage (N := 184) (N2 := 184) (F := R) (F2 := T) (x1 := 0) (x3 := 0) (by omega) (by omega), fun j hj => ?_⟩
  have := r_cpk (N2 := 0) (F := R) (F2 := T) (x1 := 0) (x3 := 0) hj
  simpa using this
theorem e_back {o c acts n ca fr : Int} {rS rC rM D F R : Nat → Int} {rF : Nat → Nat → Int} (hH : zH o c rS rC rM rF acts D) (hc : 0 < c) : ∃ n' ca' fr' F' R', f_X1_takeBack o c rS rC rM rF n ca fr F = some (c - 1, n', ca', fr', F') ∧ f_X8_copyPage 2576 184 D R (184 * (acts - 1)) 0 = some R' ∧ zF n' ca' fr' F' R' ∧ zH o (c - 1) rS rC rM rF (acts - 1) D := by
  obtain ⟨⟨h1, h2, h3, h4, h5⟩, hE⟩ := hH
  have h5 := h5.symm
  subst h5
  have hlt := Nat.mod_lt (o.toNat + (c - 1).toNat) (show 0 < 14 by omega)
  have he := hE (c - 1).toNat (by omega)
  obtain ⟨G', b1, b2⟩ := c_become (n1 := n) (c1 := ca) (f1 := fr) (F := F) he
  have cp := r_copyPage (N := 2576) (N2 := 184) (F := D) (F2 := R) (x1 := 184 * (c - 1)) (x3 := 0) (by omega) (by omega)
  refine ⟨_, _, _, G', _, ?_, cp, b2.congr (fun j hj => ?_), ⟨h1, h2, by omega, by omega, rfl⟩, fun i hi => hE i (by omega)⟩
  · unfold f_X1_takeBack
    simp (disch := omega) only [z_jn, z_lt_t, c_entry, z_bd, z_in, Int.toNat_natCast, b1]
  · have := r_cpk (N2 := 0) (F := D) (F2 := R) (x1 := (184 * (c - 1)).toNat) (x3 := 0) hj
    simp only [Nat.zero_add] at this
    show va_cpy D R (184 * (c - 1)).toNat (0 : Int).toNat 184 j = _
    rw [show (0 : Int).toNat = 0 from rfl, this]
    congr 1; omega
