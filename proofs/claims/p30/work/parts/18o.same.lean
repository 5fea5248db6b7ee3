/-! p30: two editors that follow one reference are in the same state -/
theorem zst_zr {m m2 : Int} {s t t2 : List Int} (h : zst m s = some t) (h2 : zst m2 s = some t2) (e : zr m = zr m2) : m = m2 := by
  have cls : ∀ {m : Int} {s t : List Int}, zst m s = some t → (42 ≤ m ∧ zr m = m) ∨ (1 ≤ m ∧ m ≤ 5 ∧ zr m = -m) ∨ (m = 6 ∧ zr m = -10) ∨ (zr m = -11 ∧ 11 ≤ m ∧ m ≤ 15 ∧ ∃ k, s = k :: t ∧ ((m = 11 ∧ k = 6) ∨ (12 ≤ m ∧ m ≤ 15 ∧ k = m - 10))) := by
    intro m s t h
    rcases zst_cases h with ⟨a, b, -⟩ | ⟨a, b, -⟩ | ⟨a, -⟩ | ⟨k, a, b⟩
    · exact Or.inl ⟨a.1, zr_sy a.1⟩
    · exact Or.inr (Or.inl ⟨a, b, zr_op ⟨a, b⟩⟩)
    · subst a
      exact Or.inr (Or.inr (Or.inl ⟨rfl, zr_6⟩))
    · exact Or.inr (Or.inr (Or.inr ⟨zr_cl (by omega), by omega, by omega, k, a, b⟩))
  rcases cls h with ⟨a, b⟩ | ⟨a, a2, b⟩ | ⟨a, b⟩ | ⟨b, a, a2, k, a3, a4⟩
  · rcases cls h2 with ⟨c, d⟩ | ⟨c, c2, d⟩ | ⟨c, d⟩ | ⟨d, c, c2, -⟩ <;> omega
  · rcases cls h2 with ⟨c, d⟩ | ⟨c, c2, d⟩ | ⟨c, d⟩ | ⟨d, c, c2, -⟩ <;> omega
  · rcases cls h2 with ⟨c, d⟩ | ⟨c, c2, d⟩ | ⟨c, d⟩ | ⟨d, c, c2, -⟩ <;> omega
  · rcases cls h2 with ⟨c, d⟩ | ⟨c, c2, d⟩ | ⟨c, d⟩ | ⟨d, c, c2, k2, c3, c4⟩
    · omega
    · omega
    · omega
    · rw [a3] at c3
      have ek : k = k2 := (List.cons.inj c3).1
      omega
theorem zR_un {F : Nat → Int} : ∀ (L L2 A A2 s s1 s2 : List Int), A.length = A2.length → L.length = L2.length → zR F (A ++ L) → zR F (A2 ++ L2) → zrun s L = some s1 → zrun s L2 = some s2 → L = L2
  | [], [], _, _, _, _, _, _, _, _, _, _, _ => rfl
  | [], m2 :: L2, A, A2, s, s1, s2, hA, hl, h1, h2, r1, r2 => by simp at hl
  | m :: L, [], A, A2, s, s1, s2, hA, hl, h1, h2, r1, r2 => by simp at hl
  | m :: L, m2 :: L2, A, A2, s, s1, s2, hA, hl, h1, h2, r1, r2 => by
    have e1 := h1 A m L rfl
    have e2 := h2 A2 m2 L2 rfl
    rw [hA] at e1
    have ez : zr m = zr m2 := e1.symm.trans e2
    cases p1 : zst m s with
    | none =>
      simp only [zrun, p1] at r1
      cases r1
    | some t =>
      cases p2 : zst m2 s with
      | none =>
        simp only [zrun, p2] at r2
        cases r2
      | some t2 =>
        have em := zst_zr p1 p2 ez
        subst em
        have et : t = t2 := Option.some.inj (p1.symm.trans p2)
        subst et
        simp only [zrun, p1] at r1
        simp only [zrun, p1] at r2
        have := zR_un L L2 (A ++ [m]) (A2 ++ [m]) t s1 s2 (by simp [hA]) (by simpa using hl) (by simpa using h1) (by simpa using h2) r1 r2
        rw [this]
theorem zRy_un {R : Nat → Int} {L L2 : List Int} (h : zRy 184 R L) (h2 : zRy 184 R L2) (hb : zbal L) (hb2 : zbal L2) : L = L2 := by
  have e1 := h.2.1
  have e2 := h2.2.1
  exact zR_un L L2 [] [] [] [] [] rfl (by omega) h.1.2.1 h2.1.2.1 hb hb2
theorem zRs_un {R : Nat → Int} {A S B A2 S2 B2 : List Int} (hI : zI A S B) (hI2 : zI A2 S2 B2) (h : zRs R A S B) (h2 : zRs R A2 S2 B2) : A = A2 ∧ S = S2 ∧ B = B2 := by
  have eL := zRy_un h.1 h2.1 hI.bal hI2.bal
  have e1 := h.2.1
  have e2 := h2.2.1
  have e3 := h.2.2
  have e4 := h2.2.2
  have lA : A.length = A2.length := by
    by_cases hS : S = []
    · rw [if_pos hS] at e3
      by_cases hS2 : S2 = []
      · rw [hS] at e1
        rw [hS2] at e2
        simp only [List.length_nil] at e1 e2
        omega
      · rw [if_neg hS2] at e4
        omega
    · rw [if_neg hS] at e3
      by_cases hS2 : S2 = []
      · rw [if_pos hS2] at e4
        omega
      · rw [if_neg hS2] at e4
        omega
  obtain ⟨rfl, e5⟩ := List.append_inj eL lA
  have lS : S.length = S2.length := by omega
  obtain ⟨rfl, rfl⟩ := List.append_inj e5 lS
  exact ⟨rfl, rfl, rfl⟩
/-- two editors, one reference: the same formula, selection and clipboard -/
theorem zF_two {n ca fr n' ca' fr' : Int} {F F' R : Nat → Int} (h : zF n ca fr F R) (h2 : zF n' ca' fr' F' R) : ∃ A S B : List Int, zI A S B ∧ zCs n ca fr F A S B ∧ zCs n' ca' fr' F' A S B := by
  obtain ⟨A, S, B, hI, hC, hR⟩ := h
  obtain ⟨A2, S2, B2, hI2, hC2, hR2⟩ := h2
  obtain ⟨rfl, rfl, rfl⟩ := zRs_un hI hI2 hR hR2
  exact ⟨A, S, B, hI, hC, hC2⟩
theorem zc_two {cn cn' : Int} {Fc Fc' Rc : Nat → Int} (h : ∃ Lc : List Int, zK Lc ∧ zCx 180 cn Fc Lc ∧ zRy 184 Rc Lc) (h2 : ∃ Lc : List Int, zK Lc ∧ zCx 180 cn' Fc' Lc ∧ zRy 184 Rc Lc) : ∃ Lc : List Int, zK Lc ∧ zCx 180 cn Fc Lc ∧ zCx 180 cn' Fc' Lc := by
  obtain ⟨L, k1, k2, k3⟩ := h
  obtain ⟨L2, j1, j2, j3⟩ := h2
  have e := zRy_un k3 j3 k1.1 j1.1
  subst e
  exact ⟨L, k1, k2, j2⟩
/-- both do the action alike -/
theorem m_act2 {R D K P Rc : Nat → Int} {acts cn fl1 o c n ca fr fl2 n1 c1 f1 n2 c2 f2 x y cn' fl1' o' c' n' ca' fr' fl2' n1' c1' f1' n2' c2' f2' : Int} {Fc F K1 rS rC rM K2 Fc' F' K1' rS' rC' rM' K2' : Nat → Int} {rF rF' : Nat → Nat → Int} (hx : 0 ≤ x ∧ x ≤ 2147483647) (hy : 0 ≤ y ∧ y ≤ 2147483647) (hp : zSt R D K P Rc acts (cn, fl1, o, c, n, ca, fr, fl2, Fc, n1, c1, f1, F, n2, c2, f2, K1, rS, rC, rM, rF, K2)) (hq : zSt R D K P Rc acts (cn', fl1', o', c', n', ca', fr', fl2', Fc', n1', c1', f1', F', n2', c2', f2', K1', rS', rC', rM', rF', K2')) : ∃ (v : Int) (R2 D2 K3 P2 Rc2 : Nat → Int) (acts2 : Int), zW (fun r => r.1 = v ∧ zSt R2 D2 K3 P2 Rc2 acts2 r.2) (f_L_act cn fl1 o c n ca fr fl2 Fc n1 c1 f1 F n2 c2 f2 K1 rS rC rM rF K2 x y) ∧ zW (fun r => r.1 = v ∧ zSt R2 D2 K3 P2 Rc2 acts2 r.2) (f_L_act cn' fl1' o' c' n' ca' fr' fl2' Fc' n1' c1' f1' F' n2' c2' f2' K1' rS' rC' rM' rF' K2' x y) := by
  obtain ⟨a1, a2, a3, a4, a5⟩ := hp
  obtain ⟨b1, b2, b3, b4, b5⟩ := hq
  obtain ⟨out, e1, w1⟩ := m_act1 hx hy a1 a2 a3 a4 a5
  obtain ⟨out2, e2, w2⟩ := m_act1 hx hy b1 b2 b3 b4 b5
  have e : out = out2 := Option.some.inj (e1.symm.trans e2)
  subst e
  exact ⟨out.1, out.2.1, out.2.2.1, out.2.2.2.1, out.2.2.2.2.1, out.2.2.2.2.2.1, out.2.2.2.2.2.2, w1, w2⟩
