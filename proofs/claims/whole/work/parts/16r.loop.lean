/-! the reader: both loops leave by the same door -/
abbrev zTc := Int × Int × Int × Int × Int × Int × Int × Int × Int × Int × (Nat → Int) × (Nat → Int)
abbrev zTr := Int × Int × (Nat → Int) × (Nat → Int) × (Nat → Int) × (Nat → Int) × (Nat → Int) × (Nat → Int) × (Nat → Int)
abbrev zEc := Int × Int × Int × Int × Int × Int × Int × Int × Int × Int × (Nat → Int) × (Nat → Int) × Int → Option (Int × zTc)
abbrev zEr := Int × Int × (Nat → Int) × (Nat → Int) × (Nat → Int) × (Nat → Int) × (Nat → Int) × (Nat → Int) × (Nat → Int) × Int × Int → Option (Int × zTr)
def zOut (ts : Int) (eC : zEc) (eR : zEr) (X : Option (Int × zTc)) (Y : Option (Int × zTr)) : Prop := (∃ (v : Int) (RC : zTc) (RR : zTr), X = some (v, RC) ∧ Y = some (v, RR) ∧ 0 ≤ v ∧ v ≤ ts) ∨ (∃ (st y1 top br ch fa un pl sc bo n rs dp : Int) (S M bel cha fac ope own pla rd : Nat → Int), X = eC (top, st, br, ch, fa, un, pl, sc, bo, n, S, M, ts) ∧ Y = eR (rs, dp, bel, cha, fac, ope, own, pla, rd, y1, ts) ∧ zJ ts st y1 top br ch fa un pl sc bo n S M rs dp bel cha fac ope own pla rd)
section zlp
variable {ts y y1 top st br ch fa un pl sc bo n c rs dp top2 st2 br2 ch2 fa2 un2 pl2 sc2 bo2 n2 : Int} {S M S2 M2 tx sF bel cha fac ope own pla rd : Nat → Int} {fu : Nat} {eC : zEc} {eR : zEr}
theorem c_fe_go (hy : 0 ≤ y ∧ y < ts ∧ ts ≤ 120) (hc : sF y.toNat = c) (ht : f_X5_takes top st br ch fa un pl sc bo n S M c = some (1, top2, st2, br2, ch2, fa2, un2, pl2, sc2, bo2, n2, S2, M2)) : f_X5_firstError_6 ts sF eC (fu + 1) top st br ch fa un pl sc bo n S M y = f_X5_firstError_6 ts sF eC fu top2 st2 br2 ch2 fa2 un2 pl2 sc2 bo2 n2 S2 M2 (y + 1) := by
  rw [f_X5_firstError_6, z_lt_t (by omega), z_lt_t (by omega), z_in (by omega), hc, ht, z_bd]
  exact z_eq_f (by omega)
theorem c_fe_no (hy : 0 ≤ y ∧ y < ts ∧ ts ≤ 120) (hc : sF y.toNat = c) (ht : f_X5_takes top st br ch fa un pl sc bo n S M c = some (0, top2, st2, br2, ch2, fa2, un2, pl2, sc2, bo2, n2, S2, M2)) : f_X5_firstError_6 ts sF eC (fu + 1) top st br ch fa un pl sc bo n S M y = some (y, top2, st2, br2, ch2, fa2, un2, pl2, sc2, bo2, n2, S2, M2) := by
  rw [f_X5_firstError_6, z_lt_t (by omega), z_lt_t (by omega), z_in (by omega), hc, ht, z_bd]
  exact z_eq_t (by omega)
theorem c_fe_end (hy : y = ts) (ht : 0 ≤ ts ∧ ts ≤ 120) : f_X5_firstError_6 ts sF eC (fu + 1) top st br ch fa un pl sc bo n S M y = eC (top, st, br, ch, fa, un, pl, sc, bo, n, S, M, ts) := by
  subst hy
  rw [f_X5_firstError_6]
  exact z_lt_f (by omega)
theorem r_rt_end (hy : y = ts) (ht : 0 ≤ ts ∧ ts ≤ 120) : f_X8_readText_19 ts tx eR (fu + 1) rs dp bel cha fac ope own pla rd y1 y = eR (rs, dp, bel, cha, fac, ope, own, pla, rd, y1, ts) := by
  subst hy
  rw [f_X8_readText_19]
  exact z_lt_f (by omega)
theorem zJ.sta (h : zJ y st y1 top br ch fa un pl sc bo n S M rs dp bel cha fac ope own pla rd) : ((st = 0 ∨ st = 1) ∧ y1 = st) ∨ (st = 2 ∧ (y1 = 2 ∨ y1 = 3)) := by
  obtain ⟨K, G, N, F, -, -, -, -, -, hs⟩ := h
  rcases hs with ⟨h1, h2, -⟩ | ⟨h1, -, h2, -⟩
  · left; exact ⟨h1, h2⟩
  · right
    refine ⟨h1, ?_⟩
    rcases h2 with ⟨-, h2⟩ | ⟨-, h2, -⟩
    · left; exact h2
    · right; exact h2
theorem c_r1 (h : zJ y st y1 top br ch fa un pl sc bo n S M rs dp bel cha fac ope own pla rd) (hy : 0 ≤ y ∧ y ≤ 120) : ∃ (ch1 fa1 un1 pl1 n1 : Int) (M1 : Nat → Int), f_X5_takes top st br ch fa un pl sc bo n S M 114 = some (1, top, 3, br, ch1, fa1, un1, pl1, sc, bo, n1, S, M1) := by
  rcases h.sta with ⟨h1, -⟩ | ⟨h1, -⟩
  · obtain ⟨K, G, pl1, n1, rs1, M1, bel1, cha1, pla1, rd1, e1, -⟩ := h.close h1 hy
    exact ⟨n1, n1, 0, pl1, n1, M1, c_tk_elem h1 (by omega) (by omega) (by omega) e1 c_bs_r (Or.inr rfl)⟩
  · exact ⟨ch, fa, un, pl, n, M, c_tk_base h1 c_bs_r (Or.inr rfl)⟩
/-- a sign that cannot stand here -/
theorem e_j_no (h : zJ y st y1 top br ch fa un pl sc bo n S M rs dp bel cha fac ope own pla rd) (hy : 0 ≤ y ∧ y < ts ∧ ts ≤ 120) (hc : tx y.toNat = c) (hr : 0 ≤ c ∧ c ≤ 255) (hm : ¬ zld c) (hn : c ≠ 40 ∧ c ≠ 114) (h0 : (st = 0 ∨ st = 1) → (c ≠ 32 ∧ c ≠ 43 ∧ c ≠ 45 ∧ c ≠ 42 ∧ c ≠ 61 ∧ c ≠ 44 ∧ c ≠ 46 ∧ c ≠ 94 ∧ c ≠ 95) ∧ (c = 47 → st = 0) ∧ (c = 41 → br = 0)) : ∃ (RC : zTc) (RR : zTr), (f_X5_takes top st br ch fa un pl sc bo n S M c = some (0, RC)) ∧ ∀ fu, f_X8_readText_19 ts tx eR (fu + 1) rs dp bel cha fac ope own pla rd y1 y = some (y, RR) := by
  rcases h.sta with ⟨h1, h2⟩ | ⟨h1, h2⟩
  · obtain ⟨q1, q2, q3⟩ := h0 h1
    have hbz := h.bz
    have hA : ∃ RC : zTc, f_X5_takes top st br ch fa un pl sc bo n S M c = some (0, RC) := by
      by_cases h47 : c = 47
      · subst h47
        exact ⟨_, c_tk_lineno (q2 rfl)⟩
      · obtain ⟨K, G, pl1, n1, rs1, M1, bel1, cha1, pla1, rd1, e1, -⟩ := h.close h1 (by omega)
        by_cases h41 : c = 41
        · subst h41
          have hb := q3 rfl
          subst hb
          exact ⟨_, c_tk_shut h1 e1 c_shut_no (Or.inl rfl)⟩
        · exact ⟨_, c_tk_elem h1 hr (by omega) (by omega) e1 (c_bs_no hr hm (by omega)) (Or.inl rfl)⟩
    obtain ⟨RC, hA⟩ := hA
    exact ⟨RC, _, hA, fun fu => r_er_text hy hc hr hm (by omega) ⟨by omega, fun h => by have := q2 h; omega, fun h => by have := q3 h; omega⟩ (by omega)⟩
  · exact ⟨_, _, c_tk_base h1 (c_bs_no hr hm (by omega)) (Or.inl rfl), fun fu => r_er_base hy hc hr hm (by omega) (by omega)⟩
end zlp
