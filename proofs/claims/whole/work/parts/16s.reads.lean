/-! the reader: the whole loop, on both sides -/
section zlq
variable {ts : Int} {tx sF : Nat → Int} {eC : zEc} {eR : zEr}
def zGo (ts : Int) (tx sF : Nat → Int) (eC : zEc) (eR : zEr) (r : Nat) : Prop := ∀ (fu1 fu2 : Nat) (y st y1 top br ch fa un pl sc bo n rs dp : Int) (S M bel cha fac ope own pla rd : Nat → Int), y = ts - (r : Int) → r < fu1 → r < fu2 → (r : Int) ≤ ts → zJ y st y1 top br ch fa un pl sc bo n S M rs dp bel cha fac ope own pla rd → zOut ts eC eR (f_X5_firstError_6 ts sF eC fu1 top st br ch fa un pl sc bo n S M y) (f_X8_readText_19 ts tx eR fu2 rs dp bel cha fac ope own pla rd y1 y)
theorem e_loop (hts : 0 ≤ ts ∧ ts ≤ 120) (htx : ∀ j : Nat, (j : Int) < ts → sF j = tx j ∧ 0 ≤ sF j ∧ sF j ≤ 255) (hE : ∀ (top br ch fa un pl sc bo n : Int) (S M : Nat → Int), 0 ≤ br ∧ br ≤ 5 → ∃ R : zTc, eC (top, 3, br, ch, fa, un, pl, sc, bo, n, S, M, ts) = some (ts, R)) : ∀ (k r : Nat), r ≤ k → zGo ts tx sF eC eR r := by
  intro k
  induction k with
  | zero =>
    intro r hrk fu1 fu2 y st y1 top br ch fa un pl sc bo n rs dp S M bel cha fac ope own pla rd hy hf1 hf2 hr h
    have h0 : r = 0 := by omega
    subst h0
    match fu1, fu2, hf1, hf2 with
    | f1 + 1, f2 + 1, _, _ =>
    have hyt : y = ts := by omega
    rw [c_fe_end hyt hts, r_rt_end hyt hts]
    subst hyt
    exact Or.inr ⟨st, y1, top, br, ch, fa, un, pl, sc, bo, n, rs, dp, S, M, bel, cha, fac, ope, own, pla, rd, rfl, rfl, h⟩
  | succ k ih =>
    intro r hrk fu1 fu2 y st y1 top br ch fa un pl sc bo n rs dp S M bel cha fac ope own pla rd hy hf1 hf2 hr h
    match r, fu1, fu2, hf1, hf2 with
    | 0, f1 + 1, f2 + 1, _, _ =>
      have hyt : y = ts := by omega
      rw [c_fe_end hyt hts, r_rt_end hyt hts]
      subst hyt
      exact Or.inr ⟨st, y1, top, br, ch, fa, un, pl, sc, bo, n, rs, dp, S, M, bel, cha, fac, ope, own, pla, rd, rfl, rfl, h⟩
    | r + 1, f1 + 1, f2 + 1, hf1, hf2 =>
      have hyr : 0 ≤ y ∧ y < ts ∧ ts ≤ 120 := by omega
      obtain ⟨t1, t2, t3⟩ := htx y.toNat (by omega)
      have ht1 := t1.symm
      generalize hc : tx y.toNat = c at t1
      rw [t1] at t2 t3
      have hst := h.sta
      have go := ih r (by omega)
      by_cases c114 : c = 114
      · subst c114
        match r, f1, hf1, hf2 with
        | 0, f1 + 1, _, _ =>
          obtain ⟨ch1, fa1, un1, pl1, n1, M1, a1⟩ := c_r1 h (by omega)
          obtain ⟨R, hR⟩ := hE top br ch1 fa1 un1 pl1 sc bo n1 S M1 (by have := h.bz; omega)
          have a2 := r_er_root (e := eR) (fu := f2) (rs := rs) (dp := dp) (bel := bel) (cha := cha) (fac := fac) (ope := ope) (own := own) (pla := pla) (rd := rd) (y1 := y1) hyr hc (by omega) (Or.inl (by omega))
          rw [c_fe_go hyr t1 a1, c_fe_end (by omega) hts, hR, a2]
          exact Or.inl ⟨ts, R, _, rfl, by rw [show y + 1 = ts by omega], by omega, by omega⟩
        | r + 1, f1 + 1, hf1, hf2 =>
          obtain ⟨u1, u2, u3⟩ := htx (y + 1).toNat (by omega)
          by_cases c40 : sF (y + 1).toNat = 40
          · have go2 := ih r (by omega)
            rw [u1] at c40
            rcases hst with ⟨h1, h2⟩ | ⟨h1, h2⟩
            · obtain ⟨pl1, n1, n2, rs2, M1, S2, M2, bel2, cha2, fac2, ope2, own2, pla2, rd2, a1, a2, a3, a4⟩ := e_j_root h h1 hyr hc ⟨by omega, c40⟩
              rw [c_fe_go hyr t1 a1, c_fe_go (by omega) (by rw [u1]; exact c40) a2, a3]
              exact go2 _ _ _ _ _ _ _ _ _ _ _ _ _ _ _ _ _ _ _ _ _ _ _ _ _ (by omega) (by omega) (by omega) (by omega) a4
            · obtain ⟨n2, rs2, S2, M2, bel2, cha2, ope2, own2, pla2, rd2, a1, a2, a3, a4⟩ := e_j_root2 h h1 hyr hc ⟨by omega, c40⟩
              rw [c_fe_go hyr t1 a1, c_fe_go (by omega) (by rw [u1]; exact c40) a2, a3]
              exact go2 _ _ _ _ _ _ _ _ _ _ _ _ _ _ _ _ _ _ _ _ _ _ _ _ _ (by omega) (by omega) (by omega) (by omega) a4
          · obtain ⟨ch1, fa1, un1, pl1, n1, M1, a1⟩ := c_r1 h (by omega)
            have a2 := r_er_root (e := eR) (fu := f2) (rs := rs) (dp := dp) (bel := bel) (cha := cha) (fac := fac) (ope := ope) (own := own) (pla := pla) (rd := rd) (y1 := y1) hyr hc (by omega) (Or.inr ⟨by omega, by rw [← u1]; omega, by rw [← u1]; exact c40⟩)
            have a3 := c_tk_rno (st := 3) (top := top) (br := br) (ch := ch1) (fa := fa1) (un := un1) (pl := pl1) (sc := sc) (bo := bo) (n := n1) (S := S) (M := M1) rfl ⟨u2, u3⟩ c40
            rw [c_fe_go hyr t1 a1, c_fe_no (by omega) rfl a3, a2]
            exact Or.inl ⟨y + 1, _, _, rfl, rfl, by omega, by omega⟩
      · by_cases cld : zld c
        · rcases hst with ⟨h1, h2⟩ | ⟨h1, h2⟩
          · obtain ⟨n1, n2, rs2, M2, bel2, cha2, fac2, pla2, rd2, a1, a2, a3⟩ := e_j_item h h1 hyr hc cld
            rw [c_fe_go hyr t1 a1, a2]
            exact go _ _ _ _ _ _ _ _ _ _ _ _ _ _ _ _ _ _ _ _ _ _ _ _ _ (by omega) (by omega) (by omega) (by omega) a3
          · obtain ⟨st', n2, rs2, M2, pla2, rd2, a1, a2, a3⟩ := e_j_item2 h h1 hyr hc cld
            rw [c_fe_go hyr t1 a1, a2]
            exact go _ _ _ _ _ _ _ _ _ _ _ _ _ _ _ _ _ _ _ _ _ _ _ _ _ (by omega) (by omega) (by omega) (by omega) a3
        · by_cases c40 : c = 40
          · subst c40
            rcases hst with ⟨h1, h2⟩ | ⟨h1, h2⟩
            · obtain ⟨n2, rs2, S2, M2, bel2, cha2, fac2, ope2, own2, pla2, rd2, a1, a2, a3⟩ := e_j_par h h1 hyr hc
              rw [c_fe_go hyr t1 a1, a2]
              exact go _ _ _ _ _ _ _ _ _ _ _ _ _ _ _ _ _ _ _ _ _ _ _ _ _ (by omega) (by omega) (by omega) (by omega) a3
            · obtain ⟨n2, rs2, S2, M2, bel2, cha2, ope2, own2, pla2, rd2, a1, a2, a3⟩ := e_j_par2 h h1 hyr hc
              rw [c_fe_go hyr t1 a1, a2]
              exact go _ _ _ _ _ _ _ _ _ _ _ _ _ _ _ _ _ _ _ _ _ _ _ _ _ (by omega) (by omega) (by omega) (by omega) a3
          · by_cases hno : (st = 0 ∨ st = 1) → (c ≠ 32 ∧ c ≠ 43 ∧ c ≠ 45 ∧ c ≠ 42 ∧ c ≠ 61 ∧ c ≠ 44 ∧ c ≠ 46 ∧ c ≠ 94 ∧ c ≠ 95) ∧ (c = 47 → st = 0) ∧ (c = 41 → br = 0)
            · obtain ⟨⟨x1, x2, x3, x4, x5, x6, x7, x8, x9, x10, x11, x12⟩, RR, a1, a2⟩ := e_j_no (eR := eR) h hyr hc ⟨t2, t3⟩ cld ⟨c40, c114⟩ hno
              rw [c_fe_no hyr t1 a1, a2]
              exact Or.inl ⟨y, _, RR, rfl, rfl, by omega, by omega⟩
            · have h1 : st = 0 ∨ st = 1 := by omega
              by_cases c32 : c = 32
              · subst c32
                obtain ⟨pl1, n1, rs1, M1, bel1, cha1, pla1, rd1, a1, a2, a3⟩ := e_j_blank h h1 hyr hc
                rw [c_fe_go hyr t1 a1, a2]
                exact go _ _ _ _ _ _ _ _ _ _ _ _ _ _ _ _ _ _ _ _ _ _ _ _ _ (by omega) (by omega) (by omega) (by omega) a3
              · by_cases cm : c = 43 ∨ c = 45 ∨ c = 42 ∨ c = 61 ∨ c = 44 ∨ c = 46
                · obtain ⟨pl1, n1, rs1, M1, bel1, cha1, pla1, rd1, a1, a2, a3⟩ := e_j_mark h h1 hyr hc cm
                  rw [c_fe_go hyr t1 a1, a2]
                  exact go _ _ _ _ _ _ _ _ _ _ _ _ _ _ _ _ _ _ _ _ _ _ _ _ _ (by omega) (by omega) (by omega) (by omega) a3
                · by_cases cs : c = 94 ∨ c = 95
                  · obtain ⟨k2, hk2⟩ : ∃ k2 : Int, (c = 94 ∧ k2 = 2) ∨ (c = 95 ∧ k2 = 3) := by
                      rcases cs with cs | cs
                      · exact ⟨2, Or.inl ⟨cs, rfl⟩⟩
                      · exact ⟨3, Or.inr ⟨cs, rfl⟩⟩
                    obtain ⟨n2, rs2, M2, bel2, cha2, own2, pla2, rd2, a1, a2, a3⟩ := e_j_script h h1 hyr hc hk2
                    rw [c_fe_go hyr t1 a1, a2]
                    exact go _ _ _ _ _ _ _ _ _ _ _ _ _ _ _ _ _ _ _ _ _ _ _ _ _ (by omega) (by omega) (by omega) (by omega) a3
                  · by_cases c47 : c = 47
                    · subst c47
                      obtain ⟨n2, rs2, M2, bel2, fac2, pla2, rd2, a1, a2, a3⟩ := e_j_line h (by omega) hyr hc
                      rw [c_fe_go hyr t1 a1, a2]
                      exact go _ _ _ _ _ _ _ _ _ _ _ _ _ _ _ _ _ _ _ _ _ _ _ _ _ (by omega) (by omega) (by omega) (by omega) a3
                    · have c41 : c = 41 := by omega
                      subst c41
                      obtain ⟨st', b, ch', fa', un', pl', bo', n2, rs2, M2, bel2, cha2, pla2, rd2, a1, a2, a3⟩ := e_j_shut h h1 hyr hc (by omega)
                      rw [c_fe_go hyr t1 a1, a2]
                      exact go _ _ _ _ _ _ _ _ _ _ _ _ _ _ _ _ _ _ _ _ _ _ _ _ _ (by omega) (by omega) (by omega) (by omega) a3
end zlq
