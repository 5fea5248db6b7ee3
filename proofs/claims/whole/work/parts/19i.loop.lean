/-! the law: its loop (written by wip/whole/gen20.py) -/
section QLP
variable {D : va_G} {cs : q_CS} {κ : q_X} {ad rQ rM : Nat → Nat} {b L : Nat} {xs : Nat → Int32}
set_option maxRecDepth 100000 in
theorem lw_body (ok : q_ok D cs κ cL_law 7 RL room_1) {tb : List ExceptionTableEntry} (kx : q_kx κ tb) (sc : q_sc κ b L xs) {iN cl sl : Nat} {ws : va_W} (hi : iN + 4 ≤ L) (hcl : cl + 1 ≤ 601024 ∧ sl + 6 ≤ 7293034) (h : zLw cs ad rQ rM ws) (kk : ∀ ws2, zLw cs ad rQ rM ws2 → q_J D κ 7 (cl + 1) (sl + 6) ws2 [(4, .int (iI (iN : Int))), (0, .ref b), (1, .ref (ad 0)), (2, .ref (ad 27)), (3, .ref (ad 48))] 1596 []) : q_J D κ 7 cl sl ws [(4, .int (iI (iN : Int))), (0, .ref b), (1, .ref (ad 0)), (2, .ref (ad 27)), (3, .ref (ad 48))] 32 [] := by
  refine j_aload_n (pc := 32) 1 ok dL_law_32 rfl rfl ?_
  refine j_iload (pc := 33) 0 ok dL_law_33 rfl ?_
  refine j_sld (pc := 35) iN ok sc rfl (by omega) dL_law_35 ?_
  refine j_bipush (pc := 36) ok dL_law_36 (by decide) ?_
  refine j_iand (pc := 38) ok dL_law_38 ?_
  have hR := zand_r (zsv xs iN) 31
  generalize zand (zsv xs iN) 31 = w at hR
  by_cases e0 : w = 0
  · refine j_tabIn (pc := 39) 0 160 ok dL_law_39 hR e0 (by decide) rfl (by decide) ?_
    exact lw_c0 ok kx sc hi hcl h kk
  by_cases e1 : w = 1
  · refine j_tabIn (pc := 39) 1 216 ok dL_law_39 hR e1 (by decide) rfl (by decide) ?_
    exact lw_c1 ok kx sc hi hcl h kk
  by_cases e2 : w = 2
  · refine j_tabIn (pc := 39) 2 229 ok dL_law_39 hR e2 (by decide) rfl (by decide) ?_
    exact lw_c2 ok kx sc hi hcl h kk
  by_cases e3 : w = 3
  · refine j_tabIn (pc := 39) 3 242 ok dL_law_39 hR e3 (by decide) rfl (by decide) ?_
    exact lw_c3 ok kx sc hi hcl h kk
  by_cases e4 : w = 4
  · refine j_tabIn (pc := 39) 4 286 ok dL_law_39 hR e4 (by decide) rfl (by decide) ?_
    exact lw_c4 ok kx sc hi hcl h kk
  by_cases e5 : w = 5
  · refine j_tabIn (pc := 39) 5 342 ok dL_law_39 hR e5 (by decide) rfl (by decide) ?_
    exact lw_c5 ok kx sc hi hcl h kk
  by_cases e6 : w = 6
  · refine j_tabIn (pc := 39) 6 410 ok dL_law_39 hR e6 (by decide) rfl (by decide) ?_
    exact lw_c6 ok kx sc hi hcl h kk
  by_cases e7 : w = 7
  · refine j_tabIn (pc := 39) 7 466 ok dL_law_39 hR e7 (by decide) rfl (by decide) ?_
    exact lw_c7 ok kx sc hi hcl h kk
  by_cases e8 : w = 8
  · refine j_tabIn (pc := 39) 8 479 ok dL_law_39 hR e8 (by decide) rfl (by decide) ?_
    exact lw_c8 ok kx sc hi hcl h kk
  by_cases e9 : w = 9
  · refine j_tabIn (pc := 39) 9 535 ok dL_law_39 hR e9 (by decide) rfl (by decide) ?_
    exact lw_c9 ok kx sc hi hcl h kk
  by_cases e10 : w = 10
  · refine j_tabIn (pc := 39) 10 591 ok dL_law_39 hR e10 (by decide) rfl (by decide) ?_
    exact lw_c10 ok kx sc hi hcl h kk
  by_cases e11 : w = 11
  · refine j_tabIn (pc := 39) 11 647 ok dL_law_39 hR e11 (by decide) rfl (by decide) ?_
    exact lw_c11 ok kx sc hi hcl h kk
  by_cases e12 : w = 12
  · refine j_tabIn (pc := 39) 12 688 ok dL_law_39 hR e12 (by decide) rfl (by decide) ?_
    exact lw_c12 ok kx sc hi hcl h kk
  by_cases e13 : w = 13
  · refine j_tabIn (pc := 39) 13 760 ok dL_law_39 hR e13 (by decide) rfl (by decide) ?_
    exact lw_c13 ok kx sc hi hcl h kk
  by_cases e14 : w = 14
  · refine j_tabIn (pc := 39) 14 804 ok dL_law_39 hR e14 (by decide) rfl (by decide) ?_
    exact lw_c14 ok kx sc hi hcl h kk
  by_cases e15 : w = 15
  · refine j_tabIn (pc := 39) 15 848 ok dL_law_39 hR e15 (by decide) rfl (by decide) ?_
    exact lw_c15 ok kx sc hi hcl h kk
  by_cases e16 : w = 16
  · refine j_tabIn (pc := 39) 16 904 ok dL_law_39 hR e16 (by decide) rfl (by decide) ?_
    exact lw_c16 ok kx sc hi hcl h kk
  by_cases e17 : w = 17
  · refine j_tabIn (pc := 39) 17 960 ok dL_law_39 hR e17 (by decide) rfl (by decide) ?_
    exact lw_c17 ok kx sc hi hcl h kk
  by_cases e18 : w = 18
  · refine j_tabIn (pc := 39) 18 1004 ok dL_law_39 hR e18 (by decide) rfl (by decide) ?_
    exact lw_c18 ok kx sc hi hcl h kk
  by_cases e19 : w = 19
  · refine j_tabIn (pc := 39) 19 1048 ok dL_law_39 hR e19 (by decide) rfl (by decide) ?_
    exact lw_c19 ok kx sc hi hcl h kk
  by_cases e20 : w = 20
  · refine j_tabIn (pc := 39) 20 1116 ok dL_law_39 hR e20 (by decide) rfl (by decide) ?_
    exact lw_c20 ok kx sc hi hcl h kk
  by_cases e21 : w = 21
  · refine j_tabIn (pc := 39) 21 1160 ok dL_law_39 hR e21 (by decide) rfl (by decide) ?_
    exact lw_c21 ok kx sc hi hcl h kk
  by_cases e22 : w = 22
  · refine j_tabIn (pc := 39) 22 1216 ok dL_law_39 hR e22 (by decide) rfl (by decide) ?_
    exact lw_c22 ok kx sc hi hcl h kk
  by_cases e23 : w = 23
  · refine j_tabIn (pc := 39) 23 1284 ok dL_law_39 hR e23 (by decide) rfl (by decide) ?_
    exact lw_c23 ok kx sc hi hcl h kk
  by_cases e24 : w = 24
  · refine j_tabIn (pc := 39) 24 1384 ok dL_law_39 hR e24 (by decide) rfl (by decide) ?_
    exact lw_c24 ok kx sc hi hcl h kk
  by_cases e25 : w = 25
  · refine j_tabIn (pc := 39) 25 1484 ok dL_law_39 hR e25 (by decide) rfl (by decide) ?_
    exact lw_c25 ok kx sc hi hcl h kk
  by_cases e26 : w = 26
  · refine j_tabIn (pc := 39) 26 1540 ok dL_law_39 hR e26 (by decide) rfl (by decide) ?_
    exact lw_c26 ok kx sc hi hcl h kk
  refine j_tabOut (pc := 39) 1596 ok dL_law_39 hR (by omega) (by decide) ?_
  refine j_wide (Nat.le_add_right cl 1) (Nat.le_add_right sl 6) ?_
  exact kk ws h
set_option maxRecDepth 100000 in
theorem lw_loop (ok : q_ok D cs κ cL_law 7 RL room_1) {tb : List ExceptionTableEntry} (kx : q_kx κ tb) (sc : q_sc κ b L xs) (hL : L ≤ 2048) (fin : ∀ (cl sl : Nat) (ws : va_W) (lv : List (Nat × Value)), cl ≤ 601024 → sl ≤ 7293034 → q_J D κ 7 cl sl ws lv 1603 [.int (iI 1)]) : ∀ (k iN cl sl : Nat) (ws : va_W), L ≤ iN + 4 * k → iN ≤ L + 4 → cl + k ≤ 601024 → sl + 6 * k ≤ 7293034 → zLw cs ad rQ rM ws → q_J D κ 7 cl sl ws [(4, .int (iI (iN : Int))), (0, .ref b), (1, .ref (ad 0)), (2, .ref (ad 27)), (3, .ref (ad 48))] 23 [] := by
  intro k
  induction k with
  | zero =>
    intro iN cl sl ws hk hi hc hs h
    refine j_iload (pc := 23) 0 ok dL_law_23 rfl ?_
    refine j_aload_n (pc := 25) 1 ok dL_law_25 rfl rfl ?_
    refine j_slen (pc := 26) ok sc dL_law_26 ?_
    refine j_iconst (pc := 27) ok dL_law_27 ?_
    refine j_isub (pc := 28) ok dL_law_28 ?_
    refine j_icmp_gt (pc := 29) (ρ := Unit) (r := ()) (A := some ()) (B := none) 1602 ok dL_law_29 (by decide) (z_lt_t (by omega)) (fun _ => ?_) (fun h => by cases h)
    refine j_iconst (pc := 1602) ok dL_law_1602 ?_
    exact fin _ _ _ _ (by omega) (by omega)
  | succ k ih =>
    intro iN cl sl ws hk hi hc hs h
    refine j_iload (pc := 23) 0 ok dL_law_23 rfl ?_
    refine j_aload_n (pc := 25) 1 ok dL_law_25 rfl rfl ?_
    refine j_slen (pc := 26) ok sc dL_law_26 ?_
    refine j_iconst (pc := 27) ok dL_law_27 ?_
    refine j_isub (pc := 28) ok dL_law_28 ?_
    by_cases hlt : iN + 4 ≤ L
    · refine j_icmp_gt (pc := 29) (ρ := Unit) (r := ()) (A := none) (B := some ()) 1602 ok dL_law_29 (by decide) (z_lt_f (by omega)) (fun h => by cases h) (fun _ => ?_)
      refine lw_body ok kx sc hlt ⟨by omega, by omega⟩ h (fun ws2 h2 => ?_)
      refine j_iinc (pc := 1596) (lv' := [(4, .int (iI ((iN : Int) + 4))), (0, .ref b), (1, .ref (ad 0)), (2, .ref (ad 27)), (3, .ref (ad 48))]) 0 ok dL_law_1596 rfl (by decide) rfl ?_
      refine j_goto (pc := 1599) 23 ok dL_law_1599 (by decide) ?_
      have e : (iN : Int) + 4 = ((iN + 4 : Nat) : Int) := by omega
      rw [e]
      exact ih (iN + 4) _ _ ws2 (by omega) (by omega) (by omega) (by omega) h2
    · refine j_icmp_gt (pc := 29) (ρ := Unit) (r := ()) (A := some ()) (B := none) 1602 ok dL_law_29 (by decide) (z_lt_t (by omega)) (fun _ => ?_) (fun h => by cases h)
      refine j_iconst (pc := 1602) ok dL_law_1602 ?_
      exact fin _ _ _ _ (by omega) (by omega)
end QLP
