/-! the law: its own rows -/
def zsv (xs : Nat → Int32) (j : Nat) : Int := (xs j).toInt
theorem zsv_r (xs : Nat → Int32) (j : Nat) : -2147483648 ≤ zsv xs j ∧ zsv xs j ≤ 2147483647 := iI_inR (xs j)
def zand (a b : Int) : Int := (iI a &&& iI b).toInt
def zshl (a b : Int) : Int := (iL a <<< ((iI b).toInt64 &&& 63)).toInt
def zlan (a b : Int) : Int := (iL a &&& iL b).toInt
def zlor (a b : Int) : Int := (iL a ||| iL b).toInt
theorem zand_r (a b : Int) : inR (zand a b) := iI_inR _
theorem zlor_r (a b : Int) : -9223372036854775808 ≤ zlor a b ∧ zlor a b ≤ 9223372036854775807 := iL_inL _
def q_sc (κ : q_X) (b L : Nat) (xs : Nat → Int32) : Prop :=
  match κ with
  | (_, _, _, _, s, _, _, _, _, _, A, _) => va_X b L xs s s.heap ∧ b < s.heap.size ∧ (¬ A b) ∧ L ≤ 2048
section QLR
variable {D : va_G} {cs : q_CS} {κ : q_X} {cc : ByteArray} {n cl sl : Nat} {own : String} {rm : Room} {ws : va_W} {lv : List (Nat × Value)} {pc : Nat} {st : List Value} {b L : Nat} {xs : Nat → Int32}
theorem j_wide {cl2 sl2 : Nat} (h1 : cl ≤ cl2) (h2 : sl ≤ sl2) (k : q_J D κ n cl2 sl2 ws lv pc st) : q_J D κ n cl sl ws lv pc st := by
  obtain ⟨p, l, e, R, s, m, args, below, meth, c, A, Q⟩ := κ
  intro H locs ls hP hD hS hl
  exact W.widen h1 h2 (k H locs ls hP hD hS hl)
theorem j_slen (ok : q_ok D cs κ cc n own rm) (sc : q_sc κ b L xs) (hdg : decode cc pc = .ok (.arraylength, 1)) (kk : q_J D κ n cl sl ws lv (pc + 1) (.int (iI (L : Int)) :: st)) : q_J D κ n cl sl ws lv pc (.ref b :: st) := by
  obtain ⟨p, l, e, R, s, m, args, below, meth, c, A, Q⟩ := κ
  obtain ⟨hx, hb, hml, hown, hE, hA, hR⟩ := ok
  obtain ⟨hX, hbl, hbA, hL⟩ := sc
  intro H locs ls hP hD hS hl
  refine va_slen hx hb hX hbl hbA hS hdg ?_
  rw [iI_nat]
  exact kk H locs ls hP hD hS hl
theorem j_sld {x : Int} (j : Nat) (ok : q_ok D cs κ cc n own rm) (sc : q_sc κ b L xs) (hj : x = (j : Int)) (hjL : j < L) (hdg : decode cc pc = .ok (.iaload, 1)) (kk : q_J D κ n cl sl ws lv (pc + 1) (.int (iI (zsv xs j)) :: st)) : q_J D κ n cl sl ws lv pc (.int (iI x) :: .ref b :: st) := by
  obtain ⟨p, l, e, R, s, m, args, below, meth, c, A, Q⟩ := κ
  obtain ⟨hx, hb, hml, hown, hE, hA, hR⟩ := ok
  obtain ⟨hX, hbl, hbA, hL⟩ := sc
  intro H locs ls hP hD hS hl
  subst hj
  refine va_sld hx hb hX hbl hbA hS (iI_in ⟨by omega, by omega, by omega⟩) hdg ?_
  rw [iI_cl (by omega) (by omega), Int.toNat_natCast, ← iI_of (xs j)]
  exact kk H locs ls hP hD hS hl
theorem j_iand {x y : Int} (ok : q_ok D cs κ cc n own rm) (hdg : decode cc pc = .ok (.iand, 1)) (kk : q_J D κ n cl sl ws lv (pc + 1) (.int (iI (zand x y)) :: st)) : q_J D κ n cl sl ws lv pc (.int (iI y) :: .int (iI x) :: st) := by
  obtain ⟨p, l, e, R, s, m, args, below, meth, c, A, Q⟩ := κ
  obtain ⟨hx, hb, hml, hown, hE, hA, hR⟩ := ok
  intro H locs ls hP hD hS hl
  refine lv_iand hx hb hdg ?_
  rw [← iI_of (iI x &&& iI y)]
  exact kk H locs ls hP hD hS hl
theorem j_lshl {x y : Int} (ok : q_ok D cs κ cc n own rm) (hdg : decode cc pc = .ok (.lshl, 1)) (kk : q_J D κ n cl sl ws lv (pc + 1) (.long (iL (zshl x y)) :: st)) : q_J D κ n cl sl ws lv pc (.int (iI y) :: .long (iL x) :: st) := by
  obtain ⟨p, l, e, R, s, m, args, below, meth, c, A, Q⟩ := κ
  obtain ⟨hx, hb, hml, hown, hE, hA, hR⟩ := ok
  intro H locs ls hP hD hS hl
  exact lv_lshl hx hb hdg (iL_of _).symm (kk H locs ls hP hD hS hl)
theorem j_land {x y : Int} (ok : q_ok D cs κ cc n own rm) (hdg : decode cc pc = .ok (.land, 1)) (kk : q_J D κ n cl sl ws lv (pc + 1) (.long (iL (zlan x y)) :: st)) : q_J D κ n cl sl ws lv pc (.long (iL y) :: .long (iL x) :: st) := by
  obtain ⟨p, l, e, R, s, m, args, below, meth, c, A, Q⟩ := κ
  obtain ⟨hx, hb, hml, hown, hE, hA, hR⟩ := ok
  intro H locs ls hP hD hS hl
  refine lv_land hx hb hdg ?_
  rw [← iL_of (iL x &&& iL y)]
  exact kk H locs ls hP hD hS hl
theorem j_lor {x y : Int} (ok : q_ok D cs κ cc n own rm) (hdg : decode cc pc = .ok (.lor, 1)) (kk : q_J D κ n cl sl ws lv (pc + 1) (.long (iL (zlor x y)) :: st)) : q_J D κ n cl sl ws lv pc (.long (iL y) :: .long (iL x) :: st) := by
  obtain ⟨p, l, e, R, s, m, args, below, meth, c, A, Q⟩ := κ
  obtain ⟨hx, hb, hml, hown, hE, hA, hR⟩ := ok
  intro H locs ls hP hD hS hl
  refine lv_lor hx hb hdg ?_
  rw [← iL_of (iL x ||| iL y)]
  exact kk H locs ls hP hD hS hl
theorem j_icmp_same {a b : Int} {off : Int} (tgt : Nat) (hab : a = b) (ok : q_ok D cs κ cc n own rm) (hdg : decode cc pc = .ok (.if_icmp .eq off, 3)) (ht : (pc : Int) + off = (tgt : Int)) (kt : q_J D κ n cl sl ws lv tgt st) : q_J D κ n cl sl ws lv pc (.int (iI b) :: .int (iI a) :: st) := by
  obtain ⟨p, l, e, R, s, m, args, below, meth, c, A, Q⟩ := κ
  obtain ⟨hx, hb, hml, hown, hE, hA, hR⟩ := ok
  intro H locs ls hP hD hS hl
  subst hab
  exact lv_icmp_eq hx hb hdg ht (fun _ => kt H locs ls hP hD hS hl) (fun q => absurd rfl q)
theorem j_ne_t {a : Int} {off : Int} (tgt : Nat) (hr : inR a) (ha : a ≠ 0) (ok : q_ok D cs κ cc n own rm) (hdg : decode cc pc = .ok (.ifCond .ne off, 3)) (ht : (pc : Int) + off = (tgt : Int)) (kt : q_J D κ n cl sl ws lv tgt st) : q_J D κ n cl sl ws lv pc (.int (iI a) :: st) :=
  j_if_ne (ρ := Unit) (r := ()) (A := some ()) (B := none) tgt ok hdg ht (z_eq_f ⟨⟨hr, by omega⟩, ha⟩) (fun _ => kt) (fun h => by cases h)
theorem j_ne_f {a : Int} {off : Int} (tgt : Nat) (ha : a = 0) (ok : q_ok D cs κ cc n own rm) (hdg : decode cc pc = .ok (.ifCond .ne off, 3)) (ht : (pc : Int) + off = (tgt : Int)) (kf : q_J D κ n cl sl ws lv (pc + 3) st) : q_J D κ n cl sl ws lv pc (.int (iI a) :: st) :=
  j_if_ne (ρ := Unit) (r := ()) (A := none) (B := some ()) tgt ok hdg ht (z_eq_t (by omega)) (fun h => by cases h) (fun _ => kf)
theorem j_eq_t {a : Int} {off : Int} (tgt : Nat) (ha : a = 0) (ok : q_ok D cs κ cc n own rm) (hdg : decode cc pc = .ok (.ifCond .eq off, 3)) (ht : (pc : Int) + off = (tgt : Int)) (kt : q_J D κ n cl sl ws lv tgt st) : q_J D κ n cl sl ws lv pc (.int (iI a) :: st) :=
  j_if_eq (ρ := Unit) (r := ()) (A := some ()) (B := none) tgt ok hdg ht (z_eq_t (by omega)) (fun _ => kt) (fun h => by cases h)
theorem j_eq_f {a : Int} {off : Int} (tgt : Nat) (hr : inR a) (ha : a ≠ 0) (ok : q_ok D cs κ cc n own rm) (hdg : decode cc pc = .ok (.ifCond .eq off, 3)) (ht : (pc : Int) + off = (tgt : Int)) (kf : q_J D κ n cl sl ws lv (pc + 3) st) : q_J D κ n cl sl ws lv pc (.int (iI a) :: st) :=
  j_if_eq (ρ := Unit) (r := ()) (A := none) (B := some ()) tgt ok hdg ht (z_eq_f ⟨⟨hr, by omega⟩, ha⟩) (fun h => by cases h) (fun _ => kf)
theorem j_lsame {a b : Int} {off : Int} (tgt : Nat) (hab : a = b) (hr : -2147483648 ≤ b ∧ b ≤ 2147483647) (ok : q_ok D cs κ cc n own rm) (hd1 : decode cc pc = .ok (.lcmp, 1)) (hdg : decode cc (pc + 1) = .ok (.ifCond .eq off, 3)) (ht : ((pc + 1 : Nat) : Int) + off = (tgt : Int)) (kt : q_J D κ n cl sl ws lv tgt st) : q_J D κ n cl sl ws lv pc (.long (iL b) :: .long (iL a) :: st) := by
  subst hab
  exact j_lcmp_eq (ρ := Unit) (r := ()) (A := some ()) (B := none) tgt ok hd1 hdg ht (by unfold dEq; rw [if_pos ⟨⟨by omega, by omega⟩, ⟨by omega, by omega⟩⟩, if_pos rfl]) (fun _ => kt) (fun h => by cases h)
end QLR
theorem z_tg2 {ρ : Type} {t k v v' t1 t2 : Int} {oF : Nat → Int} (f : Int → (Nat → Int) → ρ) (hz : zag t k v v' t1 t2) (ht : t1 ≠ 0 ∧ t2 ≠ 0 ∧ t1 ≠ t2) : ∃ oF' : Nat → Int, tg2 t t1 t2 (gR v (gIn 0 1 (some (f 0 (va_up oF (0 : Int).toNat v))))) (some (f 1 oF)) (some (f 2 oF)) = some (f k oF') ∧ (k = 0 → oF' (0 : Int).toNat = v' ∧ (-2147483648 ≤ v' ∧ v' ≤ 2147483647)) ∧ (k = 0 ∨ k = 1 ∨ k = 2) := by
  rcases hz with ⟨h1, h2, h3, h4⟩ | ⟨h1, h2⟩ | ⟨h1, h2, h3⟩
  · subst h1 h2 h3
    refine ⟨va_up oF (0 : Int).toNat v, ?_, fun _ => ⟨zup_eq, h4⟩, Or.inl rfl⟩
    unfold tg2
    rw [if_pos rfl, z_gR h4, z_in (by omega)]
  · subst h2
    refine ⟨oF, ?_, fun h => by omega, Or.inr (Or.inl rfl)⟩
    unfold tg2
    rw [if_neg (by omega), if_pos h1]
  · subst h2
    refine ⟨oF, ?_, fun h => by omega, Or.inr (Or.inr rfl)⟩
    unfold tg2
    rw [if_neg (by omega), if_neg (by omega), if_pos h1]
theorem z_tg1 {ρ : Type} {t k v v' t1 : Int} {oF : Nat → Int} (f : Int → (Nat → Int) → ρ) (hz : zag t k v v' t1 9) (ht : t1 ≠ 0) : ∃ oF' : Nat → Int, tg1 t t1 (gR v (gIn 0 1 (some (f 0 (va_up oF (0 : Int).toNat v))))) (some (f 1 oF)) = some (f k oF') ∧ (k = 0 → oF' (0 : Int).toNat = v' ∧ (-2147483648 ≤ v' ∧ v' ≤ 2147483647)) ∧ (k = 0 ∨ k = 1 ∨ k = 2) := by
  rcases hz with ⟨h1, h2, h3, h4⟩ | ⟨h1, h2⟩ | ⟨h1, h2, h3⟩
  · subst h1 h2 h3
    refine ⟨va_up oF (0 : Int).toNat v, ?_, fun _ => ⟨zup_eq, h4⟩, Or.inl rfl⟩
    unfold tg1
    rw [if_pos rfl, z_gR h4, z_in (by omega)]
  · subst h2
    refine ⟨oF, ?_, fun h => by omega, Or.inr (Or.inl rfl)⟩
    unfold tg1
    rw [if_neg (by omega), if_pos h1]
  · exact absurd rfl h3
/-! the calls, over the relations of the whole state -/
def zCl (cn : Int) (Fc Rc : Nat → Int) : Prop := ∃ Lc : List Int, zK Lc ∧ zCx 180 cn Fc Lc ∧ zRy 184 Rc Lc
section QLC
variable {n ca fr rf x y cn o c acts : Int} {F R Fc Rc rS rC rM D T : Nat → Int} {rF : Nat → Nat → Int}
theorem w_about (hF : zF n ca fr F R) (hC : zCl cn Fc Rc) (hx : -2147483648 ≤ x ∧ x ≤ 2147483647) : ∃ t v v' k, f_X7_about cn n ca Fc F x = some (t, v) ∧ f_X8_about rf Rc R x = some (v', k) ∧ zag t k v v' 1 9 := by
  obtain ⟨A, S, B, h1, h2, h3⟩ := hF
  obtain ⟨Lc, c1, c2, c3⟩ := hC
  exact e_about h1 h2 h3 c1 c2 c3 hx
theorem w_selection (hF : zF n ca fr F R) (hx : -2147483648 ≤ x ∧ x ≤ 2147483647) : ∃ t v v' k, f_X7_selection n ca fr F x = some (t, v) ∧ f_X8_selection rf R x = some (v', k) ∧ zag t k v v' 1 9 := by
  obtain ⟨A, S, B, h1, h2, h3⟩ := hF
  exact e_selection h1 h2 h3 hx
theorem w_place (hF : zF n ca fr F R) (hx : -2147483648 ≤ x ∧ x ≤ 2147483647) (hy : -2147483648 ≤ y ∧ y ≤ 2147483647) : ∃ t v v' k, f_X7_place n F x y = some (t, v) ∧ f_X8_place rf R x y = some (v', k) ∧ zag t k v v' 3 1 := by
  obtain ⟨A, S, B, h1, h2, h3⟩ := hF
  exact e_place h1 h2 h3 hx hy
theorem w_moveTo (hF : zF n ca fr F R) (hx : -2147483648 ≤ x ∧ x ≤ 2147483647) : ∃ t v v' k ca' fr' R', f_X7_moveTo n ca fr x = some (t, v, ca', fr') ∧ f_X8_moveTo rf R x = some (v', k, R') ∧ zag t k v v' 3 9 ∧ zF n ca' fr' F R' := by
  obtain ⟨A, S, B, h1, h2, h3⟩ := hF
  exact e_moveTo h1 h2 h3 hx
theorem w_moveBy (hF : zF n ca fr F R) (hx : -2147483648 ≤ x ∧ x ≤ 2147483647) : ∃ t v v' k ca' fr' R', f_X7_moveBy n ca fr x = some (t, v, ca', fr') ∧ f_X8_moveBy rf R x = some (v', k, R') ∧ zag t k v v' 1 9 ∧ zF n ca' fr' F R' := by
  obtain ⟨A, S, B, h1, h2, h3⟩ := hF
  exact e_moveBy h1 h2 h3 hx
theorem w_grow (hF : zF n ca fr F R) : ∃ t v v' k ca' fr' R', f_X7_grow n ca fr F = some (t, v, ca', fr') ∧ f_X8_grow rf R = some (v', k, R') ∧ zag t k v v' 2 9 ∧ zF n ca' fr' F R' := by
  obtain ⟨A, S, B, h1, h2, h3⟩ := hF
  exact e_growc h1 h2 h3
theorem w_extend (hF : zF n ca fr F R) (hx : x = 0 ∨ x = 1) : ∃ t v v' k ca' fr' R', f_X7_extend n ca fr F x = some (t, v, ca', fr') ∧ f_X8_extend rf R x = some (v', k, R') ∧ zag t k v v' 2 9 ∧ zF n ca' fr' F R' := by
  obtain ⟨A, S, B, h1, h2, h3⟩ := hF
  exact e_extend h1 h2 h3 hx
theorem w_vert (hF : zF n ca fr F R) (hx : x = 0 ∨ x = 1) : ∃ v ca' fr' R', f_X7_moveVertically n ca fr F x = some (v, ca', fr') ∧ f_X8_moveVertically rf R x = some (v, 0, R') ∧ zF n ca' fr' F R' := by
  obtain ⟨A, S, B, h1, h2, h3⟩ := hF
  exact e_vert h1 h2 h3 hx
theorem w_copy (hF : zF n ca fr F R) (hC : zCl cn Fc Rc) : ∃ t v v' k cn' Fc' Rc', f_X7_copy cn ca fr Fc F = some (t, v, cn', Fc') ∧ f_X8_copy rf Rc R = some (v', k, Rc') ∧ zag t k v v' 2 9 ∧ zCl cn' Fc' Rc' := by
  obtain ⟨A, S, B, h1, h2, h3⟩ := hF
  obtain ⟨Lc, c1, c2, c3⟩ := hC
  exact e_copy h1 h2 h3 c1 c2 c3
theorem w_paste (hH : zH o c rS rC rM rF acts D) (hF : zF n ca fr F R) (hC : zCl cn Fc Rc) : ∃ t v v' k o' c' n' ca' fr' F' rS' rC' rM' rF' acts' D' R' T', f_X7_paste cn o c n ca fr Fc F rS rC rM rF = some (t, v, o', c', n', ca', fr', F', rS', rC', rM', rF') ∧ f_X8_paste rf acts Rc D R T = some (v', k, acts', D', R', T') ∧ zag t k v v' 2 9 ∧ zH o' c' rS' rC' rM' rF' acts' D' ∧ zF n' ca' fr' F' R' := by
  obtain ⟨Lc, c1, c2, c3⟩ := hC
  exact e_paste T hH hF c1 c2 c3
end QLC
