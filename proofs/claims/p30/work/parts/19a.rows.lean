/-! the law: its own rows -/
def zsv (xs : Nat → Int32) (j : Nat) : Int := (xs j).toInt
theorem zsv_r (xs : Nat → Int32) (j : Nat) : -2147483648 ≤ zsv xs j ∧ zsv xs j ≤ 2147483647 := iI_inR (xs j)
def zand (a b : Int) : Int := (iI a &&& iI b).toInt
def zshl (a b : Int) : Int := (iL a <<< ((iI b).toInt64 &&& 63)).toInt
def zlan (a b : Int) : Int := (iL a &&& iL b).toInt
def zlor (a b : Int) : Int := (iL a ||| iL b).toInt
theorem zand_r (a b : Int) : inR (zand a b) := iI_inR _
theorem zlor_r (a b : Int) : -9223372036854775808 ≤ zlor a b ∧ zlor a b ≤ 9223372036854775807 := iL_inL _
def q_sc (κ : q_X) (b L : Nat) (xs : Nat → Int32) : Prop :=
  match κ with
  | (_, _, _, _, s, _, _, _, _, _, A, _) => va_X b L xs s s.heap ∧ b < s.heap.size ∧ (¬ A b) ∧ L ≤ 2048
section QLR
variable {D : va_G} {cs : q_CS} {κ : q_X} {cc : ByteArray} {n cl sl : Nat} {own : String} {rm : Room} {ws : va_W} {lv : List (Nat × Value)} {pc : Nat} {st : List Value} {b L : Nat} {xs : Nat → Int32}
theorem j_wide {cl2 sl2 : Nat} (h1 : cl ≤ cl2) (h2 : sl ≤ sl2) (k : q_J D κ n cl2 sl2 ws lv pc st) : q_J D κ n cl sl ws lv pc st := by
  obtain ⟨p, l, e, R, s, m, args, below, meth, c, A, Q⟩ := κ
  intro H locs ls hP hD hS hl
  exact W.widen h1 h2 (k H locs ls hP hD hS hl)
theorem j_slen (ok : q_ok D cs κ cc n own rm) (sc : q_sc κ b L xs) (hdg : decode cc pc = .ok (.arraylength, 1)) (kk : q_J D κ n cl sl ws lv (pc + 1) (.int (iI (L : Int)) :: st)) : q_J D κ n cl sl ws lv pc (.ref b :: st) := by
  obtain ⟨p, l, e, R, s, m, args, below, meth, c, A, Q⟩ := κ
  obtain ⟨hx, hb, hml, hown, hE, hA, hR⟩ := ok
  obtain ⟨hX, hbl, hbA, hL⟩ := sc
  intro H locs ls hP hD hS hl
  refine va_slen hx hb hX hbl hbA hS hdg ?_
  rw [iI_nat]
  exact kk H locs ls hP hD hS hl
theorem j_sld {x : Int} (j : Nat) (ok : q_ok D cs κ cc n own rm) (sc : q_sc κ b L xs) (hj : x = (j : Int)) (hjL : j < L) (hdg : decode cc pc = .ok (.iaload, 1)) (kk : q_J D κ n cl sl ws lv (pc + 1) (.int (iI (zsv xs j)) :: st)) : q_J D κ n cl sl ws lv pc (.int (iI x) :: .ref b :: st) := by
  obtain ⟨p, l, e, R, s, m, args, below, meth, c, A, Q⟩ := κ
  obtain ⟨hx, hb, hml, hown, hE, hA, hR⟩ := ok
  obtain ⟨hX, hbl, hbA, hL⟩ := sc
  intro H locs ls hP hD hS hl
  subst hj
  refine va_sld hx hb hX hbl hbA hS (iI_in ⟨by omega, by omega, by omega⟩) hdg ?_
  rw [iI_cl (by omega) (by omega), Int.toNat_natCast, ← iI_of (xs j)]
  exact kk H locs ls hP hD hS hl
theorem j_iand {x y : Int} (ok : q_ok D cs κ cc n own rm) (hdg : decode cc pc = .ok (.iand, 1)) (kk : q_J D κ n cl sl ws lv (pc + 1) (.int (iI (zand x y)) :: st)) : q_J D κ n cl sl ws lv pc (.int (iI y) :: .int (iI x) :: st) := by
  obtain ⟨p, l, e, R, s, m, args, below, meth, c, A, Q⟩ := κ
  obtain ⟨hx, hb, hml, hown, hE, hA, hR⟩ := ok
  intro H locs ls hP hD hS hl
  refine lv_iand hx hb hdg ?_
  rw [← iI_of (iI x &&& iI y)]
  exact kk H locs ls hP hD hS hl
theorem j_lshl {x y : Int} (ok : q_ok D cs κ cc n own rm) (hdg : decode cc pc = .ok (.lshl, 1)) (kk : q_J D κ n cl sl ws lv (pc + 1) (.long (iL (zshl x y)) :: st)) : q_J D κ n cl sl ws lv pc (.int (iI y) :: .long (iL x) :: st) := by
  obtain ⟨p, l, e, R, s, m, args, below, meth, c, A, Q⟩ := κ
  obtain ⟨hx, hb, hml, hown, hE, hA, hR⟩ := ok
  intro H locs ls hP hD hS hl
  exact lv_lshl hx hb hdg (iL_of _).symm (kk H locs ls hP hD hS hl)
theorem j_land {x y : Int} (ok : q_ok D cs κ cc n own rm) (hdg : decode cc pc = .ok (.land, 1)) (kk : q_J D κ n cl sl ws lv (pc + 1) (.long (iL (zlan x y)) :: st)) : q_J D κ n cl sl ws lv pc (.long (iL y) :: .long (iL x) :: st) := by
  obtain ⟨p, l, e, R, s, m, args, below, meth, c, A, Q⟩ := κ
  obtain ⟨hx, hb, hml, hown, hE, hA, hR⟩ := ok
  intro H locs ls hP hD hS hl
  refine lv_land hx hb hdg ?_
  rw [← iL_of (iL x &&& iL y)]
  exact kk H locs ls hP hD hS hl
theorem j_lor {x y : Int} (ok : q_ok D cs κ cc n own rm) (hdg : decode cc pc = .ok (.lor, 1)) (kk : q_J D κ n cl sl ws lv (pc + 1) (.long (iL (zlor x y)) :: st)) : q_J D κ n cl sl ws lv pc (.long (iL y) :: .long (iL x) :: st) := by
  obtain ⟨p, l, e, R, s, m, args, below, meth, c, A, Q⟩ := κ
  obtain ⟨hx, hb, hml, hown, hE, hA, hR⟩ := ok
  intro H locs ls hP hD hS hl
  refine lv_lor hx hb hdg ?_
  rw [← iL_of (iL x ||| iL y)]
  exact kk H locs ls hP hD hS hl
theorem j_icmp_same {a b : Int} {off : Int} (tgt : Nat) (hab : a = b) (ok : q_ok D cs κ cc n own rm) (hdg : decode cc pc = .ok (.if_icmp .eq off, 3)) (ht : (pc : Int) + off = (tgt : Int)) (kt : q_J D κ n cl sl ws lv tgt st) : q_J D κ n cl sl ws lv pc (.int (iI b) :: .int (iI a) :: st) := by
  obtain ⟨p, l, e, R, s, m, args, below, meth, c, A, Q⟩ := κ
  obtain ⟨hx, hb, hml, hown, hE, hA, hR⟩ := ok
  intro H locs ls hP hD hS hl
  subst hab
  exact lv_icmp_eq hx hb hdg ht (fun _ => kt H locs ls hP hD hS hl) (fun q => absurd rfl q)
theorem j_ne_t {a : Int} {off : Int} (tgt : Nat) (hr : inR a) (ha : a ≠ 0) (ok : q_ok D cs κ cc n own rm) (hdg : decode cc pc = .ok (.ifCond .ne off, 3)) (ht : (pc : Int) + off = (tgt : Int)) (kt : q_J D κ n cl sl ws lv tgt st) : q_J D κ n cl sl ws lv pc (.int (iI a) :: st) :=
  j_if_ne (ρ := Unit) (r := ()) (A := some ()) (B := none) tgt ok hdg ht (z_eq_f ⟨⟨hr, by omega⟩, ha⟩) (fun _ => kt) (fun h => by cases h)
theorem j_ne_f {a : Int} {off : Int} (tgt : Nat) (ha : a = 0) (ok : q_ok D cs κ cc n own rm) (hdg : decode cc pc = .ok (.ifCond .ne off, 3)) (ht : (pc : Int) + off = (tgt : Int)) (kf : q_J D κ n cl sl ws lv (pc + 3) st) : q_J D κ n cl sl ws lv pc (.int (iI a) :: st) :=
  j_if_ne (ρ := Unit) (r := ()) (A := none) (B := some ()) tgt ok hdg ht (z_eq_t (by omega)) (fun h => by cases h) (fun _ => kf)
theorem j_eq_t {a : Int} {off : Int} (tgt : Nat) (ha : a = 0) (ok : q_ok D cs κ cc n own rm) (hdg : decode cc pc = .ok (.ifCond .eq off, 3)) (ht : (pc : Int) + off = (tgt : Int)) (kt : q_J D κ n cl sl ws lv tgt st) : q_J D κ n cl sl ws lv pc (.int (iI a) :: st) :=
  j_if_eq (ρ := Unit) (r := ()) (A := some ()) (B := none) tgt ok hdg ht (z_eq_t (by omega)) (fun _ => kt) (fun h => by cases h)
theorem j_eq_f {a : Int} {off : Int} (tgt : Nat) (hr : inR a) (ha : a ≠ 0) (ok : q_ok D cs κ cc n own rm) (hdg : decode cc pc = .ok (.ifCond .eq off, 3)) (ht : (pc : Int) + off = (tgt : Int)) (kf : q_J D κ n cl sl ws lv (pc + 3) st) : q_J D κ n cl sl ws lv pc (.int (iI a) :: st) :=
  j_if_eq (ρ := Unit) (r := ()) (A := none) (B := some ()) tgt ok hdg ht (z_eq_f ⟨⟨hr, by omega⟩, ha⟩) (fun h => by cases h) (fun _ => kf)
theorem j_lsame {a b : Int} {off : Int} (tgt : Nat) (hab : a = b) (hr : -2147483648 ≤ b ∧ b ≤ 2147483647) (ok : q_ok D cs κ cc n own rm) (hd1 : decode cc pc = .ok (.lcmp, 1)) (hdg : decode cc (pc + 1) = .ok (.ifCond .eq off, 3)) (ht : ((pc + 1 : Nat) : Int) + off = (tgt : Int)) (kt : q_J D κ n cl sl ws lv tgt st) : q_J D κ n cl sl ws lv pc (.long (iL b) :: .long (iL a) :: st) := by
  subst hab
  exact j_lcmp_eq (ρ := Unit) (r := ()) (A := some ()) (B := none) tgt ok hd1 hdg ht (by unfold dEq; rw [if_pos ⟨⟨by omega, by omega⟩, ⟨by omega, by omega⟩⟩, if_pos rfl]) (fun _ => kt) (fun h => by cases h)
end QLR
