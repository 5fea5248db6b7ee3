/-! more rows of the judgement -/
def mxI (a b : Int) : Int := if a < b then b else a
def mnI (a b : Int) : Int := if b < a then b else a
def lsrI (x s : Int) : Int := ((iL x).toUInt64 >>> ((iI s).toInt64.toUInt64 &&& Int64.toUInt64 63)).toInt64.toInt
section QW2
variable {D : va_G} {cs : q_CS} {κ : q_X} {cc : ByteArray} {n cl sl : Nat} {own : String} {rm : Room} {ws : va_W} {lv : List (Nat × Value)} {pc : Nat} {st : List Value}
theorem j_iastw {ρ : Type} {r : ρ} {B : Option ρ} {a L : Nat} {F : Nat → Int} {i x : Int} (q0 : Nat) (ok : q_ok D cs κ cc n own rm) (he : ws[q0]? = some (a, .inl (cs.1, L, .inl (aI F)))) (hdg : decode cc pc = .ok (.iastore, 1)) (h : gIn i L B = some r) (ws' : va_W) (hw : ws.set q0 (a, .inl (cs.1, L, .inl (aI (va_up F i.toNat x)))) = ws') (kk : B = some r → q_J D κ n cl sl ws' lv (pc + 1) st) : q_J D κ n cl sl ws lv pc (.int (iI x) :: .int (iI i) :: .ref a :: st) := by
  subst hw
  exact j_iast q0 ok he hdg h kk
theorem j_zastw {ρ : Type} {r : ρ} {B : Option ρ} {a L : Nat} {F : Nat → Int} {i x : Int} (q0 : Nat) (ok : q_ok D cs κ cc n own rm) (he : ws[q0]? = some (a, .inl (cs.2.1, L, .inl (aI F)))) (hdg : decode cc pc = .ok (.bastore, 1)) (h : gIn i L (gB x B) = some r) (ws' : va_W) (hw : ws.set q0 (a, .inl (cs.2.1, L, .inl (aI (va_up F i.toNat x)))) = ws') (kk : B = some r → q_J D κ n cl sl ws' lv (pc + 1) st) : q_J D κ n cl sl ws lv pc (.int (iI x) :: .int (iI i) :: .ref a :: st) := by
  subst hw
  exact j_zast q0 ok he hdg h kk
theorem j_copyw {a a0 L0 L1 : Nat} {F G : Nat → Int} {sp dp k : Int} {ρ : Type} {r : ρ} {B : Option ρ} {index : Nat} (q0 q1 : Nat) (ok : q_ok D cs κ cc n own rm) (he0 : ws[q0]? = some (a0, .inl (cs.1, L0, .inl (aI F)))) (he1 : ws[q1]? = some (a, .inl (cs.1, L1, .inl (aI G)))) (hlink : Cond.methodLink own index arraycopyName ∈ q_tbl) (hnat : Cond.native arraycopyName ∈ q_tbl) (hstat : Cond.static arraycopyName ∈ q_tbl) (hini : Cond.initialized "java/lang/System" ∈ q_tbl) (hframes : 1 ≤ rm.frames) (hlocals : (st.map fun v => v.category).sum + (nativeFrameWords "java/lang/System" "arraycopy" 5 + 11) ≤ rm.locals) (hdg : decode cc pc = .ok (.invokestatic index, 3)) (h : gC sp dp k L0 L1 B = some r) (ws' : va_W) (hw : ws.set q1 (a, .inl (cs.1, L1, .inl (aI (va_cpy F G sp.toNat dp.toNat k.toNat)))) = ws') (kk : B = some r → q_J D κ n cl sl ws' lv (pc + 3) st) : q_J D κ n cl sl ws lv pc (.int (iI k) :: .int (iI dp) :: .ref a :: .int (iI sp) :: .ref a0 :: st) := by
  subst hw
  exact j_copy q0 q1 ok he0 he1 hlink hnat hstat hini hframes hlocals hdg h kk
theorem j_maxw {a b : Int} {ρ : Type} {r : ρ} {B : Option ρ} {index : Nat} (ok : q_ok D cs κ cc n own rm) (hlink : Cond.methodLink own index Lib.Math.max.name ∈ q_tbl) (hstat : Cond.static Lib.Math.max.name ∈ q_tbl) (hini : Cond.initialized "java/lang/Math" ∈ q_tbl) (hcode : Cond.code Lib.Math.max.name Lib.Math.max.code 2 (some .int) ∈ q_tbl) (hframes : 1 ≤ rm.frames) (hlocals : (st.map fun v => v.category).sum + 13 ≤ rm.locals) (hc : cl ≤ rm.cells) (hs : sl ≤ rm.slots) (hdg : decode cc pc = .ok (.invokestatic index, 3)) (h : gR a (gR b B) = some r) (kk : B = some r → q_J D κ n cl sl ws lv (pc + 3) (.int (iI (mxI a b)) :: st)) : q_J D κ n cl sl ws lv pc (.int (iI b) :: .int (iI a) :: st) := by
  exact j_max ok hlink hstat hini hcode hframes hlocals hc hs hdg h kk
theorem j_minw {a b : Int} {ρ : Type} {r : ρ} {B : Option ρ} {index : Nat} (ok : q_ok D cs κ cc n own rm) (hlink : Cond.methodLink own index Lib.Math.min.name ∈ q_tbl) (hstat : Cond.static Lib.Math.min.name ∈ q_tbl) (hini : Cond.initialized "java/lang/Math" ∈ q_tbl) (hcode : Cond.code Lib.Math.min.name Lib.Math.min.code 2 (some .int) ∈ q_tbl) (hframes : 1 ≤ rm.frames) (hlocals : (st.map fun v => v.category).sum + 13 ≤ rm.locals) (hc : cl ≤ rm.cells) (hs : sl ≤ rm.slots) (hdg : decode cc pc = .ok (.invokestatic index, 3)) (h : gR a (gR b B) = some r) (kk : B = some r → q_J D κ n cl sl ws lv (pc + 3) (.int (iI (mnI a b)) :: st)) : q_J D κ n cl sl ws lv pc (.int (iI b) :: .int (iI a) :: st) := by
  exact j_min ok hlink hstat hini hcode hframes hlocals hc hs hdg h kk
theorem j_lcmp_lt {ρ : Type} {r : ρ} {A B : Option ρ} {a b : Int} {off : Int} (tgt : Nat) (ok : q_ok D cs κ cc n own rm) (hd1 : decode cc pc = .ok (.lcmp, 1)) (hdg : decode cc (pc + 1) = .ok (.ifCond .lt off, 3)) (ht : ((pc + 1 : Nat) : Int) + off = (tgt : Int)) (h : dLt a b A B = some r) (kt : A = some r → q_J D κ n cl sl ws lv tgt st) (kf : B = some r → q_J D κ n cl sl ws lv (pc + 1 + 3) st) : q_J D κ n cl sl ws lv pc (.long (iL b) :: .long (iL a) :: st) := by
  obtain ⟨p, l, e, R, s, m, args, below, meth, c, A, Q⟩ := κ
  obtain ⟨hx, hb, hml, hown, hE, hA, hR⟩ := ok
  intro H locs ls hP hD hS hl
  obtain ⟨⟨ha, hb9⟩, h1, h2⟩ := dLt_inv h
  refine W.lcmp hx hb hd1 ?_
  exact lv_if_lt hx hb hdg ht (fun q => kt (h1 (by rw [lg_cmp_lt] at q; exact (iL_lt ha hb9).mp q)) H locs ls hP hD hS hl) (fun q => kf (h2 (by rw [lg_cmp_lt] at q; exact fun z => q ((iL_lt ha hb9).mpr z))) H locs ls hP hD hS hl)
theorem j_lcmp_ge {ρ : Type} {r : ρ} {A B : Option ρ} {a b : Int} {off : Int} (tgt : Nat) (ok : q_ok D cs κ cc n own rm) (hd1 : decode cc pc = .ok (.lcmp, 1)) (hdg : decode cc (pc + 1) = .ok (.ifCond .ge off, 3)) (ht : ((pc + 1 : Nat) : Int) + off = (tgt : Int)) (h : dLt a b B A = some r) (kt : A = some r → q_J D κ n cl sl ws lv tgt st) (kf : B = some r → q_J D κ n cl sl ws lv (pc + 1 + 3) st) : q_J D κ n cl sl ws lv pc (.long (iL b) :: .long (iL a) :: st) := by
  obtain ⟨p, l, e, R, s, m, args, below, meth, c, A, Q⟩ := κ
  obtain ⟨hx, hb, hml, hown, hE, hA, hR⟩ := ok
  intro H locs ls hP hD hS hl
  obtain ⟨⟨ha, hb9⟩, h1, h2⟩ := dLt_inv h
  refine W.lcmp hx hb hd1 ?_
  exact lv_if_ge hx hb hdg ht (fun q => kt (h2 (by rw [lg_cmp_ge] at q; have q := Int64.le_iff_toInt_le.mp q; rw [iL_toInt hb9, iL_toInt ha] at q; omega)) H locs ls hP hD hS hl) (fun q => kf (h1 (by rw [lg_cmp_ge] at q; have q : ¬ _ ≤ _ := fun z => q (Int64.le_iff_toInt_le.mpr z); rw [iL_toInt hb9, iL_toInt ha] at q; omega)) H locs ls hP hD hS hl)
theorem j_lcmp_gt {ρ : Type} {r : ρ} {A B : Option ρ} {a b : Int} {off : Int} (tgt : Nat) (ok : q_ok D cs κ cc n own rm) (hd1 : decode cc pc = .ok (.lcmp, 1)) (hdg : decode cc (pc + 1) = .ok (.ifCond .gt off, 3)) (ht : ((pc + 1 : Nat) : Int) + off = (tgt : Int)) (h : dLt b a A B = some r) (kt : A = some r → q_J D κ n cl sl ws lv tgt st) (kf : B = some r → q_J D κ n cl sl ws lv (pc + 1 + 3) st) : q_J D κ n cl sl ws lv pc (.long (iL b) :: .long (iL a) :: st) := by
  obtain ⟨p, l, e, R, s, m, args, below, meth, c, A, Q⟩ := κ
  obtain ⟨hx, hb, hml, hown, hE, hA, hR⟩ := ok
  intro H locs ls hP hD hS hl
  obtain ⟨⟨ha, hb9⟩, h1, h2⟩ := dLt_inv h
  refine W.lcmp hx hb hd1 ?_
  exact lv_if_gt hx hb hdg ht (fun q => kt (h1 (by rw [lg_cmp_gt] at q; exact (iL_lt ha hb9).mp q)) H locs ls hP hD hS hl) (fun q => kf (h2 (by rw [lg_cmp_gt] at q; exact fun z => q ((iL_lt ha hb9).mpr z))) H locs ls hP hD hS hl)
theorem j_lcmp_le {ρ : Type} {r : ρ} {A B : Option ρ} {a b : Int} {off : Int} (tgt : Nat) (ok : q_ok D cs κ cc n own rm) (hd1 : decode cc pc = .ok (.lcmp, 1)) (hdg : decode cc (pc + 1) = .ok (.ifCond .le off, 3)) (ht : ((pc + 1 : Nat) : Int) + off = (tgt : Int)) (h : dLt b a B A = some r) (kt : A = some r → q_J D κ n cl sl ws lv tgt st) (kf : B = some r → q_J D κ n cl sl ws lv (pc + 1 + 3) st) : q_J D κ n cl sl ws lv pc (.long (iL b) :: .long (iL a) :: st) := by
  obtain ⟨p, l, e, R, s, m, args, below, meth, c, A, Q⟩ := κ
  obtain ⟨hx, hb, hml, hown, hE, hA, hR⟩ := ok
  intro H locs ls hP hD hS hl
  obtain ⟨⟨ha, hb9⟩, h1, h2⟩ := dLt_inv h
  refine W.lcmp hx hb hd1 ?_
  exact lv_if_le hx hb hdg ht (fun q => kt (h2 (by rw [lg_cmp_le] at q; have q := Int64.le_iff_toInt_le.mp q; rw [iL_toInt hb9, iL_toInt ha] at q; omega)) H locs ls hP hD hS hl) (fun q => kf (h1 (by rw [lg_cmp_le] at q; have q : ¬ _ ≤ _ := fun z => q (Int64.le_iff_toInt_le.mpr z); rw [iL_toInt hb9, iL_toInt ha] at q; omega)) H locs ls hP hD hS hl)
theorem j_lcmp_eq {ρ : Type} {r : ρ} {A B : Option ρ} {a b : Int} {off : Int} (tgt : Nat) (ok : q_ok D cs κ cc n own rm) (hd1 : decode cc pc = .ok (.lcmp, 1)) (hdg : decode cc (pc + 1) = .ok (.ifCond .eq off, 3)) (ht : ((pc + 1 : Nat) : Int) + off = (tgt : Int)) (h : dEq a b A B = some r) (kt : A = some r → q_J D κ n cl sl ws lv tgt st) (kf : B = some r → q_J D κ n cl sl ws lv (pc + 1 + 3) st) : q_J D κ n cl sl ws lv pc (.long (iL b) :: .long (iL a) :: st) := by
  obtain ⟨p, l, e, R, s, m, args, below, meth, c, A, Q⟩ := κ
  obtain ⟨hx, hb, hml, hown, hE, hA, hR⟩ := ok
  intro H locs ls hP hD hS hl
  obtain ⟨⟨ha, hb9⟩, h1, h2⟩ := dEq_inv h
  refine W.lcmp hx hb hd1 ?_
  exact lv_if_eq hx hb hdg ht (fun q => kt (h1 (by rw [lg_cmp_eq] at q; exact (iL_eq ha hb9).mp q)) H locs ls hP hD hS hl) (fun q => kf (h2 (by rw [lg_cmp_eq] at q; exact fun z => q ((iL_eq ha hb9).mpr z))) H locs ls hP hD hS hl)
theorem j_lcmp_ne {ρ : Type} {r : ρ} {A B : Option ρ} {a b : Int} {off : Int} (tgt : Nat) (ok : q_ok D cs κ cc n own rm) (hd1 : decode cc pc = .ok (.lcmp, 1)) (hdg : decode cc (pc + 1) = .ok (.ifCond .ne off, 3)) (ht : ((pc + 1 : Nat) : Int) + off = (tgt : Int)) (h : dEq a b B A = some r) (kt : A = some r → q_J D κ n cl sl ws lv tgt st) (kf : B = some r → q_J D κ n cl sl ws lv (pc + 1 + 3) st) : q_J D κ n cl sl ws lv pc (.long (iL b) :: .long (iL a) :: st) := by
  obtain ⟨p, l, e, R, s, m, args, below, meth, c, A, Q⟩ := κ
  obtain ⟨hx, hb, hml, hown, hE, hA, hR⟩ := ok
  intro H locs ls hP hD hS hl
  obtain ⟨⟨ha, hb9⟩, h1, h2⟩ := dEq_inv h
  refine W.lcmp hx hb hd1 ?_
  exact lv_if_ne hx hb hdg ht (fun q => kt (h2 (by rw [lg_cmp_eq] at q; exact fun z => q ((iL_eq ha hb9).mpr z))) H locs ls hP hD hS hl) (fun q => kf (h1 (by rw [lg_cmp_eq] at q; exact (iL_eq ha hb9).mp q)) H locs ls hP hD hS hl)
theorem j_tabIn {dflt lo hi : Int} {offs : Array Int} {len : Nat} {x : Int} {off : Int} (v : Int) (tgt : Nat) (ok : q_ok D cs κ cc n own rm) (hdg : decode cc pc = .ok (.tableswitch dflt lo hi offs, len)) (hR : inR x) (hx : x = v) (h1 : lo ≤ v ∧ v ≤ hi) (ho : offs[(v - lo).toNat]? = some off) (ht : (pc : Int) + off = (tgt : Int)) (k : q_J D κ n cl sl ws lv tgt st) : q_J D κ n cl sl ws lv pc (.int (iI x) :: st) := by
  obtain ⟨p, l, e, R, s, m, args, below, meth, c, A, Q⟩ := κ
  obtain ⟨hx0, hb, hml, hown, hE, hA, hR0⟩ := ok
  intro H locs ls hP hD hS hl
  subst hx
  exact lv_tableIn hx0 hb hdg (by rw [iI_toInt hR]; omega) (by rw [iI_toInt hR]; omega) (by rw [iI_toInt hR]; exact ho) ht (k H locs ls hP hD hS hl)
theorem j_tabOut {dflt lo hi : Int} {offs : Array Int} {len : Nat} {x : Int} (tgt : Nat) (ok : q_ok D cs κ cc n own rm) (hdg : decode cc pc = .ok (.tableswitch dflt lo hi offs, len)) (hR : inR x) (h1 : x < lo ∨ hi < x) (ht : (pc : Int) + dflt = (tgt : Int)) (k : q_J D κ n cl sl ws lv tgt st) : q_J D κ n cl sl ws lv pc (.int (iI x) :: st) := by
  obtain ⟨p, l, e, R, s, m, args, below, meth, c, A, Q⟩ := κ
  obtain ⟨hx0, hb, hml, hown, hE, hA, hR0⟩ := ok
  intro H locs ls hP hD hS hl
  exact lv_tableOut hx0 hb hdg (by rw [iI_toInt hR]; exact h1) ht (k H locs ls hP hD hS hl)
theorem j_lushr {x s9 : Int} (ok : q_ok D cs κ cc n own rm) (hdg : decode cc pc = .ok (.lushr, 1)) (k : q_J D κ n cl sl ws lv (pc + 1) (.long (iL (lsrI x s9)) :: st)) : q_J D κ n cl sl ws lv pc (.int (iI s9) :: .long (iL x) :: st) := by
  obtain ⟨p, l, e, R, s, m, args, below, meth, c, A, Q⟩ := κ
  obtain ⟨hx0, hb, hml, hown, hE, hA, hR0⟩ := ok
  intro H locs ls hP hD hS hl
  exact lv_lushr hx0 hb hdg (iL_of _).symm (k H locs ls hP hD hS hl)
theorem j_ldcI {i : Nat} (v : Int) (ok : q_ok D cs κ cc n own rm) (hdg : decode cc pc = .ok (.ldc i, 2)) (hc : Cond.constant own i (iI v) ∈ q_tbl) (k : q_J D κ n cl sl ws lv (pc + 2) (.int (iI v) :: st)) : q_J D κ n cl sl ws lv pc st := by
  obtain ⟨p, l, e, R, s, m, args, below, meth, c, A, Q⟩ := κ
  obtain ⟨hx, hb, hml, hown, hE, hA, hR⟩ := ok
  intro H locs ls hP hD hS hl
  exact lv_ldc hx hb hown (hE.2.2.at args _ hc) hdg (k H locs ls hP hD hS hl)
theorem j_iremw {a b : Int} {ρ : Type} {r : ρ} {B : Option ρ} (ok : q_ok D cs κ cc n own rm) (hdg : decode cc pc = .ok (.irem, 1)) (h : gR a (gR b (if b = 0 then none else B)) = some r) (k : B = some r → q_J D κ n cl sl ws lv (pc + 1) (.int (iI (a.tmod b)) :: st)) : q_J D κ n cl sl ws lv pc (.int (iI b) :: .int (iI a) :: st) := by
  obtain ⟨p, l, e, R, s, m, args, below, meth, c, A, Q⟩ := κ
  obtain ⟨hx, hb, hml, hown, hE, hA, hR⟩ := ok
  intro H locs ls hP hD hS hl
  obtain ⟨ha, h⟩ := gR_inv h
  obtain ⟨hb2, h⟩ := gR_inv h
  by_cases h0 : b = 0
  · rw [if_pos h0] at h
    cases h
  · rw [if_neg h0] at h
    refine lv_irem hx hb hdg ?_ ?_
    · rw [show (0 : Int32) = iI 0 from by decide, iI_eq hb2 ⟨by decide, by decide⟩]
      exact h0
    · rw [iI_rem ha hb2]
      exact k h H locs ls hP hD hS hl
theorem j_widen {cl' sl' : Nat} (hc : cl ≤ cl') (hs : sl ≤ sl') (k : q_J D κ n cl' sl' ws lv pc st) : q_J D κ n cl sl ws lv pc st := by
  obtain ⟨p, l, e, R, s, m, args, below, meth, c, A, Q⟩ := κ
  intro H locs ls hP hD hS hl
  exact W.widen hc hs (k H locs ls hP hD hS hl)
end QW2
