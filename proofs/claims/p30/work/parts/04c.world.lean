/-! the world's rows, the calls, the contracts -/
section QW
variable {D : va_G} {cs : q_CS} {κ : q_X} {cc : ByteArray} {n cl sl : Nat} {own : String} {rm : Room} {ws : va_W} {lv : List (Nat × Value)} {pc : Nat} {st : List Value}
theorem j_getf {C ref : String} {T : u_T} {N ci index : Nat} {fs : List Value} {a : Nat} {v : Value} (q0 k : Nat) (ok : q_ok D cs κ cc n own rm) (he : ws[q0]? = some (a, .inr (ci, fs))) (hc : vwCl[ci]? = some (C, T, N)) (hin : ∀ w ∈ u_ws C T N, w ∈ q_tbl) (hk : k < N) (hlink : Cond.fieldLink own index ref (T k).2.1 (T k).2.2.1 ∈ q_tbl) (hsame : ref = (T k).1 ∨ Cond.sameField ref (T k).1 (T k).2.1 (T k).2.2.1 ∈ q_tbl) (hv : fs[k]? = some v) (hdg : decode cc pc = .ok (.getfield index, 3)) (kk : q_J D κ n cl sl ws lv (pc + 3) (v :: st)) : q_J D κ n cl sl ws lv pc (.ref a :: st) := by
  obtain ⟨p, l, e, R, s, m, args, below, meth, c, A, Q⟩ := κ
  obtain ⟨hx, hb, hml, hown, hE, hA, hR⟩ := ok
  intro H locs ls hP hD hS hl
  have hts := hE.2.2.at args
  refine va_get hx hb hts hin hown hE.1 hP q0 he hc k hk (hts _ hlink) ?_ hv hdg (kk H locs ls hP hD hS hl)
  rcases hsame with rfl | h
  · exact fun _ h => h
  · exact fun x hx => u_same (hts _ h) x hx
theorem j_putf {C ref : String} {T : u_T} {N ci index : Nat} {fs : List Value} {a : Nat} {v : Value} {ty : FieldType} (q0 k : Nat) (ty0 : Nat → FieldType) (ok : q_ok D cs κ cc n own rm) (he : ws[q0]? = some (a, .inr (ci, fs))) (hc : vwCl[ci]? = some (C, T, N)) (hin : ∀ w ∈ u_ws C T N, w ∈ q_tbl) (hty : ∀ k, k < N → parseFieldDescriptor (T k).2.2.1 = some (ty0 k)) (hnm : ∀ a, a < N → ∀ b, b < N → a ≠ b → (T a).2.1 ≠ (T b).2.1) (hk : k < N) (hlink : Cond.fieldLink own index ref (T k).2.1 (T k).2.2.1 ∈ q_tbl) (hsame : ref = (T k).1 ∨ Cond.sameField ref (T k).1 (T k).2.1 (T k).2.2.1 ∈ q_tbl) (hfin : (T k).2.2.2 = false) (hd : parseFieldDescriptor (T k).2.2.1 = some ty) (hn : narrow ty v = v) (hfit : fits ty v = true) (hl0 : k < fs.length) (hdg : decode cc pc = .ok (.putfield index, 3)) (kk : q_J D κ n cl sl (ws.set q0 (a, .inr (ci, fs.set k v))) lv (pc + 3) st) : q_J D κ n cl sl ws lv pc (v :: .ref a :: st) := by
  obtain ⟨p, l, e, R, s, m, args, below, meth, c, A, Q⟩ := κ
  obtain ⟨hx, hb, hml, hown, hE, hA, hR⟩ := ok
  intro H locs ls hP hD hS hl
  have hts := hE.2.2.at args
  refine va_put hx hb hts hin ty0 hty hnm hown hE.1 hP hD hS q0 he hc k hk (hts _ hlink) ?_ hfin hd hn hfit hl0 hdg (fun H1 locs1 hP hD hS => kk H1 locs1 ls hP hD hS hl)
  rcases hsame with rfl | h
  · exact fun _ h => h
  · exact fun x hx => u_same (hts _ h) x hx
theorem j_iald {ρ : Type} {r : ρ} {B : Option ρ} {a L : Nat} {F : Nat → Int} {i : Int} (q0 : Nat) (ok : q_ok D cs κ cc n own rm) (he : ws[q0]? = some (a, .inl (cs.1, L, .inl (aI F)))) (hdg : decode cc pc = .ok (.iaload, 1)) (h : gIn i L B = some r) (kk : B = some r → q_J D κ n cl sl ws lv (pc + 1) (.int (iI (F i.toNat)) :: st)) : q_J D κ n cl sl ws lv pc (.int (iI i) :: .ref a :: st) := by
  obtain ⟨p, l, e, R, s, m, args, below, meth, c, A, Q⟩ := κ
  obtain ⟨hx, hb, hml, hown, hE, hA, hR⟩ := ok
  intro H locs ls hP hD hS hl
  obtain ⟨hi, h⟩ := gIn_inv h
  refine va_iald hx hb hE.1 hP q0 0 he rfl (iI_in hi) hdg ?_
  rw [iI_cl hi.1 hi.2.2]
  exact kk h H locs ls hP hD hS hl
theorem j_zald {ρ : Type} {r : ρ} {B : Option ρ} {a L : Nat} {F : Nat → Int} {i : Int} (q0 : Nat) (ok : q_ok D cs κ cc n own rm) (he : ws[q0]? = some (a, .inl (cs.2.1, L, .inl (aI F)))) (hdg : decode cc pc = .ok (.baload, 1)) (h : gIn i L B = some r) (kk : B = some r → q_J D κ n cl sl ws lv (pc + 1) (.int (iI (F i.toNat)) :: st)) : q_J D κ n cl sl ws lv pc (.int (iI i) :: .ref a :: st) := by
  obtain ⟨p, l, e, R, s, m, args, below, meth, c, A, Q⟩ := κ
  obtain ⟨hx, hb, hml, hown, hE, hA, hR⟩ := ok
  intro H locs ls hP hD hS hl
  obtain ⟨hi, h⟩ := gIn_inv h
  refine va_zald hx hb hE.1 hP q0 1 he rfl (iI_in hi) hdg ?_
  rw [iI_cl hi.1 hi.2.2]
  exact kk h H locs ls hP hD hS hl
theorem j_aald {ρ : Type} {r : ρ} {B : Option ρ} {a L : Nat} {F : Nat → Nat} {i : Int} (q0 : Nat) (ok : q_ok D cs κ cc n own rm) (he : ws[q0]? = some (a, .inl (cs.2.2.1, L, .inr (.inr (.inr (.inr (fun j => some (F j)))))))) (hdg : decode cc pc = .ok (.aaload, 1)) (h : gIn i L B = some r) (kk : B = some r → q_J D κ n cl sl ws lv (pc + 1) (.ref (F i.toNat) :: st)) : q_J D κ n cl sl ws lv pc (.int (iI i) :: .ref a :: st) := by
  obtain ⟨p, l, e, R, s, m, args, below, meth, c, A, Q⟩ := κ
  obtain ⟨hx, hb, hml, hown, hE, hA, hR⟩ := ok
  intro H locs ls hP hD hS hl
  obtain ⟨hi, h⟩ := gIn_inv h
  refine va_aldq hx hb hE.1 hP q0 2 he rfl (iI_in hi) hdg ?_
  rw [iI_cl hi.1 hi.2.2]
  exact kk h H locs ls hP hD hS hl
theorem j_iast {ρ : Type} {r : ρ} {B : Option ρ} {a L : Nat} {F : Nat → Int} {i x : Int} (q0 : Nat) (ok : q_ok D cs κ cc n own rm) (he : ws[q0]? = some (a, .inl (cs.1, L, .inl (aI F)))) (hdg : decode cc pc = .ok (.iastore, 1)) (h : gIn i L B = some r) (kk : B = some r → q_J D κ n cl sl (ws.set q0 (a, .inl (cs.1, L, .inl (aI (va_up F i.toNat x))))) lv (pc + 1) st) : q_J D κ n cl sl ws lv pc (.int (iI x) :: .int (iI i) :: .ref a :: st) := by
  obtain ⟨p, l, e, R, s, m, args, below, meth, c, A, Q⟩ := κ
  obtain ⟨hx, hb, hml, hown, hE, hA, hR⟩ := ok
  intro H locs ls hP hD hS hl
  obtain ⟨hi, h⟩ := gIn_inv h
  refine va_iast hx hb hE.1 hP hD hS q0 0 he rfl (iI_in hi) hdg (fun H1 locs1 hP hD hS => ?_)
  rw [iI_cl hi.1 hi.2.2, aI_up] at hP hD
  exact kk h H1 locs1 ls hP hD hS hl
theorem j_zast {ρ : Type} {r : ρ} {B : Option ρ} {a L : Nat} {F : Nat → Int} {i x : Int} (q0 : Nat) (ok : q_ok D cs κ cc n own rm) (he : ws[q0]? = some (a, .inl (cs.2.1, L, .inl (aI F)))) (hdg : decode cc pc = .ok (.bastore, 1)) (h : gIn i L (gB x B) = some r) (kk : B = some r → q_J D κ n cl sl (ws.set q0 (a, .inl (cs.2.1, L, .inl (aI (va_up F i.toNat x))))) lv (pc + 1) st) : q_J D κ n cl sl ws lv pc (.int (iI x) :: .int (iI i) :: .ref a :: st) := by
  obtain ⟨p, l, e, R, s, m, args, below, meth, c, A, Q⟩ := κ
  obtain ⟨hx, hb, hml, hown, hE, hA, hR⟩ := ok
  intro H locs ls hP hD hS hl
  obtain ⟨hi, h⟩ := gIn_inv h
  obtain ⟨hbo, h⟩ := gB_inv h
  refine va_zast hx hb hE.1 hP hD hS q0 1 he rfl (iI_in hi) hdg (fun H1 locs1 hP hD hS => ?_)
  rw [iI_cl hi.1 hi.2.2, (nar_b hbo).2.2, aI_up] at hP hD
  exact kk h H1 locs1 ls hP hD hS hl
theorem j_alen {a L : Nat} {cA : ClassId} {x : (Nat → Int32) ⊕ (Nat → Int64) ⊕ (Nat → UInt32) ⊕ (Nat → UInt64) ⊕ (Nat → Option Nat)} {ty : FieldType} (q0 t0 : Nat) (ok : q_ok D cs κ cc n own rm) (he : ws[q0]? = some (a, .inl (cA, L, x))) (ht : (q_TY cs)[t0]? = some (cA, ty)) (hdg : decode cc pc = .ok (.arraylength, 1)) (kk : q_J D κ n cl sl ws lv (pc + 1) (.int (iI (L : Int)) :: st)) : q_J D κ n cl sl ws lv pc (.ref a :: st) := by
  obtain ⟨p, l, e, R, s, m, args, below, meth, c, A, Q⟩ := κ
  obtain ⟨hx, hb, hml, hown, hE, hA, hR⟩ := ok
  intro H locs ls hP hD hS hl
  exact va_alen hx hb hE.1 hP q0 t0 he ht (iI_nat L) hdg (kk H locs ls hP hD hS hl)
theorem j_max {a b : Int} {ρ : Type} {r : ρ} {B : Option ρ} {index : Nat} (ok : q_ok D cs κ cc n own rm) (hlink : Cond.methodLink own index Lib.Math.max.name ∈ q_tbl) (hstat : Cond.static Lib.Math.max.name ∈ q_tbl) (hini : Cond.initialized "java/lang/Math" ∈ q_tbl) (hcode : Cond.code Lib.Math.max.name Lib.Math.max.code 2 (some .int) ∈ q_tbl) (hframes : 1 ≤ rm.frames) (hlocals : (st.map fun v => v.category).sum + 13 ≤ rm.locals) (hc : cl ≤ rm.cells) (hs : sl ≤ rm.slots) (hdg : decode cc pc = .ok (.invokestatic index, 3)) (h : gR a (gR b B) = some r) (kk : B = some r → q_J D κ n cl sl ws lv (pc + 3) (.int (iI (if a < b then b else a)) :: st)) : q_J D κ n cl sl ws lv pc (.int (iI b) :: .int (iI a) :: st) := by
  obtain ⟨p, l, e, R, s, m, args, below, meth, c, A, Q⟩ := κ
  obtain ⟨hx, hb, hml, hown, hE, hA, rfl⟩ := ok
  intro H locs ls hP hD hS hl
  have hts := hE.2.2.at args
  obtain ⟨ha, h⟩ := gR_inv h
  obtain ⟨hb2, h⟩ := gR_inv h
  refine va_mmax hx hb (hml.trans hl.1.symm) hown (hts _ hlink) (hts _ hstat) (hts _ hini) (hts _ hcode) hframes hlocals hc hs hdg ?_
  have e : (if iI a < iI b then iI b else iI a) = iI (if a < b then b else a) := by
    by_cases q : a < b
    · rw [if_pos q, if_pos ((iI_lt ha hb2).mpr q)]
    · rw [if_neg q, if_neg (fun z => q ((iI_lt ha hb2).mp z))]
  rw [e]
  exact kk h H locs ls hP hD hS hl
theorem j_min {a b : Int} {ρ : Type} {r : ρ} {B : Option ρ} {index : Nat} (ok : q_ok D cs κ cc n own rm) (hlink : Cond.methodLink own index Lib.Math.min.name ∈ q_tbl) (hstat : Cond.static Lib.Math.min.name ∈ q_tbl) (hini : Cond.initialized "java/lang/Math" ∈ q_tbl) (hcode : Cond.code Lib.Math.min.name Lib.Math.min.code 2 (some .int) ∈ q_tbl) (hframes : 1 ≤ rm.frames) (hlocals : (st.map fun v => v.category).sum + 13 ≤ rm.locals) (hc : cl ≤ rm.cells) (hs : sl ≤ rm.slots) (hdg : decode cc pc = .ok (.invokestatic index, 3)) (h : gR a (gR b B) = some r) (kk : B = some r → q_J D κ n cl sl ws lv (pc + 3) (.int (iI (if b < a then b else a)) :: st)) : q_J D κ n cl sl ws lv pc (.int (iI b) :: .int (iI a) :: st) := by
  obtain ⟨p, l, e, R, s, m, args, below, meth, c, A, Q⟩ := κ
  obtain ⟨hx, hb, hml, hown, hE, hA, rfl⟩ := ok
  intro H locs ls hP hD hS hl
  have hts := hE.2.2.at args
  obtain ⟨ha, h⟩ := gR_inv h
  obtain ⟨hb2, h⟩ := gR_inv h
  refine va_mmin hx hb (hml.trans hl.1.symm) hown (hts _ hlink) (hts _ hstat) (hts _ hini) (hts _ hcode) hframes hlocals hc hs hdg ?_
  have e : (if iI b < iI a then iI b else iI a) = iI (if b < a then b else a) := by
    by_cases q : b < a
    · rw [if_pos q, if_pos ((iI_lt hb2 ha).mpr q)]
    · rw [if_neg q, if_neg (fun z => q ((iI_lt hb2 ha).mp z))]
  rw [e]
  exact kk h H locs ls hP hD hS hl
theorem j_copy {a a0 L0 L1 : Nat} {F G : Nat → Int} {sp dp k : Int} {ρ : Type} {r : ρ} {B : Option ρ} {index : Nat} (q0 q1 : Nat) (ok : q_ok D cs κ cc n own rm) (he0 : ws[q0]? = some (a0, .inl (cs.1, L0, .inl (aI F)))) (he1 : ws[q1]? = some (a, .inl (cs.1, L1, .inl (aI G)))) (hlink : Cond.methodLink own index arraycopyName ∈ q_tbl) (hnat : Cond.native arraycopyName ∈ q_tbl) (hstat : Cond.static arraycopyName ∈ q_tbl) (hini : Cond.initialized "java/lang/System" ∈ q_tbl) (hframes : 1 ≤ rm.frames) (hlocals : (st.map fun v => v.category).sum + (nativeFrameWords "java/lang/System" "arraycopy" 5 + 11) ≤ rm.locals) (hdg : decode cc pc = .ok (.invokestatic index, 3)) (h : gC sp dp k L0 L1 B = some r) (kk : B = some r → q_J D κ n cl sl (ws.set q1 (a, .inl (cs.1, L1, .inl (aI (va_cpy F G sp.toNat dp.toNat k.toNat))))) lv (pc + 3) st) : q_J D κ n cl sl ws lv pc (.int (iI k) :: .int (iI dp) :: .ref a :: .int (iI sp) :: .ref a0 :: st) := by
  obtain ⟨p, l, e, R, s, m, args, below, meth, c, A, Q⟩ := κ
  obtain ⟨hx, hb, hml, hown, hE, hA, rfl⟩ := ok
  intro H locs ls hP hD hS hl
  have hts := hE.2.2.at args
  obtain ⟨⟨⟨h1, h2, h3⟩, h4, h5, h6, h7, h8⟩, h⟩ := gC_inv h
  refine va_copyi hx hb (hml.trans hl.1.symm) hown (hts _ hlink) (hts _ hnat) (hts _ hstat) (hts _ hini) hE.1 hP hD hS q0 q1 0 0 he0 he1 rfl rfl rfl (iI_n0 h1 h6) (iI_n0 h2 h7) (iI_n0 h3 h8) ?_ ?_ (fun _ _ => rfl) hframes hlocals hdg (fun H1 locs1 hP hD hS => ?_)
  · rw [iI_cl h1 h6, iI_cl h3 h8]; omega
  · rw [iI_cl h2 h7, iI_cl h3 h8]; omega
  · rw [iI_cl h1 h6, iI_cl h2 h7, iI_cl h3 h8, aI_cpy] at hP hD
    exact kk h H1 locs1 ls hP hD hS hl
end QW
