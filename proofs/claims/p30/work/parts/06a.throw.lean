/-! methods that throw: contracts, the throw itself -/
def q_nm : List String := ["java/lang/RuntimeException", "java/lang/Exception"]
def q_ex (t : Int) : Option String := if t = 1 then some "java/lang/IllegalArgumentException" else if t = 2 then some "java/lang/IllegalStateException" else if t = 3 then some "java/lang/IndexOutOfBoundsException" else none
def q_exs : List String := ["java/lang/IllegalArgumentException", "java/lang/IllegalStateException", "java/lang/IndexOutOfBoundsException"]
def q_str : List (String × Nat × String) := [("FormulaEditor", 93, "not a linear text"), ("FormulaEditor", 108, "too large"), ("FormulaEditor", 204, "no such item"), ("FormulaEditor", 209, "nothing is around the main row"), ("FormulaEditor", 246, "nothing is before the caret"), ("FormulaEditor", 266, "no action is remembered"), ("FormulaEditor", 283, "no such column or line"), ("FormulaEditor", 322, "slot is 0 or 1"), ("FormulaEditor", 327, "the slot is empty"), ("FormulaEditor", 135, "what is 0 to 5"), ("FormulaEditor", 143, "no such place"), ("FormulaEditor", 177, "what is 0 to 2"), ("FormulaEditor", 184, "no such position"), ("FormulaEditor", 189, "places is -200 to 200"), ("FormulaEditor", 220, "not a symbol"), ("FormulaEditor", 235, "kind is 1 to 5"), ("FormulaEditor", 214, "no selection"), ("FormulaEditor", 251, "the clipboard is empty"), ("FormulaEditor", 288, "n is 1 to 4"), ("FormulaEditor", 294, "script has at most 4 * n digits"), ("FormulaEditor", 313, "m is 1 to 60"), ("FormulaEditor", 68, "not a character code"), ("FormulaEditor", 79, "the text is full")]
/-- no cast from E to N -/
def q_nc : List (String × String) := [("java/lang/IllegalStateException", "java/lang/IllegalArgumentException"), ("java/lang/IllegalArgumentException", "java/lang/IndexOutOfBoundsException"), ("java/lang/IllegalStateException", "java/lang/IndexOutOfBoundsException")]
def q_XE (U : State) : Prop := (∀ X ∈ q_exs, va_Nw (.castable X X) U) ∧ (∀ q ∈ q_str, ∃ a, vk_R q.1 q.2.1 q.2.2 a U) ∧ va_Nw (.declares (Bundle.initS "java/lang/RuntimeException")) U ∧ va_Nw (.declares (Bundle.initS "java/lang/Exception")) U ∧ va_Nw (.declares (Bundle.initS "java/lang/Throwable")) U ∧ ∀ q ∈ q_nc, va_Nc q.1 q.2 U
theorem q_XE.moved {s U : State} (hW : s.WarmedH U.vm) (h : q_XE s) : q_XE U := ⟨fun X hX => va_Nw.warmC hW (h.1 X hX), fun q hq => (h.2.1 q hq).imp fun _ z => vk_R.warm hW z, va_Nw.warmD hW h.2.2.1, va_Nw.warmD hW h.2.2.2.1, va_Nw.warmD hW h.2.2.2.2.1, fun q hq => va_Nc.moved hW.alike (h.2.2.2.2.2 q hq)⟩
def q_TH (A : Nat → Prop) (U : State) (H : Heap) : Prop := vx_Zq Bundle.tN "UNASSIGNED_STACK" Bundle.steD A U H ∧ vx_Zq Bundle.tN "SUPPRESSED_SENTINEL" Bundle.listD A U H
def q_Px (D : va_G) (cs : q_CS) (av : List Value) (sz : Nat) (ws : va_W) : Array Value → State → Prop := va_Pc av (fun U => U.heap.size = sz ∧ va_P D vwCl ws U.heap ∧ q_EV D cs U ∧ va_D (fun _ => True) ws ∧ q_XE U ∧ q_TH (va_A ws sz) U U.heap)
theorem q_Px.blind {D : va_G} {cs : q_CS} {av : List Value} {sz : Nat} {ws : va_W} : FrameBlind (q_Px D cs av sz ws) := by
  intro a U g mk q
  obtain ⟨h0, h1, h2, h3, h4, h5, h6, h7⟩ := q
  have hW : U.WarmedH (U.calling g mk a).vm := State.WarmedH.refl U
  exact ⟨h0, h1, h2, h3.moved hW, h4, h5.moved hW, h6.moved hW.alike, h7.moved hW.alike⟩
def q_XC (D : va_G) (A : Nat → Prop) (ws' : va_W) (tag : Int) : String → State → State → Prop := fun E st t => q_ex tag = some E ∧ va_P D vwCl ws' t.heap ∧ va_D A ws' ∧ va_F A st t
/-- what a throw makes: one cell of 6 slots -/
def q_c (tag : Int) : Nat := if tag = 0 then 0 else 1
def q_s (tag : Int) : Nat := if tag = 0 then 0 else 6
abbrev q_rxt (tag : Int) (f w : Nat) : Room := { frames := f, cells := q_c tag, slots := q_s tag, locals := w }
/-- the contract of a method that may throw: tag 0: it answers o, nothing is made; tag 1, 2, 3: it throws that class, one cell is new; the world is ws' behind it -/
def q_Mx (D : va_G) (cs : q_CS) (y : MethodName) (cc : ByteArray) (mL : Nat) (rt : Option FieldType) (f w : Nat) (av : List Value) (ws : va_W) (tag : Int) (o : Option Value) (ws' : va_W) : Prop := ∀ (l : Launch), l.stackTraces = false → ∀ (sz : Nat), vx_Met l y [.code y cc mL rt] (q_rxt tag f w) (q_Px D cs av sz ws) (fun a st oc t => tag = 0 ∧ q_Q D cs (va_A ws sz) ws' o a st oc t) (q_XC D (va_A ws sz) ws' tag) (q_c tag) (q_s tag) (va_A ws sz)
/-- the tables' words for 'throw new E(text)' in FormulaEditor -/
def q_TF (own : String) (ik ic : Nat) (E : String) : Prop := E ∈ q_exs ∧ Bundle.fit E = true ∧ Cond.classLink own ik E ∈ q_tbl ∧ Cond.initialized E ∈ q_tbl ∧ (∀ w ∈ (vx_atS own ic E q_nm).filter goodWord, w ∈ q_tbl) ∧ (∀ w ∈ (vx_atS own ic E q_nm).filter (fun w => !goodWord w), w ∈ [Cond.castable E E, Cond.declares (Bundle.initS "java/lang/RuntimeException"), Cond.declares (Bundle.initS "java/lang/Exception"), Cond.declares (Bundle.initS "java/lang/Throwable")]) ∧ (∀ w ∈ Cond.classLink own ik E :: Cond.initialized E :: vx_atS own ic E q_nm, vx_ot w = true)
theorem tf_A : q_TF RX7 66 70 "java/lang/IllegalArgumentException" := ⟨by decide, by decide +kernel, q_in 829 (by decide +kernel) (by decide +kernel), q_in 61 (by decide +kernel) (by decide +kernel), fun w h => List.mem_filter.mpr ⟨(show ∀ w ∈ (vx_atS RX7 70 "java/lang/IllegalArgumentException" q_nm).filter goodWord, w ∈ lw_tbl from by decide +kernel) w h, (List.mem_filter.mp h).2⟩, by decide +kernel, by decide +kernel⟩
theorem tf_S : q_TF RX7 77 81 "java/lang/IllegalStateException" := ⟨by decide, by decide +kernel, q_in 462 (by decide +kernel) (by decide +kernel), q_in 59 (by decide +kernel) (by decide +kernel), fun w h => List.mem_filter.mpr ⟨(show ∀ w ∈ (vx_atS RX7 81 "java/lang/IllegalStateException" q_nm).filter goodWord, w ∈ lw_tbl from by decide +kernel) w h, (List.mem_filter.mp h).2⟩, by decide +kernel, by decide +kernel⟩
theorem tf_I : q_TF RX7 141 145 "java/lang/IndexOutOfBoundsException" := ⟨by decide, by decide +kernel, q_in 730 (by decide +kernel) (by decide +kernel), q_in 60 (by decide +kernel) (by decide +kernel), fun w h => List.mem_filter.mpr ⟨(show ∀ w ∈ (vx_atS RX7 145 "java/lang/IndexOutOfBoundsException" q_nm).filter goodWord, w ∈ lw_tbl from by decide +kernel) w h, (List.mem_filter.mp h).2⟩, by decide +kernel, by decide +kernel⟩
theorem q_throw {D : va_G} {cs : q_CS} {cc : ByteArray} {mL pc ik is ic : Nat} {own E text : String} {rm : Room} {ws' : va_W} {lv : List (Nat × Value)} {tag : Int} {o : Option Value} {p : Program} {l : Launch} {e : Env} {s : State} {m : MethodId} {args : Array Value} {below : List Frame} {meth : Method} {c : Code} {A : Nat → Prop} (hl : l.stackTraces = false) (hlocks : meth.locks = false) (hex : ∀ x ∈ c.exceptionTable.toList, False) (hXE : q_XE s) (hTH : q_TH A s s.heap) (ok : q_ok D cs (p, l, e, rm, s, m, args, below, meth, c, A, vx_MQ below (fun a st oc t => tag = 0 ∧ q_Q D cs A ws' o a st oc t) (q_XC D A ws' tag) args s 1 6 A) cc mL own rm) (htf : q_TF own ik ic E) (htag : q_ex tag = some E) (hstr : (own, is, text) ∈ q_str)
    (d0 : decode cc pc = .ok (.new ik, 3)) (d3 : decode cc (pc + 3) = .ok (.dup, 1)) (d4 : decode cc (pc + 4) = .ok (.ldc is, 2)) (d6 : decode cc (pc + 6) = .ok (.invokespecial ic, 3)) (d9 : decode cc (pc + 9) = .ok (.athrow, 1)) (hf : 6 ≤ rm.frames) (hw : 82 ≤ rm.locals) (hce : 1 ≤ rm.cells) (hse : 6 ≤ rm.slots) :
    q_J D (p, l, e, rm, s, m, args, below, meth, c, A, vx_MQ below (fun a st oc t => tag = 0 ∧ q_Q D cs A ws' o a st oc t) (q_XC D A ws' tag) args s 1 6 A) mL 0 0 ws' lv pc [] := by
  obtain ⟨hx, hb, hml, hown, hE, hA, -⟩ := ok
  intro H locs ls hP hD hS hl2
  have hts := hE.2.2.at args
  obtain ⟨f1, f2, f3, f4, f5, f6, f7⟩ := htf
  obtain ⟨sa, hsa⟩ := hXE.2.1 _ hstr
  refine vx_throwS hx hb hl hown f2 (by decide +kernel) (hts _ f3) (hts _ f4) hsa (vx_hat (fun w h => hts w (f5 w h)) f6 (vx_c (va_Nw.use rfl (hXE.1 E f1)) (vx_c (va_Nw.use rfl hXE.2.2.1) (vx_c (va_Nw.use rfl hXE.2.2.2.1) (vx_c (va_Nw.use rfl hXE.2.2.2.2.1) vx_n))))) f7 hTH.1 hTH.2 hS (hl2.1.trans hml.symm) d0 d3 d4 d6 d9 (fun x hx => (hex x hx).elim) ?_ ?_ hce hse hlocks ?_ hS.2.2 (Nat.le_refl _) (Nat.le_refl _)
  · show 2 + 3 < rm.frames
    omega
  · show 0 + (13 * (2 + 1) + 43) ≤ rm.locals
    omega
  · intro t hal hsz hq
    refine ⟨htag, hP.kept (fun k q hk => hq q.1 (hP k q hk).lt), hD, Nat.le_trans hS.1 hsz, fun q h1 h2 => ?_⟩
    rw [hq q (Nat.lt_of_lt_of_le h1 hS.1)]
    exact hS.2.1 q h1 h2
theorem q_throwW {D : va_G} {cs : q_CS} {cc : ByteArray} {mL pc ik is ic : Nat} {own E text : String} {rm : Room} {ws' : va_W} {lv : List (Nat × Value)} {tag : Int} {o : Option Value} {p : Program} {l : Launch} {e : Env} {s : State} {m : MethodId} {args : Array Value} {below : List Frame} {meth : Method} {c : Code} {A : Nat → Prop} (hl : l.stackTraces = false) (hlocks : meth.locks = false) (hex : ∀ x ∈ c.exceptionTable.toList, False) (hXE : q_XE s) (hTH : q_TH A s s.heap) (ok : q_ok D cs (p, l, e, rm, s, m, args, below, meth, c, A, vx_MQ below (fun a st oc t => tag = 0 ∧ q_Q D cs A ws' o a st oc t) (q_XC D A ws' tag) args s 1 6 A) cc mL own rm) (htf : q_TF own ik ic E) (htag : q_ex tag = some E) (hstr : (own, is, text) ∈ q_str)
    (d0 : decode cc pc = .ok (.new ik, 3)) (d3 : decode cc (pc + 3) = .ok (.dup, 1)) (d4 : decode cc (pc + 4) = .ok (.ldc_w is, 3)) (d6 : decode cc (pc + 7) = .ok (.invokespecial ic, 3)) (d9 : decode cc (pc + 10) = .ok (.athrow, 1)) (hf : 6 ≤ rm.frames) (hw : 82 ≤ rm.locals) (hce : 1 ≤ rm.cells) (hse : 6 ≤ rm.slots) :
    q_J D (p, l, e, rm, s, m, args, below, meth, c, A, vx_MQ below (fun a st oc t => tag = 0 ∧ q_Q D cs A ws' o a st oc t) (q_XC D A ws' tag) args s 1 6 A) mL 0 0 ws' lv pc [] := by
  obtain ⟨hx, hb, hml, hown, hE, hA, -⟩ := ok
  intro H locs ls hP hD hS hl2
  have hts := hE.2.2.at args
  obtain ⟨f1, f2, f3, f4, f5, f6, f7⟩ := htf
  obtain ⟨sa, hsa⟩ := hXE.2.1 _ hstr
  refine vx_throwSW hx hb hl hown f2 (by decide +kernel) (hts _ f3) (hts _ f4) hsa (vx_hat (fun w h => hts w (f5 w h)) f6 (vx_c (va_Nw.use rfl (hXE.1 E f1)) (vx_c (va_Nw.use rfl hXE.2.2.1) (vx_c (va_Nw.use rfl hXE.2.2.2.1) (vx_c (va_Nw.use rfl hXE.2.2.2.2.1) vx_n))))) f7 hTH.1 hTH.2 hS (hl2.1.trans hml.symm) d0 d3 d4 d6 d9 (fun x hx => (hex x hx).elim) ?_ ?_ hce hse hlocks ?_ hS.2.2 (Nat.le_refl _) (Nat.le_refl _)
  · show 2 + 3 < rm.frames
    omega
  · show 0 + (13 * (2 + 1) + 43) ≤ rm.locals
    omega
  · intro t hal hsz hq
    refine ⟨htag, hP.kept (fun k q hk => hq q.1 (hP k q hk).lt), hD, Nat.le_trans hS.1 hsz, fun q h1 h2 => ?_⟩
    rw [hq q (Nat.lt_of_lt_of_le h1 hS.1)]
    exact hS.2.1 q h1 h2
section QXS
variable {D : va_G} {cs : q_CS} {y : MethodName} {cc : ByteArray} {mL : Nat} {f w : Nat} {av : List Value} {ws ws' : va_W}
theorem q_startx {r tag : Int} (lv0 : List (Nat × Value)) (own : String) (hy0 : y.cls = own) (hy : plainName own = true) (hlv : lv_args 0 av = lv0) (hle : (lg_sl av).length ≤ mL) (hf : 6 ≤ f) (hw : 82 ≤ w) (body : ∀ κ : q_X, q_ok D cs κ cc mL own (q_rxt tag f w) → (∀ (lv : List (Nat × Value)) (pc : Nat), tag = 0 → decode cc pc = .ok (.ireturn, 1) → q_J D κ mL 0 0 ws' lv pc [.int (iI r)]) → (∀ (lv : List (Nat × Value)) (pc ik is ic : Nat) (E text : String), q_TF own ik ic E → q_ex tag = some E → (own, is, text) ∈ q_str → decode cc pc = .ok (.new ik, 3) → decode cc (pc + 3) = .ok (.dup, 1) → (decode cc (pc + 4) = .ok (.ldc is, 2) ∧ decode cc (pc + 6) = .ok (.invokespecial ic, 3) ∧ decode cc (pc + 9) = .ok (.athrow, 1) ∨ decode cc (pc + 4) = .ok (.ldc_w is, 3) ∧ decode cc (pc + 7) = .ok (.invokespecial ic, 3) ∧ decode cc (pc + 10) = .ok (.athrow, 1)) → q_J D κ mL 0 0 ws' lv pc []) → q_J D κ mL 0 0 ws lv0 0 []) : q_Mx D cs y cc mL (some .int) f w av ws tag (some (.int (iI r))) ws' := by
  intro l hnt sz
  subst hy0
  refine vx_ofW (cc := cc) (maxL := mL) (ret := some .int) hy rfl ?_
  intro p e s m args below meth c s₁ B hml hex hv
  obtain ⟨rfl, hsz, hP, hE, hD0, hXE, hTH⟩ := hv
  have hx := B.exec
  have hb := B.bytes
  have hr := B.returns
  have hown : s.vm.findClass y.cls = some m.cls := findClass_of_methodNamed B.named
  have hlocks := B.notSynchronized
  subst hsz
  have hD := hD0.self (sz := s.heap.size)
  have hS : va_S (va_A ws s.heap.size) s.heap s.heap [] := va_S.rf
  have hl := lv_entry av (n := mL) hle
  rw [hlv] at hl
  rw [lg_entry_eq]
  have ok : q_ok D cs (p, l, e, q_rxt tag f w, s, m, av.toArray, below, meth, c, va_A ws s.heap.size, vx_MQ below (fun a st oc t => tag = 0 ∧ q_Q D cs (va_A ws s.heap.size) ws' (some (.int (iI r))) a st oc t) (q_XC D (va_A ws s.heap.size) ws' tag) av.toArray s (q_c tag) (q_s tag) (va_A ws s.heap.size)) cc mL y.cls (q_rxt tag f w) := by
    show _ ∧ _
    exact ⟨hx, hb, hml, hown, hE, fun q h => Or.inr h, rfl⟩
  have K := body _ ok (by
    intro lv pc ht0 hdg H locs ls hP hD hS hl
    refine W.widen (k := q_c tag) (n := q_s tag) (Nat.zero_le _) (Nat.zero_le _) ?_
    refine vx_ret ?_
    exact W.zret hx hb hr rfl (fun t ht hW => ⟨ht0, ⟨rfl, by show _ ∧ _; exact ⟨by rw [ht]; exact hP, hE.moved hW, hD⟩⟩, hS.F ht⟩) hS.2.2 hdg) (by
    intro lv pc ik is ic E text htf htag hstr d0 d3 d4
    have ht0 : ¬ tag = 0 := fun z => by rw [z] at htag; cases htag
    have e1 : q_c tag = 1 := if_neg ht0
    have e2 : q_s tag = 6 := if_neg ht0
    rw [e1, e2] at ok ⊢
    rcases d4 with ⟨d4, d6, d9⟩ | ⟨d4, d6, d9⟩
    · exact q_throw hnt hlocks hex hXE hTH ok htf htag hstr d0 d3 d4 d6 d9 hf hw (by show 1 ≤ q_c tag; omega) (by show 6 ≤ q_s tag; omega)
    · exact q_throwW hnt hlocks hex hXE hTH ok htf htag hstr d0 d3 d4 d6 d9 hf hw (by show 1 ≤ q_c tag; omega) (by show 6 ≤ q_s tag; omega))
  exact K s.heap [] _ hP hD hS hl
end QXS
