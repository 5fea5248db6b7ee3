/-! the law's helpers: a call of a method that may throw, inside a table of handlers -/
def q_kx (κ : q_X) (tb : List ExceptionTableEntry) : Prop :=
  match κ with
  | (_, l, _, _, s, _, _, _, _, c, A, _) => l.stackTraces = false ∧ q_XE s ∧ q_TH A s s.heap ∧ c.exceptionTable.toList = tb
def tg1 {ρ : Type} (tag t1 : Int) (A B : Option ρ) : Option ρ := if tag = 0 then A else if tag = t1 then B else none
def tg2 {ρ : Type} (tag t1 t2 : Int) (A B C : Option ρ) : Option ρ := if tag = 0 then A else if tag = t1 then B else if tag = t2 then C else none
theorem q_Px.mk {D : va_G} {cs : q_CS} {av : List Value} {A : Nat → Prop} {s : State} {ws : va_W} {H : Heap} {locs : List Loc} (hP : va_P D vwCl ws H) (hD : va_D A ws) (hE : q_EV D cs s) (hXE : q_XE s) (hTH : q_TH A s s.heap) (hS : va_S A s.heap H locs) (hF : ∀ q, va_A ws H.size q → A q) : ∀ U : State, U.heap = H → s.WarmedH U.vm → q_Px D cs av H.size ws av.toArray U := by
  intro U hU hW
  refine ⟨rfl, by rw [hU], by rw [hU]; exact hP, hE.moved hW, hD.weaken (fun _ _ _ _ => trivial), hXE.moved hW, ?_, ?_⟩
  · rw [hU]
    exact ((hTH.1.kept hS.2.1).narrow hF).moved hW.alike
  · rw [hU]
    exact ((hTH.2.kept hS.2.1).narrow hF).moved hW.alike
section QH
variable {D : va_G} {cs : q_CS} {κ : q_X} {cc : ByteArray} {n cl sl : Nat} {own : String} {rm : Room} {ws : va_W} {lv : List (Nat × Value)} {pc : Nat} {st0 : List Value}
variable {y x : MethodName} {bytes : ByteArray} {maxL f w index nA ci N : Nat} {rt : Option FieldType} {C owner : String} {T : u_T} {fs : List Value} {b : Nat} {As rest : List Value} {wc w1 : va_W} {o : Option Value} {tag : Int}
theorem j_callX {tb : List ExceptionTableEntry} (ok : q_ok D cs κ cc n own rm) (kx : q_kx κ tb) (hM : q_Mx D cs y bytes maxL rt f w (.ref b :: As) wc tag o w1) (hG : GoodIn q_tbl (wsV own index C y [.code y bytes maxL rt])) (hd : y.cls = C ∧ y.cls ≠ "java/lang/invoke/MethodHandle" ∧ y.cls ≠ "java/lang/invoke/VarHandle" ∧ (parseMethodDescriptor y.desc).map (fun d => d.parameters.length) = some nA) (isC : List Nat) (hn2 : va_nd isC = true) (hC : isC.map (fun i => ws[i]?) = wc.map some) (hs : w1.map (fun q => q.1) = wc.map (fun q => q.1)) (q0 : Nat) (hrc : ws[q0]? = some (b, .inr (ci, fs))) (hcl : vwCl[ci]? = some (C, T, N)) (hn : As.length = nA) (hroom : q_room rm f maxL w = true) (hcs : cl + q_c tag ≤ rm.cells ∧ sl + q_s tag ≤ rm.slots) (hcat : (rest.map fun v => v.category).sum ≤ 8) (hdg : decode cc pc = .ok (.invokevirtual index, 3)) (hst : st0 = As.reverse ++ .ref b :: rest) (ws' : va_W) (hw : q_pt ws isC w1 = ws')
    (kk : tag = 0 → q_J D κ n cl sl ws' lv (pc + 3) (o.toList ++ rest))
    (kt : ∀ E, q_ex tag = some E → ∃ (pre : List ExceptionTableEntry) (x : ExceptionTableEntry) (suf : List ExceptionTableEntry), tb = pre ++ x :: suf ∧ (∀ z ∈ pre, covers z pc = false ∨ (z.catchType ≠ 0 ∧ ∃ nm : String, Cond.classLink own z.catchType nm ∈ q_tbl ∧ (E, nm) ∈ q_nc)) ∧ covers x pc = true ∧ x.catchType ≠ 0 ∧ Cond.classLink own x.catchType E ∈ q_tbl ∧ E ∈ q_exs ∧ ∀ q9 : Nat, q_J D κ n (cl + 1) (sl + 6) ws' lv x.handlerPc [.ref q9]) : q_J D κ n cl sl ws lv pc st0 := by
  obtain ⟨p, l, e, R, s, m, args, below, meth, c, A, Q⟩ := κ
  obtain ⟨hx, hb, hml, hown, hE, hA, rfl⟩ := ok
  obtain ⟨hnt, hXE, hTH, htb⟩ := kx
  intro H locs ls hP hD hS hl
  subst hst
  subst hw
  have hts := hE.2.2.at args
  have hPc := q_subP hP isC hC
  have hDc := q_subD hD isC hC hn2
  have hFc := va_free (wc := wc) hD hS hA isC hC
  have hrun := vx_runV (e := e) (below := below) (meth := meth) (As := As) (rest := rest) (cells := cl) (slots := sl) (locs := locs) (g := F0 m pc ls (As.reverse ++ .ref b :: rest)) ⟨hx, hb, hml, hown, hts⟩ (hM l hnt H.size) (cwV nA hts hG rfl rfl rfl hd (q_room_spec hroom)) ⟨q_Px.blind, va_recv hE.1 hP hcl hrc, q_Px.mk hPc hDc hE hXE hTH hS hFc⟩ rfl hn hl.1 rfl (lv_room hcat) hdg ⟨hcs.1, hcs.2⟩
  intro T0 hT X
  rcases hrun T0 hT X with ⟨v, st₀, t, T', L, h0, X', hL, e1, e2, ⟨ht0, ⟨⟨hv, hb2⟩, hF⟩⟩, st⟩ | ⟨q, st₀, t, T', L, E, ce, h0, X', hL, e1, e2, ⟨hEx, hb1, hb2, hF⟩, hce, hcv, hcl2, st⟩
  · cases hv
    obtain ⟨k1, k2, k3⟩ := vx_keep h0 e1 hS (fun q _ h => hFc q h) hFc hL hF
    obtain ⟨hP1, -, hD1⟩ := hb2
    obtain ⟨hP', hD'⟩ := q_ptP hP hD isC hC k2 hs (by rw [e1]; exact hP1) 
    rw [show q_c tag = 0 from if_pos ht0, show q_s tag = 0 from if_pos ht0] at X'
    obtain ⟨t2, a1, b1⟩ := kk ht0 T'.heap (locs ++ L) ls hP' hD' k3 hl T' rfl X'
    exact ⟨t2, st t2 a1, b1⟩
  · obtain ⟨k1, k2, k3⟩ := vx_keep h0 e1 hS (fun q _ h => hFc q h) hFc hL hF
    obtain ⟨hP', hD'⟩ := q_ptP hP hD isC hC k2 hs (by rw [e1]; exact hb1)
    obtain ⟨pre, x, suf, hsp, hpass, hcov, hc0, hlk, hex, kj⟩ := kt E hEx
    have ht0 : ¬ tag = 0 := fun z => by rw [z] at hEx; cases hEx
    rw [show q_c tag = 1 from if_neg ht0, show q_s tag = 6 from if_neg ht0] at X'
    obtain ⟨t2, a1, b1⟩ := vx_catch (cells := cl + 1) (slots := sl + 6) (locs := locs ++ L) (ls := ls) (rest := rest) (q := q) (E := E) (ce := ce) hown pre x suf (htb.trans hsp) (fun z hz => (hpass z hz).imp id (fun ⟨h1, nm, h2, h3⟩ => ⟨h1, nm, hts _ h2, hXE.2.2.2.2.2 _ h3⟩)) hcov hc0 (hts _ hlk) (va_Nw.use rfl (hXE.1 E hex)) (by rw [e1]; exact hce) hcv hcl2 (kj q T'.heap (locs ++ L) ls hP' hD' k3 hl) T' rfl X'
    exact ⟨t2, st.trans a1, b1⟩
end QH
theorem q_hc1 (tag : Int) : 0 + q_c tag ≤ 1 ∧ 0 + q_s tag ≤ 6 := by
  unfold q_c q_s
  split <;> decide
theorem z_tg1_0 {ρ : Type} {tag t1 : Int} {A : Option ρ} {r : ρ} (h : tg1 tag t1 A none = some r) : tag = 0 := by
  unfold tg1 at h
  split at h
  · assumption
  · split at h <;> cases h
theorem z_tg2_0 {ρ : Type} {tag t1 t2 : Int} {A : Option ρ} {r : ρ} (h : tg2 tag t1 t2 A none none = some r) : tag = 0 := by
  unfold tg2 at h
  split at h
  · assumption
  · split at h
    · cases h
    · split at h <;> cases h
abbrev q_ro (f w mc ms : Nat) : Room := { frames := f, cells := mc, slots := ms, locals := w }
/-- a helper's contract: it answers k; one cell may be new -/
def q_Mh (D : va_G) (cs : q_CS) (y : MethodName) (cc : ByteArray) (mL : Nat) (hh : List (Nat × Nat × Nat × Nat)) (f w mc ms : Nat) (av : List Value) (ws : va_W) (k : Int) (ws' : va_W) : Prop := ∀ (l : Launch), l.stackTraces = false → ∀ (sz : Nat), Met l y [.codeWith y cc mL (some .int) hh] (q_ro f w mc ms) (q_Px D cs av sz ws) (q_Q D cs (va_A ws sz) ws' (some (.int (iI k)))) mc ms (va_A ws sz)
theorem q_starth {D : va_G} {cs : q_CS} {y : MethodName} {cc : ByteArray} {mL : Nat} {hh : List (Nat × Nat × Nat × Nat)} {f w mc ms : Nat} {av : List Value} {ws ws' : va_W} {k : Int} (tb : List ExceptionTableEntry) (lv0 : List (Nat × Value)) (own : String) (hy0 : y.cls = own) (hy : plainName own = true) (htb : tableOf hh = tb) (hlv : lv_args 0 av = lv0) (hle : (lg_sl av).length ≤ mL) (hcode : Cond.codeWith y cc mL (some .int) hh ∈ q_tbl) (body : ∀ κ : q_X, q_ok D cs κ cc mL own (q_ro f w mc ms) → q_kx κ tb → (∀ (cl sl : Nat) (lv : List (Nat × Value)) (pc : Nat), cl ≤ mc → sl ≤ ms → decode cc pc = .ok (.ireturn, 1) → q_J D κ mL cl sl ws' lv pc [.int (iI k)]) → q_J D κ mL 0 0 ws lv0 0 []) : q_Mh D cs y cc mL hh f w mc ms av ws k ws' := by
  intro l hnt sz
  subst hy0
  refine va_MetW (cc := cc) (maxL := mL) (ret := some .int) (hh := hh) hy rfl ?_
  intro p e s m args below meth c s₁ B hml hv
  obtain ⟨rfl, hsz, hP, hE, hD0, hXE, hTH⟩ := hv
  have hx := B.exec
  have hb := B.bytes
  have hr := B.returns
  have hown : s.vm.findClass y.cls = some m.cls := findClass_of_methodNamed B.named
  have hlocks := B.notSynchronized
  have ht : c.exceptionTable.toList = tb := (vx_table (x := y) B (hE.2.2.at av.toArray _ hcode)).trans htb
  subst hsz
  have hD := hD0.self (sz := s.heap.size)
  have hS : va_S (va_A ws s.heap.size) s.heap s.heap [] := va_S.rf
  have hl := lv_entry av (n := mL) hle
  rw [hlv] at hl
  rw [lg_entry_eq]
  have K := body (p, l, e, q_ro f w mc ms, s, m, av.toArray, below, meth, c, va_A ws s.heap.size, MQ below (q_Q D cs (va_A ws s.heap.size) ws' (some (.int (iI k)))) av.toArray s mc ms (va_A ws s.heap.size)) (by show _ ∧ _; exact ⟨hx, hb, hml, hown, hE, fun q h => Or.inr h, rfl⟩) (by show _ ∧ _; exact ⟨hnt, hXE, hTH, ht⟩) (by
    intro cl sl lv pc hc hs hdg H locs ls hP hD hS hl
    refine W.widen (k := mc) (n := ms) hc hs ?_
    exact W.zret hx hb hr rfl (fun t ht hW => ⟨⟨rfl, by show _ ∧ _; exact ⟨by rw [ht]; exact hP, hE.moved hW, hD⟩⟩, hS.F ht⟩) hS.2.2 hdg)
  exact K s.heap [] _ hP hD hS hl
/-- what a method of the law knows of its caller: no stack traces, the exceptions' words -/
def q_ky (κ : q_X) : Prop :=
  match κ with
  | (_, l, _, _, s, _, _, _, _, _, A, _) => l.stackTraces = false ∧ q_XE s ∧ q_TH A s s.heap
/-- the contract of a method of the law: from the world ws it answers o, the world is ws' behind it, mc cells of ms slots may be new -/
def q_Mo (D : va_G) (cs : q_CS) (y : MethodName) (cc : ByteArray) (mL : Nat) (rt : Option FieldType) (f w mc ms : Nat) (av : List Value) (ws : va_W) (o : Option Value) (ws' : va_W) : Prop := ∀ (l : Launch), l.stackTraces = false → ∀ (sz : Nat), Met l y [.code y cc mL rt] (q_ro f w mc ms) (q_Px D cs av sz ws) (q_Q D cs (va_A ws sz) ws' o) mc ms (va_A ws sz)
theorem q_starto_i {D : va_G} {cs : q_CS} {y : MethodName} {cc : ByteArray} {mL : Nat} {f w mc ms : Nat} {av : List Value} {ws ws' : va_W} {r : Int} (lv0 : List (Nat × Value)) (own : String) (hy0 : y.cls = own) (hy : plainName own = true) (hlv : lv_args 0 av = lv0) (hle : (lg_sl av).length ≤ mL) (body : ∀ κ : q_X, q_ok D cs κ cc mL own (q_ro f w mc ms) → q_ky κ → (∀ (cl sl : Nat) (lv : List (Nat × Value)) (pc : Nat), cl ≤ mc → sl ≤ ms → decode cc pc = .ok (.ireturn, 1) → q_J D κ mL cl sl ws' lv pc [.int (iI r)]) → q_J D κ mL 0 0 ws lv0 0 []) : q_Mo D cs y cc mL (some .int) f w mc ms av ws (some (.int (iI r))) ws' := by
  intro l hnt sz
  subst hy0
  refine Met.ofW (cc := cc) (maxL := mL) (ret := some .int) hy rfl ?_
  intro p e s m args below meth c s₁ B hml hv
  obtain ⟨rfl, hsz, hP, hE, hD0, hXE, hTH⟩ := hv
  have hx := B.exec
  have hb := B.bytes
  have hr := B.returns
  have hown : s.vm.findClass y.cls = some m.cls := findClass_of_methodNamed B.named
  have hlocks := B.notSynchronized
  subst hsz
  have hD := hD0.self (sz := s.heap.size)
  have hS : va_S (va_A ws s.heap.size) s.heap s.heap [] := va_S.rf
  have hl := lv_entry av (n := mL) hle
  rw [hlv] at hl
  rw [lg_entry_eq]
  have K := body (p, l, e, q_ro f w mc ms, s, m, av.toArray, below, meth, c, va_A ws s.heap.size, MQ below (q_Q D cs (va_A ws s.heap.size) ws' (some (.int (iI r)))) av.toArray s mc ms (va_A ws s.heap.size)) (by show _ ∧ _; exact ⟨hx, hb, hml, hown, hE, fun q h => Or.inr h, rfl⟩) (by show _ ∧ _; exact ⟨hnt, hXE, hTH⟩) (by
    intro cl sl lv pc hc hs hdg H locs ls hP hD hS hl
    refine W.widen (k := mc) (n := ms) hc hs ?_
    exact W.zret hx hb hr rfl (fun t ht hW => ⟨⟨rfl, by show _ ∧ _; exact ⟨by rw [ht]; exact hP, hE.moved hW, hD⟩⟩, hS.F ht⟩) hS.2.2 hdg)
  exact K s.heap [] _ hP hD hS hl
theorem q_starto_z {D : va_G} {cs : q_CS} {y : MethodName} {cc : ByteArray} {mL : Nat} {f w mc ms : Nat} {av : List Value} {ws ws' : va_W} {r : Int} (lv0 : List (Nat × Value)) (own : String) (hy0 : y.cls = own) (hy : plainName own = true) (hlv : lv_args 0 av = lv0) (hle : (lg_sl av).length ≤ mL) (body : ∀ κ : q_X, q_ok D cs κ cc mL own (q_ro f w mc ms) → q_ky κ → (∀ (cl sl : Nat) (lv : List (Nat × Value)) (pc : Nat), cl ≤ mc → sl ≤ ms → (r = 0 ∨ r = 1) → decode cc pc = .ok (.ireturn, 1) → q_J D κ mL cl sl ws' lv pc [.int (iI r)]) → q_J D κ mL 0 0 ws lv0 0 []) : q_Mo D cs y cc mL (some .boolean) f w mc ms av ws (some (.int (iI r))) ws' := by
  intro l hnt sz
  subst hy0
  refine Met.ofW (cc := cc) (maxL := mL) (ret := some .boolean) hy rfl ?_
  intro p e s m args below meth c s₁ B hml hv
  obtain ⟨rfl, hsz, hP, hE, hD0, hXE, hTH⟩ := hv
  have hx := B.exec
  have hb := B.bytes
  have hr := B.returns
  have hown : s.vm.findClass y.cls = some m.cls := findClass_of_methodNamed B.named
  have hlocks := B.notSynchronized
  subst hsz
  have hD := hD0.self (sz := s.heap.size)
  have hS : va_S (va_A ws s.heap.size) s.heap s.heap [] := va_S.rf
  have hl := lv_entry av (n := mL) hle
  rw [hlv] at hl
  rw [lg_entry_eq]
  have K := body (p, l, e, q_ro f w mc ms, s, m, av.toArray, below, meth, c, va_A ws s.heap.size, MQ below (q_Q D cs (va_A ws s.heap.size) ws' (some (.int (iI r)))) av.toArray s mc ms (va_A ws s.heap.size)) (by show _ ∧ _; exact ⟨hx, hb, hml, hown, hE, fun q h => Or.inr h, rfl⟩) (by show _ ∧ _; exact ⟨hnt, hXE, hTH⟩) (by
    intro cl sl lv pc hc hs hbo hdg H locs ls hP hD hS hl
    refine W.widen (k := mc) (n := ms) hc hs ?_
    exact W.zret hx hb hr (nar_b hbo).1 (fun t ht hW => ⟨⟨rfl, by show _ ∧ _; exact ⟨by rw [ht]; exact hP, hE.moved hW, hD⟩⟩, hS.F ht⟩) hS.2.2 hdg)
  exact K s.heap [] _ hP hD hS hl
section QHC
variable {D : va_G} {cs : q_CS} {κ : q_X} {cc : ByteArray} {n cl sl : Nat} {own : String} {rm : Room} {ws1 G G' : va_W} {lv : List (Nat × Value)} {pc : Nat} {st0 : List Value}
variable {y : MethodName} {bytes : ByteArray} {maxL f w mc ms index nA : Nat} {hh : List (Nat × Nat × Nat × Nat)} {rt : Option FieldType} {As rest : List Value} {wc w1 : va_W} {k : Int}
theorem j_callH {ws wc w1 : va_W} (ok : q_ok D cs κ cc n own rm) (kx : q_ky κ) (hM : q_Mh D cs y bytes maxL hh f w mc ms As wc k w1) (hG : GoodIn q_tbl (va_wsS own index y [.codeWith y bytes maxL (some .int) hh])) (hd : y.cls ≠ "java/lang/invoke/MethodHandle" ∧ y.cls ≠ "java/lang/invoke/VarHandle" ∧ (parseMethodDescriptor y.desc).map (fun d => d.parameters.length) = some nA) (isC : List Nat) (hn2 : va_nd isC = true) (hC : isC.map (fun i => ws[i]?) = wc.map some) (hs : w1.map (fun q => q.1) = wc.map (fun q => q.1)) (hn : As.length = nA) (hroom : q_room rm f maxL w = true) (hcs : cl + mc ≤ rm.cells ∧ sl + ms ≤ rm.slots) (hcat : (rest.map fun v => v.category).sum ≤ 8) (hdg : decode cc pc = .ok (.invokestatic index, 3)) (hst : st0 = As.reverse ++ rest) (ws' : va_W) (hw : q_pt ws isC w1 = ws')
    (kk : q_J D κ n (cl + mc) (sl + ms) ws' lv (pc + 3) (.int (iI k) :: rest)) : q_J D κ n cl sl ws lv pc st0 := by
  obtain ⟨p, l, e, R, s, m, args, below, meth, c, A, Q⟩ := κ
  obtain ⟨hx, hb, hml, hown, hE, hA, rfl⟩ := ok
  obtain ⟨hnt, hXE, hTH⟩ := kx
  intro H locs ls hP hD hS hl
  subst hst
  subst hw
  have hts := hE.2.2.at args
  have hPc := q_subP hP isC hC
  have hDc := q_subD hD isC hC hn2
  have hFc := va_free (wc := wc) hD hS hA isC hC
  refine q_call (vx_runSW (As := As) (rest := rest) ⟨hx, hb, hml, hown, hts⟩ (hM l hnt H.size) (vx_cwSW nA hts hG rfl rfl rfl hd (q_room_spec hroom)) ⟨q_Px.blind, q_Px.mk hPc hDc hE hXE hTH hS hFc⟩ rfl hn hl.1 rfl (lv_room hcat) hdg ⟨hcs.1, hcs.2⟩) hS (fun q _ h => hFc q h) hFc (fun H1 locs1 hP1 hD1 hk1 hS1 => ?_)
  obtain ⟨hP', hD'⟩ := q_ptP hP hD isC hC hk1 hs hP1
  exact kk H1 locs1 ls hP' hD' hS1 hl
theorem j_callHG (ok : q_ok D cs κ cc n own rm) (kx : q_ky κ) (hM : q_Mh D cs y bytes maxL hh f w mc ms As (wc ++ G) k (w1 ++ G')) (hG : GoodIn q_tbl (va_wsS own index y [.codeWith y bytes maxL (some .int) hh])) (hd : y.cls ≠ "java/lang/invoke/MethodHandle" ∧ y.cls ≠ "java/lang/invoke/VarHandle" ∧ (parseMethodDescriptor y.desc).map (fun d => d.parameters.length) = some nA) (isC : List Nat) (hn2 : va_nd isC = true) (hC : isC.map (fun i => ws1[i]?) = wc.map some) (hs : w1.map (fun q => q.1) = wc.map (fun q => q.1)) (hgf : G'.map (fun q => q.1) = G.map (fun q => q.1)) (hn : As.length = nA) (hroom : q_room rm f maxL w = true) (hcs : cl + mc ≤ rm.cells ∧ sl + ms ≤ rm.slots) (hcat : (rest.map fun v => v.category).sum ≤ 8) (hdg : decode cc pc = .ok (.invokestatic index, 3)) (hst : st0 = As.reverse ++ rest) (ws' : va_W) (hw : q_pt ws1 isC w1 = ws') (kk : q_J D κ n (cl + mc) (sl + ms) (ws' ++ G') lv (pc + 3) (.int (iI k) :: rest)) : q_J D κ n cl sl (ws1 ++ G) lv pc st0 := by
  have hlen : isC.length = w1.length := by
    have e1 := congrArg List.length hC
    have e2 := congrArg List.length hs
    simp only [List.length_map] at e1 e2
    omega
  have hgl : G.length = G'.length := by
    have e2 := congrArg List.length hgf
    simp only [List.length_map] at e2
    omega
  have hlt := q_mem_lt hC
  refine j_callH (ws' := ws' ++ G') ok kx hM hG hd (isC ++ List.range' ws1.length G.length) ?_ (q_mapG hC) ?_ hn hroom hcs hcat hdg hst ?_ kk
  · refine q_nd_app _ _ hn2 (q_nd_range _ _) (fun z hz hz2 => ?_)
    have h1 := hlt z hz
    have h2 := List.mem_range'_1.mp hz2
    omega
  · rw [List.map_append, List.map_append, hs, hgf]
  · rw [q_ptG isC w1 ws1 G G' hlen hlt hgl, hw]
theorem j_callO {ws wc w1 : va_W} (ok : q_ok D cs κ cc n own rm) (kx : q_ky κ) (hM : q_Mo D cs y bytes maxL rt f w mc ms As wc (some (.int (iI k))) w1) (hG : GoodIn q_tbl (va_wsS own index y [.code y bytes maxL rt])) (hd : y.cls ≠ "java/lang/invoke/MethodHandle" ∧ y.cls ≠ "java/lang/invoke/VarHandle" ∧ (parseMethodDescriptor y.desc).map (fun d => d.parameters.length) = some nA) (isC : List Nat) (hn2 : va_nd isC = true) (hC : isC.map (fun i => ws[i]?) = wc.map some) (hs : w1.map (fun q => q.1) = wc.map (fun q => q.1)) (hn : As.length = nA) (hroom : q_room rm f maxL w = true) (hcs : cl + mc ≤ rm.cells ∧ sl + ms ≤ rm.slots) (hcat : (rest.map fun v => v.category).sum ≤ 8) (hdg : decode cc pc = .ok (.invokestatic index, 3)) (hst : st0 = As.reverse ++ rest) (ws' : va_W) (hw : q_pt ws isC w1 = ws')
    (kk : q_J D κ n (cl + mc) (sl + ms) ws' lv (pc + 3) (.int (iI k) :: rest)) : q_J D κ n cl sl ws lv pc st0 := by
  obtain ⟨p, l, e, R, s, m, args, below, meth, c, A, Q⟩ := κ
  obtain ⟨hx, hb, hml, hown, hE, hA, rfl⟩ := ok
  obtain ⟨hnt, hXE, hTH⟩ := kx
  intro H locs ls hP hD hS hl
  subst hst
  subst hw
  have hts := hE.2.2.at args
  have hPc := q_subP hP isC hC
  have hDc := q_subD hD isC hC hn2
  have hFc := va_free (wc := wc) hD hS hA isC hC
  refine q_call (va_runS (As := As) (rest := rest) ⟨hx, hb, hml, hown, hts⟩ (hM l hnt H.size) (va_cwS nA hts hG rfl rfl rfl hd (q_room_spec hroom)) ⟨q_Px.blind, q_Px.mk hPc hDc hE hXE hTH hS hFc⟩ rfl hn hl.1 rfl (lv_room hcat) hdg ⟨hcs.1, hcs.2⟩) hS (fun q _ h => hFc q h) hFc (fun H1 locs1 hP1 hD1 hk1 hS1 => ?_)
  obtain ⟨hP', hD'⟩ := q_ptP hP hD isC hC hk1 hs hP1
  exact kk H1 locs1 ls hP' hD' hS1 hl
theorem j_callOG (ok : q_ok D cs κ cc n own rm) (kx : q_ky κ) (hM : q_Mo D cs y bytes maxL rt f w mc ms As (wc ++ G) (some (.int (iI k))) (w1 ++ G')) (hG : GoodIn q_tbl (va_wsS own index y [.code y bytes maxL rt])) (hd : y.cls ≠ "java/lang/invoke/MethodHandle" ∧ y.cls ≠ "java/lang/invoke/VarHandle" ∧ (parseMethodDescriptor y.desc).map (fun d => d.parameters.length) = some nA) (isC : List Nat) (hn2 : va_nd isC = true) (hC : isC.map (fun i => ws1[i]?) = wc.map some) (hs : w1.map (fun q => q.1) = wc.map (fun q => q.1)) (hgf : G'.map (fun q => q.1) = G.map (fun q => q.1)) (hn : As.length = nA) (hroom : q_room rm f maxL w = true) (hcs : cl + mc ≤ rm.cells ∧ sl + ms ≤ rm.slots) (hcat : (rest.map fun v => v.category).sum ≤ 8) (hdg : decode cc pc = .ok (.invokestatic index, 3)) (hst : st0 = As.reverse ++ rest) (ws' : va_W) (hw : q_pt ws1 isC w1 = ws') (kk : q_J D κ n (cl + mc) (sl + ms) (ws' ++ G') lv (pc + 3) (.int (iI k) :: rest)) : q_J D κ n cl sl (ws1 ++ G) lv pc st0 := by
  have hlen : isC.length = w1.length := by
    have e1 := congrArg List.length hC
    have e2 := congrArg List.length hs
    simp only [List.length_map] at e1 e2
    omega
  have hgl : G.length = G'.length := by
    have e2 := congrArg List.length hgf
    simp only [List.length_map] at e2
    omega
  have hlt := q_mem_lt hC
  refine j_callO (ws' := ws' ++ G') ok kx hM hG hd (isC ++ List.range' ws1.length G.length) ?_ (q_mapG hC) ?_ hn hroom hcs hcat hdg hst ?_ kk
  · refine q_nd_app _ _ hn2 (q_nd_range _ _) (fun z hz hz2 => ?_)
    have h1 := hlt z hz
    have h2 := List.mem_range'_1.mp hz2
    omega
  · rw [List.map_append, List.map_append, hs, hgf]
  · rw [q_ptG isC w1 ws1 G G' hlen hlt hgl, hw]
/-- j_callX with the ring as a tail -/
theorem j_callXG {ci N : Nat} {C : String} {T : u_T} {fs : List Value} {b : Nat} {o : Option Value} {rt : Option FieldType} {tag : Int} {tb : List ExceptionTableEntry} (ok : q_ok D cs κ cc n own rm) (kx : q_kx κ tb) (hM : q_Mx D cs y bytes maxL rt f w (.ref b :: As) (wc ++ G) tag o (w1 ++ G')) (hG : GoodIn q_tbl (wsV own index C y [.code y bytes maxL rt])) (hd : y.cls = C ∧ y.cls ≠ "java/lang/invoke/MethodHandle" ∧ y.cls ≠ "java/lang/invoke/VarHandle" ∧ (parseMethodDescriptor y.desc).map (fun d => d.parameters.length) = some nA) (isC : List Nat) (hn2 : va_nd isC = true) (hC : isC.map (fun i => ws1[i]?) = wc.map some) (hs : w1.map (fun q => q.1) = wc.map (fun q => q.1)) (hgf : G'.map (fun q => q.1) = G.map (fun q => q.1)) (q0 : Nat) (hrc : ws1[q0]? = some (b, .inr (ci, fs))) (hcl : vwCl[ci]? = some (C, T, N)) (hn : As.length = nA) (hroom : q_room rm f maxL w = true) (hcs : cl + q_c tag ≤ rm.cells ∧ sl + q_s tag ≤ rm.slots) (hcat : (rest.map fun v => v.category).sum ≤ 8) (hdg : decode cc pc = .ok (.invokevirtual index, 3)) (hst : st0 = As.reverse ++ .ref b :: rest) (ws' : va_W) (hw : q_pt ws1 isC w1 = ws')
    (kk : tag = 0 → q_J D κ n cl sl (ws' ++ G') lv (pc + 3) (o.toList ++ rest))
    (kt : ∀ E, q_ex tag = some E → ∃ (pre : List ExceptionTableEntry) (x : ExceptionTableEntry) (suf : List ExceptionTableEntry), tb = pre ++ x :: suf ∧ (∀ z ∈ pre, covers z pc = false ∨ (z.catchType ≠ 0 ∧ ∃ nm : String, Cond.classLink own z.catchType nm ∈ q_tbl ∧ (E, nm) ∈ q_nc)) ∧ covers x pc = true ∧ x.catchType ≠ 0 ∧ Cond.classLink own x.catchType E ∈ q_tbl ∧ E ∈ q_exs ∧ ∀ q9 : Nat, q_J D κ n (cl + 1) (sl + 6) (ws' ++ G') lv x.handlerPc [.ref q9]) : q_J D κ n cl sl (ws1 ++ G) lv pc st0 := by
  have hlen : isC.length = w1.length := by
    have e1 := congrArg List.length hC
    have e2 := congrArg List.length hs
    simp only [List.length_map] at e1 e2
    omega
  have hgl : G.length = G'.length := by
    have e2 := congrArg List.length hgf
    simp only [List.length_map] at e2
    omega
  have hlt := q_mem_lt hC
  refine j_callX (fs := fs) (ci := ci) (ws' := ws' ++ G') ok kx hM hG hd (isC ++ List.range' ws1.length G.length) ?_ (q_mapG hC) ?_ q0 ?_ hcl hn hroom hcs hcat hdg hst ?_ kk kt
  · refine q_nd_app _ _ hn2 (q_nd_range _ _) (fun z hz hz2 => ?_)
    have h1 := hlt z hz
    have h2 := List.mem_range'_1.mp hz2
    omega
  · rw [List.map_append, List.map_append, hs, hgf]
  · rw [List.getElem?_append_left (List.getElem?_eq_some_iff.mp hrc).1]
    exact hrc
  · rw [q_ptG isC w1 ws1 G G' hlen hlt hgl, hw]
end QHC
theorem gH_92 : GoodIn q_tbl (va_wsS RL 92 yL_tryAbout [.codeWith yL_tryAbout cL_tryAbout 3 (some .int) [(0, 5, 6, 13)]]) := q_ins [811, 812, 45, 813] (by decide +kernel) (by decide +kernel)
theorem hH_92 : yL_tryAbout.cls ≠ "java/lang/invoke/MethodHandle" ∧ yL_tryAbout.cls ≠ "java/lang/invoke/VarHandle" ∧ (parseMethodDescriptor yL_tryAbout.desc).map (fun d => d.parameters.length) = some 2 := by decide +kernel
theorem gH_98 : GoodIn q_tbl (va_wsS RL 98 yL_tryPlace [.codeWith yL_tryPlace cL_tryPlace 4 (some .int) [(0, 6, 7, 28), (0, 6, 12, 13)]]) := q_ins [845, 846, 45, 847] (by decide +kernel) (by decide +kernel)
theorem hH_98 : yL_tryPlace.cls ≠ "java/lang/invoke/MethodHandle" ∧ yL_tryPlace.cls ≠ "java/lang/invoke/VarHandle" ∧ (parseMethodDescriptor yL_tryPlace.desc).map (fun d => d.parameters.length) = some 3 := by decide +kernel
theorem gH_109 : GoodIn q_tbl (va_wsS RL 109 yL_trySelection [.codeWith yL_trySelection cL_trySelection 3 (some .int) [(0, 5, 6, 13)]]) := q_ins [914, 915, 45, 916] (by decide +kernel) (by decide +kernel)
theorem hH_109 : yL_trySelection.cls ≠ "java/lang/invoke/MethodHandle" ∧ yL_trySelection.cls ≠ "java/lang/invoke/VarHandle" ∧ (parseMethodDescriptor yL_trySelection.desc).map (fun d => d.parameters.length) = some 2 := by decide +kernel
theorem gH_112 : GoodIn q_tbl (va_wsS RL 112 yL_tryDrawing [.codeWith yL_tryDrawing cL_tryDrawing 3 (some .int) [(0, 5, 6, 13)]]) := q_ins [926, 927, 45, 928] (by decide +kernel) (by decide +kernel)
theorem hH_112 : yL_tryDrawing.cls ≠ "java/lang/invoke/MethodHandle" ∧ yL_tryDrawing.cls ≠ "java/lang/invoke/VarHandle" ∧ (parseMethodDescriptor yL_tryDrawing.desc).map (fun d => d.parameters.length) = some 2 := by decide +kernel
theorem gH_115 : GoodIn q_tbl (va_wsS RL 115 yL_tryLinearAt [.codeWith yL_tryLinearAt cL_tryLinearAt 3 (some .int) [(0, 5, 6, 28)]]) := q_ins [937, 938, 45, 939] (by decide +kernel) (by decide +kernel)
theorem hH_115 : yL_tryLinearAt.cls ≠ "java/lang/invoke/MethodHandle" ∧ yL_tryLinearAt.cls ≠ "java/lang/invoke/VarHandle" ∧ (parseMethodDescriptor yL_tryLinearAt.desc).map (fun d => d.parameters.length) = some 2 := by decide +kernel
theorem gH_118 : GoodIn q_tbl (va_wsS RL 118 yL_tryMoveTo [.codeWith yL_tryMoveTo cL_tryMoveTo 3 (some .int) [(0, 5, 6, 28)]]) := q_ins [949, 950, 45, 951] (by decide +kernel) (by decide +kernel)
theorem hH_118 : yL_tryMoveTo.cls ≠ "java/lang/invoke/MethodHandle" ∧ yL_tryMoveTo.cls ≠ "java/lang/invoke/VarHandle" ∧ (parseMethodDescriptor yL_tryMoveTo.desc).map (fun d => d.parameters.length) = some 2 := by decide +kernel
theorem gH_121 : GoodIn q_tbl (va_wsS RL 121 yL_tryMoveBy [.codeWith yL_tryMoveBy cL_tryMoveBy 3 (some .int) [(0, 5, 6, 13)]]) := q_ins [956, 957, 45, 958] (by decide +kernel) (by decide +kernel)
theorem hH_121 : yL_tryMoveBy.cls ≠ "java/lang/invoke/MethodHandle" ∧ yL_tryMoveBy.cls ≠ "java/lang/invoke/VarHandle" ∧ (parseMethodDescriptor yL_tryMoveBy.desc).map (fun d => d.parameters.length) = some 2 := by decide +kernel
theorem gH_124 : GoodIn q_tbl (va_wsS RL 124 yL_tryType [.codeWith yL_tryType cL_tryType 3 (some .int) [(0, 5, 6, 13), (0, 5, 11, 15)]]) := q_ins [972, 973, 45, 974] (by decide +kernel) (by decide +kernel)
theorem hH_124 : yL_tryType.cls ≠ "java/lang/invoke/MethodHandle" ∧ yL_tryType.cls ≠ "java/lang/invoke/VarHandle" ∧ (parseMethodDescriptor yL_tryType.desc).map (fun d => d.parameters.length) = some 2 := by decide +kernel
theorem gH_127 : GoodIn q_tbl (va_wsS RL 127 yL_tryWrap [.codeWith yL_tryWrap cL_tryWrap 3 (some .int) [(0, 5, 6, 13), (0, 5, 11, 15)]]) := q_ins [1003, 1004, 45, 1005] (by decide +kernel) (by decide +kernel)
theorem hH_127 : yL_tryWrap.cls ≠ "java/lang/invoke/MethodHandle" ∧ yL_tryWrap.cls ≠ "java/lang/invoke/VarHandle" ∧ (parseMethodDescriptor yL_tryWrap.desc).map (fun d => d.parameters.length) = some 2 := by decide +kernel
theorem gH_130 : GoodIn q_tbl (va_wsS RL 130 yL_tryReplace [.codeWith yL_tryReplace cL_tryReplace 4 (some .int) [(0, 6, 7, 13)]]) := q_ins [1021, 1022, 45, 1023] (by decide +kernel) (by decide +kernel)
theorem hH_130 : yL_tryReplace.cls ≠ "java/lang/invoke/MethodHandle" ∧ yL_tryReplace.cls ≠ "java/lang/invoke/VarHandle" ∧ (parseMethodDescriptor yL_tryReplace.desc).map (fun d => d.parameters.length) = some 3 := by decide +kernel
theorem gH_133 : GoodIn q_tbl (va_wsS RL 133 yL_tryDrawn [.codeWith yL_tryDrawn cL_tryDrawn 4 (some .int) [(0, 6, 7, 28)]]) := q_ins [678, 679, 45, 680] (by decide +kernel) (by decide +kernel)
theorem hH_133 : yL_tryDrawn.cls ≠ "java/lang/invoke/MethodHandle" ∧ yL_tryDrawn.cls ≠ "java/lang/invoke/VarHandle" ∧ (parseMethodDescriptor yL_tryDrawn.desc).map (fun d => d.parameters.length) = some 3 := by decide +kernel
theorem gH_136 : GoodIn q_tbl (va_wsS RL 136 yL_tryCopy [.codeWith yL_tryCopy cL_tryCopy 2 (some .int) [(0, 4, 5, 15)]]) := q_ins [1034, 1035, 45, 1036] (by decide +kernel) (by decide +kernel)
theorem hH_136 : yL_tryCopy.cls ≠ "java/lang/invoke/MethodHandle" ∧ yL_tryCopy.cls ≠ "java/lang/invoke/VarHandle" ∧ (parseMethodDescriptor yL_tryCopy.desc).map (fun d => d.parameters.length) = some 1 := by decide +kernel
theorem gH_140 : GoodIn q_tbl (va_wsS RL 140 yL_tryPaste [.codeWith yL_tryPaste cL_tryPaste 2 (some .int) [(0, 4, 5, 15)]]) := q_ins [1044, 1045, 45, 1046] (by decide +kernel) (by decide +kernel)
theorem hH_140 : yL_tryPaste.cls ≠ "java/lang/invoke/MethodHandle" ∧ yL_tryPaste.cls ≠ "java/lang/invoke/VarHandle" ∧ (parseMethodDescriptor yL_tryPaste.desc).map (fun d => d.parameters.length) = some 1 := by decide +kernel
theorem gH_143 : GoodIn q_tbl (va_wsS RL 143 yL_tryScript [.codeWith yL_tryScript cL_tryScript 5 (some .int) [(0, 6, 7, 13)]]) := q_ins [1068, 1069, 45, 1070] (by decide +kernel) (by decide +kernel)
theorem hH_143 : yL_tryScript.cls ≠ "java/lang/invoke/MethodHandle" ∧ yL_tryScript.cls ≠ "java/lang/invoke/VarHandle" ∧ (parseMethodDescriptor yL_tryScript.desc).map (fun d => d.parameters.length) = some 3 := by decide +kernel
theorem gH_149 : GoodIn q_tbl (va_wsS RL 149 yL_trySimulate [.codeWith yL_trySimulate cL_trySimulate 5 (some .int) [(0, 6, 7, 13)]]) := q_ins [1098, 1099, 45, 1100] (by decide +kernel) (by decide +kernel)
theorem hH_149 : yL_trySimulate.cls ≠ "java/lang/invoke/MethodHandle" ∧ yL_trySimulate.cls ≠ "java/lang/invoke/VarHandle" ∧ (parseMethodDescriptor yL_trySimulate.desc).map (fun d => d.parameters.length) = some 3 := by decide +kernel
theorem gH_153 : GoodIn q_tbl (va_wsS RL 153 yL_trySave [.codeWith yL_trySave cL_trySave 3 (some .int) [(0, 5, 6, 28)]]) := q_ins [786, 787, 45, 788] (by decide +kernel) (by decide +kernel)
theorem hH_153 : yL_trySave.cls ≠ "java/lang/invoke/MethodHandle" ∧ yL_trySave.cls ≠ "java/lang/invoke/VarHandle" ∧ (parseMethodDescriptor yL_trySave.desc).map (fun d => d.parameters.length) = some 2 := by decide +kernel
theorem gH_156 : GoodIn q_tbl (va_wsS RL 156 yL_tryRestore [.codeWith yL_tryRestore cL_tryRestore 3 (some .int) [(0, 5, 6, 28), (0, 5, 11, 15)]]) := q_ins [795, 796, 45, 797] (by decide +kernel) (by decide +kernel)
theorem hH_156 : yL_tryRestore.cls ≠ "java/lang/invoke/MethodHandle" ∧ yL_tryRestore.cls ≠ "java/lang/invoke/VarHandle" ∧ (parseMethodDescriptor yL_tryRestore.desc).map (fun d => d.parameters.length) = some 2 := by decide +kernel
theorem gH_159 : GoodIn q_tbl (va_wsS RL 159 yL_tryAppend [.codeWith yL_tryAppend cL_tryAppend 3 (some .int) [(0, 5, 6, 13), (0, 5, 11, 15)]]) := q_ins [1112, 1113, 45, 1114] (by decide +kernel) (by decide +kernel)
theorem hH_159 : yL_tryAppend.cls ≠ "java/lang/invoke/MethodHandle" ∧ yL_tryAppend.cls ≠ "java/lang/invoke/VarHandle" ∧ (parseMethodDescriptor yL_tryAppend.desc).map (fun d => d.parameters.length) = some 2 := by decide +kernel
theorem gH_172 : GoodIn q_tbl (va_wsS RL 172 yL_tryLoad [.codeWith yL_tryLoad cL_tryLoad 2 (some .int) [(0, 4, 5, 15)]]) := q_ins [454, 455, 45, 456] (by decide +kernel) (by decide +kernel)
theorem hH_172 : yL_tryLoad.cls ≠ "java/lang/invoke/MethodHandle" ∧ yL_tryLoad.cls ≠ "java/lang/invoke/VarHandle" ∧ (parseMethodDescriptor yL_tryLoad.desc).map (fun d => d.parameters.length) = some 1 := by decide +kernel
theorem gH_175 : GoodIn q_tbl (va_wsS RL 175 yL_tryUndo [.codeWith yL_tryUndo cL_tryUndo 2 (some .int) [(0, 4, 5, 15)]]) := q_ins [666, 667, 45, 668] (by decide +kernel) (by decide +kernel)
theorem hH_175 : yL_tryUndo.cls ≠ "java/lang/invoke/MethodHandle" ∧ yL_tryUndo.cls ≠ "java/lang/invoke/VarHandle" ∧ (parseMethodDescriptor yL_tryUndo.desc).map (fun d => d.parameters.length) = some 1 := by decide +kernel
theorem gH_181 : GoodIn q_tbl (va_wsS RL 181 yL_tryBackspace [.codeWith yL_tryBackspace cL_tryBackspace 2 (some .int) [(0, 4, 5, 15)]]) := q_ins [616, 617, 45, 618] (by decide +kernel) (by decide +kernel)
theorem hH_181 : yL_tryBackspace.cls ≠ "java/lang/invoke/MethodHandle" ∧ yL_tryBackspace.cls ≠ "java/lang/invoke/VarHandle" ∧ (parseMethodDescriptor yL_tryBackspace.desc).map (fun d => d.parameters.length) = some 1 := by decide +kernel
theorem gH_184 : GoodIn q_tbl (va_wsS RL 184 yL_tryGrow [.codeWith yL_tryGrow cL_tryGrow 2 (some .int) [(0, 4, 5, 15)]]) := q_ins [595, 596, 45, 597] (by decide +kernel) (by decide +kernel)
theorem hH_184 : yL_tryGrow.cls ≠ "java/lang/invoke/MethodHandle" ∧ yL_tryGrow.cls ≠ "java/lang/invoke/VarHandle" ∧ (parseMethodDescriptor yL_tryGrow.desc).map (fun d => d.parameters.length) = some 1 := by decide +kernel
theorem gH_187 : GoodIn q_tbl (va_wsS RL 187 yL_tryExtend [.codeWith yL_tryExtend cL_tryExtend 3 (some .int) [(0, 5, 6, 15)]]) := q_ins [560, 561, 45, 562] (by decide +kernel) (by decide +kernel)
theorem hH_187 : yL_tryExtend.cls ≠ "java/lang/invoke/MethodHandle" ∧ yL_tryExtend.cls ≠ "java/lang/invoke/VarHandle" ∧ (parseMethodDescriptor yL_tryExtend.desc).map (fun d => d.parameters.length) = some 2 := by decide +kernel
