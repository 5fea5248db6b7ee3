/-! constructors: rows that make cells, contracts of methods that make cells -/
abbrev q_rk (f w mc ms : Nat) : Room := { frames := f, cells := mc, slots := ms, locals := w }
def q_kc (κ : q_X) : Prop :=
  match κ with
  | (_, _, _, _, s, _, _, _, meth, _, _, _) => meth.name = "<init>" ∧ va_AO RX0 s
def q_Pk (D : va_G) (cs : q_CS) (av : List Value) (sz : Nat) (ws : va_W) : Array Value → State → Prop := va_Pc av (fun U => U.heap.size = sz ∧ va_P D vwCl ws U.heap ∧ q_EV D cs U ∧ va_D (fun _ => True) ws ∧ va_AO RX0 U)
def q_Qk (D : va_G) (cs : q_CS) (A : Nat → Prop) (P : va_W → Prop) : Array Value → State → Outcome → State → Prop := fun _ st oc t => (oc = .returned none ∧ ∃ ws', P ws' ∧ q_W D cs A ws' t) ∧ va_F A st t
/-- the contract of a constructor: from the world ws to a world with P, mc cells of ms slots are made -/
def q_Mk (D : va_G) (cs : q_CS) (y : MethodName) (cc : ByteArray) (mL : Nat) (f w mc ms : Nat) (av : List Value) (ws : va_W) (P : va_W → Prop) : Prop := ∀ (l : Launch) (sz : Nat), Met l y [.code y cc mL none] (q_rk f w mc ms) (q_Pk D cs av sz ws) (q_Qk D cs (va_A ws sz) P) mc ms (va_A ws sz)
theorem q_Pk.blind {D : va_G} {cs : q_CS} {av : List Value} {sz : Nat} {ws : va_W} : FrameBlind (q_Pk D cs av sz ws) := by
  intro a U g mk q
  obtain ⟨h0, h1, h2, h3, h4, h5⟩ := q
  have hW : U.WarmedH (U.calling g mk a).vm := State.WarmedH.refl U
  exact ⟨h0, h1, h2, h3.moved hW, h4, va_AO.moved hW.alike h5⟩
theorem q_Pk.mk {D : va_G} {cs : q_CS} {av : List Value} {A : Nat → Prop} {s : State} {ws : va_W} {H : Heap} (hP : va_P D vwCl ws H) (hD : va_D A ws) (hE : q_EV D cs s) (hO : va_AO RX0 s) : ∀ U : State, U.heap = H → s.WarmedH U.vm → q_Pk D cs av H.size ws av.toArray U := fun U hU hW => ⟨rfl, by rw [hU], by rw [hU]; exact hP, hE.moved hW, hD.weaken (fun _ _ _ _ => trivial), va_AO.moved hW.alike hO⟩
section QNK
variable {p : Program} {l : Launch} {e : Env} {R : Room} {s : State} {m : MethodId} {args : Array Value} {below : List Frame} {meth : Method} {c : Code} {H : Heap} {locs : List Loc} {cells slots : Nat} {Q : State → Prop}
variable {pc : Nat} {ls : Array Slot} {rest st0 : List Value} {a : Array Value} {A0 A1 : Nat → Prop} {H0 : Heap} {mc ms : Nat} {free : Addr → Prop}
theorem q_callk {D : va_G} {cs : q_CS} {P : va_W → Prop} (hr : va_Run p l e R s m args below meth c H locs cells slots mc ms (F0 m pc ls st0) rest (q_Qk D cs A1 P a) free) (hS : va_S A0 H0 H locs) (hA : ∀ q, q < H.size → A1 q → A0 q) (hf : ∀ q, free q → A0 q)
    (kk : ∀ (w1 : va_W) (H1 : Heap) (locs1 : List Loc), P w1 → va_P D vwCl w1 H1 → va_D A1 w1 → (∀ q : Nat, q < H.size → ¬ A1 q → H1[q]? = H[q]?) → va_S A0 H0 H1 locs1 → W p l e R s m args below meth c H1 locs1 (cells + mc) (slots + ms) Q (F0 m (pc + 3) ls rest)) : W p l e R s m args below meth c H locs cells slots Q (F0 m pc ls st0) := by
  intro T hT X
  obtain ⟨v, st₀, t, T', L, h0, X', hL, e1, e2, ⟨⟨hv, w1, hp, hb⟩, hz, hk⟩, st⟩ := hr T hT X
  cases hv
  rw [h0] at hz hk
  obtain ⟨hP1, -, hD1⟩ := hb
  obtain ⟨t2, a1, b1⟩ := kk w1 T'.heap (locs ++ L) hp (by rw [e1]; exact hP1) hD1 (fun q h1 h2 => by rw [e1]; exact hk q h1 h2)
    ⟨Nat.le_trans hS.1 (by rw [e1]; exact hz), fun q h1 h2 => by rw [e1, hk q (Nat.lt_of_lt_of_le h1 hS.1) (fun z => h2 (hA q (Nat.lt_of_lt_of_le h1 hS.1) z))]; exact hS.2.1 q h1 h2, fun q hq => by
      rcases List.mem_append.mp hq with h | h
      · exact hS.2.2 q h
      · exact hf _ (hL q h)⟩ T' rfl X'
  exact ⟨t2, st t2 a1, b1⟩
end QNK
section QNJ
variable {D : va_G} {cs : q_CS} {κ : q_X} {cc : ByteArray} {n cl sl : Nat} {own : String} {rm : Room} {ws : va_W} {lv : List (Nat × Value)} {pc : Nat} {st st0 : List Value}
theorem j_new {index ci N : Nat} {C : String} {T : u_T} {fs : List Value} (ty : Nat → FieldType) (ok : q_ok D cs κ cc n own rm) (hin : ∀ w ∈ u_ws C T N, w ∈ q_tbl) (hty : ∀ k, k < N → parseFieldDescriptor (T k).2.2.1 = some (ty k)) (hcl : Cond.classLink own index C ∈ q_tbl) (hinst : Cond.instantiable C N ∈ q_tbl) (hini : Cond.initialized C ∈ q_tbl) (hc : vwCl[ci]? = some (C, T, N)) (hfs : ∀ j, j < N → defaultValue (ty j) = vp_V fs j) (hcs : cl + 1 ≤ rm.cells ∧ sl + N ≤ rm.slots) (hdg : decode cc pc = .ok (.new index, 3)) (kk : ∀ q : Nat, q_J D κ n (cl + 1) (sl + N) (ws ++ [(q, .inr (ci, fs))]) lv (pc + 3) (.ref q :: st)) : q_J D κ n cl sl ws lv pc st := by
  obtain ⟨p, l, e, R, s, m, args, below, meth, c, A, Q⟩ := κ
  obtain ⟨hx, hb, hml, hown, hE, hA, rfl⟩ := ok
  intro H locs ls hP hD hS hl
  have hts := hE.2.2.at args
  exact va_new hx hb hts hin ty hty hown (hts _ hcl) (hts _ hinst) (hts _ hini) hE.1 hP hD hS hA hc hfs hcs.1 hcs.2 hdg (fun q H1 hP hD hS => kk q H1 locs ls hP hD hS hl)
theorem q_aI0 (N : Nat) (cA : ClassId) : vp_cell cA (N, .inl (aI (fun _ => 0))) = arrV cA N (fun _ => .int 0) := by
  rw [vp_cell_i]
  congr 1
theorem j_newI {a : Int} {N : Nat} (ok : q_ok D cs κ cc n own rm) (harr : Cond.arrayClass .int ∈ q_tbl) (hN : a = (N : Int)) (hN2 : N ≤ 3000) (hcs : cl + 1 ≤ rm.cells ∧ sl + N ≤ rm.slots) (hdg : decode cc pc = .ok (.newarray .int, 2)) (kk : ∀ q : Nat, q_J D κ n (cl + 1) (sl + N) (ws ++ [(q, .inl (cs.1, N, .inl (aI (fun _ => 0))))]) lv (pc + 2) (.ref q :: st)) : q_J D κ n cl sl ws lv pc (.int (iI a) :: st) := by
  obtain ⟨p, l, e, R, s, m, args, below, meth, c, A, Q⟩ := κ
  obtain ⟨hx, hb, hml, hown, hE, hA, rfl⟩ := ok
  intro H locs ls hP hD hS hl
  have hts := hE.2.2.at args
  subst hN
  refine va_newa (atype := .int) (ty := .int) (a0 := (N, .inl (aI (fun _ => 0)))) hx hb (hts _ harr) rfl hE.1 hP hD hS hA (fun cA => q_aI0 N cA) (iI_n0 (by omega) (by omega)) (by rw [iI_cl (by omega) (by omega)]; exact Int.toNat_natCast N) (by show N * 4 ≤ 536870912; omega) hcs.1 hcs.2 hdg (fun q cA H1 hK hP hD hS => ?_)
  have h1 : s.vm.findClass "[I" = some cA := va_nm_int (hK.2 3 (cA, .int) rfl).2
  have h2 : s.vm.findClass "[I" = some cs.1 := va_nm_int (hE.1.2 0 (cs.1, .int) rfl).2
  have h3 : cA = cs.1 := Option.some.inj (h1.symm.trans h2)
  subst h3
  exact kk q H1 locs ls hP hD hS hl
theorem j_newZ {a : Int} {N : Nat} (ok : q_ok D cs κ cc n own rm) (harr : Cond.arrayClass .boolean ∈ q_tbl) (hN : a = (N : Int)) (hN2 : N ≤ 3000) (hcs : cl + 1 ≤ rm.cells ∧ sl + N ≤ rm.slots) (hdg : decode cc pc = .ok (.newarray .boolean, 2)) (kk : ∀ q : Nat, q_J D κ n (cl + 1) (sl + N) (ws ++ [(q, .inl (cs.2.1, N, .inl (aI (fun _ => 0))))]) lv (pc + 2) (.ref q :: st)) : q_J D κ n cl sl ws lv pc (.int (iI a) :: st) := by
  obtain ⟨p, l, e, R, s, m, args, below, meth, c, A, Q⟩ := κ
  obtain ⟨hx, hb, hml, hown, hE, hA, rfl⟩ := ok
  intro H locs ls hP hD hS hl
  have hts := hE.2.2.at args
  subst hN
  refine va_newa (atype := .boolean) (ty := .boolean) (a0 := (N, .inl (aI (fun _ => 0)))) hx hb (hts _ harr) rfl hE.1 hP hD hS hA (fun cA => q_aI0 N cA) (iI_n0 (by omega) (by omega)) (by rw [iI_cl (by omega) (by omega)]; exact Int.toNat_natCast N) (by show N * 1 ≤ 536870912; omega) hcs.1 hcs.2 hdg (fun q cA H1 hK hP hD hS => ?_)
  have h1 : s.vm.findClass "[Z" = some cA := va_nm_boolean (hK.2 3 (cA, .boolean) rfl).2
  have h2 : s.vm.findClass "[Z" = some cs.2.1 := va_nm_boolean (hE.1.2 1 (cs.2.1, .boolean) rfl).2
  have h3 : cA = cs.2.1 := Option.some.inj (h1.symm.trans h2)
  subst h3
  exact kk q H1 locs ls hP hD hS hl
theorem j_newQ {index : Nat} {a : Int} {N : Nat} (ok : q_ok D cs κ cc n own rm) (kc : q_kc κ) (hcl : Cond.classLink own index RX0 ∈ q_tbl) (hN : a = (N : Int)) (hN2 : N ≤ 3000) (hcs : cl + 1 ≤ rm.cells ∧ sl + N ≤ rm.slots) (hdg : decode cc pc = .ok (.anewarray index, 3)) (kk : ∀ q : Nat, q_J D κ n (cl + 1) (sl + N) (ws ++ [(q, .inl (cs.2.2.1, N, .inr (.inr (.inr (.inr (fun _ => none))))))]) lv (pc + 3) (.ref q :: st)) : q_J D κ n cl sl ws lv pc (.int (iI a) :: st) := by
  obtain ⟨p, l, e, R, s, m, args, below, meth, c, A, Q⟩ := κ
  obtain ⟨hx, hb, hml, hown, hE, hA, rfl⟩ := ok
  intro H locs ls hP hD hS hl
  have hts := hE.2.2.at args
  subst hN
  refine va_newq (C := RX0) hx hb hown (hts _ hcl) kc.2 hE.1 hP hD hS hA (iI_n0 (by omega) (by omega)) (by rw [iI_cl (by omega) (by omega)]; exact Int.toNat_natCast N) (by omega) hcs.1 hcs.2 hdg (fun q cA H1 hK hP hD hS => ?_)
  have h1 : s.vm.findClass "[LFormulaEditor$Formula;" = some cA := va_nmO (hK.2 3 (cA, .object RX0) rfl).2 (by decide +kernel)
  have h2 : s.vm.findClass "[LFormulaEditor$Formula;" = some cs.2.2.1 := va_nmO (hE.1.2 2 (cs.2.2.1, .object RX0) rfl).2 (by decide +kernel)
  have h3 : cA = cs.2.2.1 := Option.some.inj (h1.symm.trans h2)
  subst h3
  exact kk q H1 locs ls hP hD hS hl
theorem j_aast {a v : Nat} {f : Nat → Option Nat} {vs : List Value} {i : Int} (q0 qk : Nat) (ok : q_ok D cs κ cc n own rm) (ha : ws[q0]? = some (a, .inl (cs.2.2.1, 14, .inr (.inr (.inr (.inr f)))))) (hv : ws[qk]? = some (v, .inr (0, vs))) (hi : 0 ≤ i ∧ i < 14) (hdg : decode cc pc = .ok (.aastore, 1)) (kk : q_J D κ n cl sl (ws.set q0 (a, .inl (cs.2.2.1, 14, .inr (.inr (.inr (.inr (va_up f i.toNat (some v)))))))) lv (pc + 1) st) : q_J D κ n cl sl ws lv pc (.ref v :: .int (iI i) :: .ref a :: st) := by
  obtain ⟨p, l, e, R, s, m, args, below, meth, c, A, Q⟩ := κ
  obtain ⟨hx, hb, hml, hown, hE, hA, rfl⟩ := ok
  intro H locs ls hP hD hS hl
  refine va_astq hx hb hE.1 hP hD hS q0 2 qk 0 ha rfl hv rfl (iI_in ⟨hi.1, by omega, by omega⟩) hdg (fun H1 locs1 hP hD hS => ?_)
  rw [iI_cl hi.1 (by omega)] at hP hD
  exact kk H1 locs1 ls hP hD hS hl
theorem j_objInit {a : Nat} {idx : Nat} (ok : q_ok D cs κ cc n own rm) (hlink : Cond.methodLink own idx Lib.objectInit ∈ q_tbl) (hinst : Cond.instanceMethod Lib.objectInit ∈ q_tbl) (hcode : Cond.code Lib.objectInit ⟨#[0xb1]⟩ 1 none ∈ q_tbl) (hdg : decode cc pc = .ok (.invokespecial idx, 3)) (hroom : 1 ≤ rm.frames ∧ (st.map fun v => v.category).sum + 12 ≤ rm.locals) (kk : q_J D κ n cl sl ws lv (pc + 3) st) : q_J D κ n cl sl ws lv pc (.ref a :: st) := by
  obtain ⟨p, l, e, R, s, m, args, below, meth, c, A, Q⟩ := κ
  obtain ⟨hx, hb, hml, hown, hE, hA, rfl⟩ := ok
  intro H locs ls hP hD hS hl
  have hts := hE.2.2.at args
  refine W.objInit hx hb hown (hts _ hlink) (hts _ hinst) (hts _ hcode) rfl (hl.1.trans hml.symm) rfl hdg hroom.1 ?_ ?_
  · show 0 + _ + 12 ≤ _
    have := hroom.2
    omega
  · exact kk H locs ls hP hD hS hl
theorem j_putF {C ref : String} {T : u_T} {N ci index : Nat} {fs : List Value} {a : Nat} {v : Value} {ty : FieldType} (q0 k : Nat) (ty0 : Nat → FieldType) (ok : q_ok D cs κ cc n own rm) (kc : q_kc κ) (he : ws[q0]? = some (a, .inr (ci, fs))) (hc : vwCl[ci]? = some (C, T, N)) (hin : ∀ w ∈ u_ws C T N, w ∈ q_tbl) (hty : ∀ k, k < N → parseFieldDescriptor (T k).2.2.1 = some (ty0 k)) (hnm : ∀ a, a < N → ∀ b, b < N → a ≠ b → (T a).2.1 ≠ (T b).2.1) (hk : k < N) (hlink : Cond.fieldLink own index ref (T k).2.1 (T k).2.2.1 ∈ q_tbl) (hsame : ref = (T k).1) (hfin : (T k).2.2.2 = true) (hdecl : (T k).1 = own) (hd : parseFieldDescriptor (T k).2.2.1 = some ty) (hn : narrow ty v = v) (hfit : fits ty v = true) (hl0 : k < fs.length) (hdg : decode cc pc = .ok (.putfield index, 3)) (ws' : va_W) (hw : ws.set q0 (a, .inr (ci, fs.set k v)) = ws') (kk : q_J D κ n cl sl ws' lv (pc + 3) st) : q_J D κ n cl sl ws lv pc (v :: .ref a :: st) := by
  obtain ⟨p, l, e, R, s, m, args, below, meth, c, A, Q⟩ := κ
  obtain ⟨hx, hb, hml, hown, hE, hA, rfl⟩ := ok
  intro H locs ls hP hD hS hl
  have hts := hE.2.2.at args
  subst hw
  subst hsame
  exact va_putF hx hb hts hin ty0 hty hnm hown hE.1 hP hD hS q0 he hc k hk (hts _ hlink) (fun _ h => h) hfin kc.1 hdecl hd hn hfit hl0 hdg (fun H1 locs1 hP hD hS => kk H1 locs1 ls hP hD hS hl)
variable {y : MethodName} {bytes : ByteArray} {maxL f w mc ms index nA : Nat} {b : Nat} {As rest : List Value} {wc wr : va_W} {P : va_W → Prop}
theorem j_callI (ok : q_ok D cs κ cc n own rm) (kc : va_AO RX0 κ.2.2.2.2.1) (hM : q_Mk D cs y bytes maxL f w mc ms (.ref b :: As) wc P) (hG : GoodIn q_tbl [.code y bytes maxL none]) (hini : Cond.initialized y.cls ∈ q_tbl) (hli : Cond.methodLink own index y ∈ q_tbl) (hinm : Cond.instanceMethod y ∈ q_tbl) (hy1 : y.name = "<init>") (hd : y.cls ≠ "java/lang/invoke/MethodHandle" ∧ y.cls ≠ "java/lang/invoke/VarHandle" ∧ (parseMethodDescriptor y.desc).map (fun d => d.parameters.length) = some nA) (isC isR : List Nat) (hn2 : va_nd isC = true) (hC : isC.map (fun i => ws[i]?) = wc.map some) (hR : isR.map (fun i => ws[i]?) = wr.map some) (hnR : va_nd isR = true) (hdis : ∀ i ∈ isR, i ∉ isC) (hn : As.length = nA) (hroom : q_room rm f maxL w = true) (hcs : cl + mc ≤ rm.cells ∧ sl + ms ≤ rm.slots) (hcat : (rest.map fun v => v.category).sum ≤ 8) (hdg : decode cc pc = .ok (.invokespecial index, 3)) (hst : st0 = As.reverse ++ .ref b :: rest) (kk : ∀ w1, P w1 → q_J D κ n (cl + mc) (sl + ms) (wr ++ w1) lv (pc + 3) rest) : q_J D κ n cl sl ws lv pc st0 := by
  obtain ⟨p, l, e, R, s, m, args, below, meth, c, A, Q⟩ := κ
  obtain ⟨hx, hb, hml, hown, hE, hA, rfl⟩ := ok
  intro H locs ls hP hD hS hl
  subst hst
  have hts := hE.2.2.at args
  have hPc := q_subP hP isC hC
  have hDc := q_subD hD isC hC hn2
  have hFc := va_free (wc := wc) hD hS hA isC hC
  refine q_callk (va_runI (As := As) (rest := rest) ⟨hx, hb, hml, hown, hts⟩ (hM l H.size) (cwI nA hts hG rfl rfl rfl (hts _ hini) (hts _ hli) (hts _ hinm) hy1 hd (q_room_spec hroom)) ⟨q_Pk.blind, q_Pk.mk hPc hDc hE kc⟩ rfl hn hl.1 rfl (lv_room hcat) hdg ⟨hcs.1, hcs.2⟩) hS (fun q _ h => hFc q h) hFc (fun w1 H1 locs1 hp hP1 hD1 hk1 hS1 => ?_)
  obtain ⟨hP', hD'⟩ := va_join hP hD isC isR hC hR hnR hdis hk1 hFc hP1 hD1
  exact kk w1 hp H1 locs1 ls hP' hD' hS1 hl
theorem j_callIN (ok : q_ok D cs κ cc n own rm) (kc : va_AO RX0 κ.2.2.2.2.1) (hM : q_Mk D cs y bytes maxL f w mc ms (.ref b :: As) wc P) (hG : GoodIn q_tbl [.code y bytes maxL none]) (hini : Cond.initialized y.cls ∈ q_tbl) (hnw : (own, index, y) ∈ q_nw) (hinm : Cond.instanceMethod y ∈ q_tbl) (hy1 : y.name = "<init>") (hd : y.cls ≠ "java/lang/invoke/MethodHandle" ∧ y.cls ≠ "java/lang/invoke/VarHandle" ∧ (parseMethodDescriptor y.desc).map (fun d => d.parameters.length) = some nA) (isC isR : List Nat) (hn2 : va_nd isC = true) (hC : isC.map (fun i => ws[i]?) = wc.map some) (hR : isR.map (fun i => ws[i]?) = wr.map some) (hnR : va_nd isR = true) (hdis : ∀ i ∈ isR, i ∉ isC) (hn : As.length = nA) (hroom : q_room rm f maxL w = true) (hcs : cl + mc ≤ rm.cells ∧ sl + ms ≤ rm.slots) (hcat : (rest.map fun v => v.category).sum ≤ 8) (hdg : decode cc pc = .ok (.invokespecial index, 3)) (hst : st0 = As.reverse ++ .ref b :: rest) (kk : ∀ w1, P w1 → q_J D κ n (cl + mc) (sl + ms) (wr ++ w1) lv (pc + 3) rest) : q_J D κ n cl sl ws lv pc st0 := by
  obtain ⟨p, l, e, R, s, m, args, below, meth, c, A, Q⟩ := κ
  obtain ⟨hx, hb, hml, hown, hE, hA, rfl⟩ := ok
  intro H locs ls hP hD hS hl
  subst hst
  have hts := hE.2.2.at args
  have hPc := q_subP hP isC hC
  have hDc := q_subD hD isC hC hn2
  have hFc := va_free (wc := wc) hD hS hA isC hC
  refine q_callk (va_runIN (As := As) (rest := rest) ⟨hx, hb, hml, hown, hts⟩ (hM l H.size) ⟨va_cnB nA hts hG rfl rfl rfl (hE.2.1 _ hnw) (hts _ hini) hd (q_room_spec hroom), hy1, hts _ hinm⟩ ⟨q_Pk.blind, q_Pk.mk hPc hDc hE kc⟩ rfl hn hl.1 rfl (lv_room hcat) hdg ⟨hcs.1, hcs.2⟩) hS (fun q _ h => hFc q h) hFc (fun w1 H1 locs1 hp hP1 hD1 hk1 hS1 => ?_)
  obtain ⟨hP', hD'⟩ := va_join hP hD isC isR hC hR hnR hdis hk1 hFc hP1 hD1
  exact kk w1 hp H1 locs1 ls hP' hD' hS1 hl
theorem j_ringc {wa wb : va_W} {a : Nat} {cA : ClassId} {f g : Nat → Option Nat} (h : ∀ j, j < 14 → f j = g j) (k : q_J D κ n cl sl (wa ++ (a, .inl (cA, 14, .inr (.inr (.inr (.inr g))))) :: wb) lv pc st) : q_J D κ n cl sl (wa ++ (a, .inl (cA, 14, .inr (.inr (.inr (.inr f))))) :: wb) lv pc st := by
  obtain ⟨p, l, e, R, s, m, args, below, meth, c, A, Q⟩ := κ
  intro H locs ls hP hD hS hl
  have hcell : vp_cell cA (14, .inr (.inr (.inr (.inr f)))) = vp_cell cA (14, .inr (.inr (.inr (.inr g)))) := by
    rw [vp_cell_q, vp_cell_q]
    unfold arrV
    congr 1
    congr 1
    funext j
    show va_rf (f j.val) = va_rf (g j.val)
    rw [h j.val j.isLt]
  refine k H locs ls (fun i q hq => ?_) ⟨fun i j x y hi hj hxy => ?_, fun i q hq => ?_⟩ hS hl
  · by_cases hi : i = wa.length
    · subst hi
      rw [List.getElem?_append_right (Nat.le_refl _), Nat.sub_self] at hq
      have hq := Option.some.inj hq
      subst hq
      have := hP wa.length (a, .inl (cA, 14, .inr (.inr (.inr (.inr f))))) (by rw [List.getElem?_append_right (Nat.le_refl _), Nat.sub_self]; rfl)
      show H[a]? = some (vp_cell cA (14, .inr (.inr (.inr (.inr g)))))
      rw [← hcell]
      exact this
    · refine hP i q ?_
      rw [← hq]
      rcases Nat.lt_or_gt_of_ne hi with h1 | h1
      · rw [List.getElem?_append_left h1, List.getElem?_append_left h1]
      · rw [List.getElem?_append_right (by omega), List.getElem?_append_right (by omega)]
        obtain ⟨z, hz⟩ : ∃ z, i - wa.length = z + 1 := ⟨i - wa.length - 1, by omega⟩
        rw [hz]; rfl
  · have same : ∀ (i : Nat) (x : Nat × va_E), (wa ++ (a, .inl (cA, 14, .inr (.inr (.inr (.inr g))))) :: wb)[i]? = some x → ∃ x0, (wa ++ (a, .inl (cA, 14, .inr (.inr (.inr (.inr f))))) :: wb)[i]? = some x0 ∧ x0.1 = x.1 := by
      intro i x hx
      by_cases hi : i = wa.length
      · subst hi
        rw [List.getElem?_append_right (Nat.le_refl _), Nat.sub_self] at hx
        have hx := Option.some.inj hx
        subst hx
        exact ⟨(a, .inl (cA, 14, .inr (.inr (.inr (.inr f))))), by rw [List.getElem?_append_right (Nat.le_refl _), Nat.sub_self]; rfl, rfl⟩
      · refine ⟨x, ?_, rfl⟩
        rw [← hx]
        rcases Nat.lt_or_gt_of_ne hi with h1 | h1
        · rw [List.getElem?_append_left h1, List.getElem?_append_left h1]
        · rw [List.getElem?_append_right (by omega), List.getElem?_append_right (by omega)]
          obtain ⟨z, hz⟩ : ∃ z, i - wa.length = z + 1 := ⟨i - wa.length - 1, by omega⟩
          rw [hz]; rfl
    obtain ⟨x0, h1, h2⟩ := same i x hi
    obtain ⟨y0, h3, h4⟩ := same j y hj
    exact hD.1 i j x0 y0 h1 h3 (h2.trans (hxy.trans h4.symm))
  · by_cases hi : i = wa.length
    · subst hi
      rw [List.getElem?_append_right (Nat.le_refl _), Nat.sub_self] at hq
      have hq := Option.some.inj hq
      subst hq
      exact hD.2 wa.length (a, .inl (cA, 14, .inr (.inr (.inr (.inr f))))) (by rw [List.getElem?_append_right (Nat.le_refl _), Nat.sub_self]; rfl)
    · refine hD.2 i q ?_
      rw [← hq]
      rcases Nat.lt_or_gt_of_ne hi with h1 | h1
      · rw [List.getElem?_append_left h1, List.getElem?_append_left h1]
      · rw [List.getElem?_append_right (by omega), List.getElem?_append_right (by omega)]
        obtain ⟨z, hz⟩ : ∃ z, i - wa.length = z + 1 := ⟨i - wa.length - 1, by omega⟩
        rw [hz]; rfl
theorem j_eqW {cl2 sl2 : Nat} {ws2 : va_W} (h1 : cl = cl2) (h2 : sl = sl2) (h3 : ws = ws2) (k : q_J D κ n cl2 sl2 ws2 lv pc st) : q_J D κ n cl sl ws lv pc st := by
  subst h1 h2 h3
  exact k
end QNJ
/-! the order of a world's cells does not matter -/
theorem va_P_mem {D : va_G} {cl : List vw_C} {ws : va_W} {H : Heap} : va_P D cl ws H ↔ ∀ q ∈ ws, va_at D cl q H := by
  constructor
  · intro h q hq
    obtain ⟨k, hk⟩ := List.getElem?_of_mem hq
    exact h k q hk
  · intro h k q hk
    exact h q (List.mem_of_getElem? hk)
theorem va_D_mem {A : Nat → Prop} {ws : va_W} : va_D A ws ↔ ws.Pairwise (fun p q => p.1 ≠ q.1) ∧ ∀ q ∈ ws, A q.1 := by
  constructor
  · intro h
    refine ⟨List.pairwise_iff_getElem.mpr (fun i j hi hj hij e => ?_), fun q hq => ?_⟩
    · have := h.1 i j _ _ (List.getElem?_eq_getElem hi) (List.getElem?_eq_getElem hj) e
      omega
    · obtain ⟨k, hk⟩ := List.getElem?_of_mem hq
      exact h.2 k q hk
  · intro h
    refine ⟨fun i j p q hp hq e => ?_, fun k q hk => h.2 q (List.mem_of_getElem? hk)⟩
    obtain ⟨hi, rfl⟩ := List.getElem?_eq_some_iff.mp hp
    obtain ⟨hj, rfl⟩ := List.getElem?_eq_some_iff.mp hq
    have hp := List.pairwise_iff_getElem.mp h.1
    rcases Nat.lt_trichotomy i j with h1 | h1 | h1
    · exact absurd e (hp i j hi hj h1)
    · exact h1
    · exact absurd e.symm (hp j i hj hi h1)
section QNP
variable {D : va_G} {cs : q_CS} {κ : q_X} {cc : ByteArray} {n cl sl : Nat} {own : String} {rm : Room} {ws ws1 G : va_W} {lv : List (Nat × Value)} {pc : Nat} {st st0 : List Value}
theorem j_perm {ws2 : va_W} (h : ws.Perm ws2) (k : q_J D κ n cl sl ws2 lv pc st) : q_J D κ n cl sl ws lv pc st := by
  obtain ⟨p, l, e, R, s, m, args, below, meth, c, A, Q⟩ := κ
  intro H locs ls hP hD hS hl
  rw [va_P_mem] at hP
  rw [va_D_mem] at hD
  refine k H locs ls (va_P_mem.mpr fun q hq => hP q (h.mem_iff.mpr hq)) (va_D_mem.mpr ⟨(h.pairwise_iff (fun e => Ne.symm e)).mp hD.1, fun q hq => hD.2 q (h.mem_iff.mpr hq)⟩) hS hl
theorem q_pr1 (A B C : va_W) : (A ++ B ++ C).Perm (A ++ C ++ B) := by
  rw [List.append_assoc, List.append_assoc]
  exact List.Perm.append_left A List.perm_append_comm
theorem q_kc.ao (h : q_kc κ) : va_AO RX0 κ.2.2.2.2.1 := by
  obtain ⟨p, l, e, R, s, m, args, below, meth, c, A, Q⟩ := κ
  exact h.2
theorem j_newG {index ci N : Nat} {C : String} {T : u_T} {fs : List Value} (ty : Nat → FieldType) (ok : q_ok D cs κ cc n own rm) (hin : ∀ w ∈ u_ws C T N, w ∈ q_tbl) (hty : ∀ k, k < N → parseFieldDescriptor (T k).2.2.1 = some (ty k)) (hcl : Cond.classLink own index C ∈ q_tbl) (hinst : Cond.instantiable C N ∈ q_tbl) (hini : Cond.initialized C ∈ q_tbl) (hc : vwCl[ci]? = some (C, T, N)) (hfs : ∀ j, j < N → defaultValue (ty j) = vp_V fs j) (hcs : cl + 1 ≤ rm.cells ∧ sl + N ≤ rm.slots) (hdg : decode cc pc = .ok (.new index, 3)) (kk : ∀ q : Nat, q_J D κ n (cl + 1) (sl + N) ((ws1 ++ [(q, .inr (ci, fs))]) ++ G) lv (pc + 3) (.ref q :: st)) : q_J D κ n cl sl (ws1 ++ G) lv pc st :=
  j_new ty ok hin hty hcl hinst hini hc hfs hcs hdg (fun q => j_perm (q_pr1 _ _ _) (kk q))
variable {y : MethodName} {bytes : ByteArray} {maxL f w mc ms index nA : Nat} {b : Nat} {As rest : List Value} {wc wr : va_W} {P : va_W → Prop}
theorem q_disG {isC isR : List Nat} {N : Nat} (h1 : ∀ i ∈ isR, i ∉ isC) (h2 : ∀ i ∈ isC, i < ws1.length) : ∀ i ∈ isR ++ List.range' ws1.length N, i ∉ isC := by
  intro i hi hc
  rcases List.mem_append.mp hi with h | h
  · exact h1 i h hc
  · have := h2 i hc
    have := (List.mem_range'_1.mp h).1
    omega
theorem q_mapL {isC : List Nat} (hC : isC.map (fun i => ws1[i]?) = wc.map some) : isC.map (fun i => (ws1 ++ G)[i]?) = wc.map some := by
  have hlt := q_mem_lt hC
  rw [← hC]
  exact List.map_congr_left (fun i hi => List.getElem?_append_left (hlt i hi))
theorem j_callIG (ok : q_ok D cs κ cc n own rm) (kc : va_AO RX0 κ.2.2.2.2.1) (hM : q_Mk D cs y bytes maxL f w mc ms (.ref b :: As) wc P) (hG : GoodIn q_tbl [.code y bytes maxL none]) (hini : Cond.initialized y.cls ∈ q_tbl) (hli : Cond.methodLink own index y ∈ q_tbl) (hinm : Cond.instanceMethod y ∈ q_tbl) (hy1 : y.name = "<init>") (hd : y.cls ≠ "java/lang/invoke/MethodHandle" ∧ y.cls ≠ "java/lang/invoke/VarHandle" ∧ (parseMethodDescriptor y.desc).map (fun d => d.parameters.length) = some nA) (isC isR : List Nat) (hn2 : va_nd isC = true) (hC : isC.map (fun i => ws1[i]?) = wc.map some) (hR : isR.map (fun i => ws1[i]?) = wr.map some) (hnR : va_nd isR = true) (hdis : ∀ i ∈ isR, i ∉ isC) (hn : As.length = nA) (hroom : q_room rm f maxL w = true) (hcs : cl + mc ≤ rm.cells ∧ sl + ms ≤ rm.slots) (hcat : (rest.map fun v => v.category).sum ≤ 8) (hdg : decode cc pc = .ok (.invokespecial index, 3)) (hst : st0 = As.reverse ++ .ref b :: rest) (kk : ∀ w1, P w1 → q_J D κ n (cl + mc) (sl + ms) ((wr ++ w1) ++ G) lv (pc + 3) rest) : q_J D κ n cl sl (ws1 ++ G) lv pc st0 := by
  have hlt := q_mem_lt hC
  have hltR := q_mem_lt hR
  refine j_callI (wr := wr ++ G) ok kc hM hG hini hli hinm hy1 hd isC (isR ++ List.range' ws1.length G.length) hn2 (q_mapL hC) (q_mapG hR) ?_ (q_disG hdis hlt) hn hroom hcs hcat hdg hst (fun w1 hw1 => j_perm (q_pr1 _ _ _) (kk w1 hw1))
  refine q_nd_app _ _ hnR (q_nd_range _ _) (fun z hz hz2 => ?_)
  have h1 := hltR z hz
  have h2 := List.mem_range'_1.mp hz2
  omega
theorem j_callING (ok : q_ok D cs κ cc n own rm) (kc : va_AO RX0 κ.2.2.2.2.1) (hM : q_Mk D cs y bytes maxL f w mc ms (.ref b :: As) wc P) (hG : GoodIn q_tbl [.code y bytes maxL none]) (hini : Cond.initialized y.cls ∈ q_tbl) (hnw : (own, index, y) ∈ q_nw) (hinm : Cond.instanceMethod y ∈ q_tbl) (hy1 : y.name = "<init>") (hd : y.cls ≠ "java/lang/invoke/MethodHandle" ∧ y.cls ≠ "java/lang/invoke/VarHandle" ∧ (parseMethodDescriptor y.desc).map (fun d => d.parameters.length) = some nA) (isC isR : List Nat) (hn2 : va_nd isC = true) (hC : isC.map (fun i => ws1[i]?) = wc.map some) (hR : isR.map (fun i => ws1[i]?) = wr.map some) (hnR : va_nd isR = true) (hdis : ∀ i ∈ isR, i ∉ isC) (hn : As.length = nA) (hroom : q_room rm f maxL w = true) (hcs : cl + mc ≤ rm.cells ∧ sl + ms ≤ rm.slots) (hcat : (rest.map fun v => v.category).sum ≤ 8) (hdg : decode cc pc = .ok (.invokespecial index, 3)) (hst : st0 = As.reverse ++ .ref b :: rest) (kk : ∀ w1, P w1 → q_J D κ n (cl + mc) (sl + ms) ((wr ++ w1) ++ G) lv (pc + 3) rest) : q_J D κ n cl sl (ws1 ++ G) lv pc st0 := by
  have hlt := q_mem_lt hC
  have hltR := q_mem_lt hR
  refine j_callIN (wr := wr ++ G) ok kc hM hG hini hnw hinm hy1 hd isC (isR ++ List.range' ws1.length G.length) hn2 (q_mapL hC) (q_mapG hR) ?_ (q_disG hdis hlt) hn hroom hcs hcat hdg hst (fun w1 hw1 => j_perm (q_pr1 _ _ _) (kk w1 hw1))
  refine q_nd_app _ _ hnR (q_nd_range _ _) (fun z hz hz2 => ?_)
  have h1 := hltR z hz
  have h2 := List.mem_range'_1.mp hz2
  omega
end QNP
section QNS
variable {D : va_G} {cs : q_CS} {y : MethodName} {cc : ByteArray} {mL : Nat} {f w mc ms : Nat} {av : List Value} {ws : va_W} {P : va_W → Prop}
theorem q_startk (lv0 : List (Nat × Value)) (own : String) (hy0 : y.cls = own) (hy : plainName own = true) (hy1 : y.name = "<init>") (hlv : lv_args 0 av = lv0) (hle : (lg_sl av).length ≤ mL) (body : ∀ κ : q_X, q_ok D cs κ cc mL own (q_rk f w mc ms) → q_kc κ → (∀ (ws' : va_W) (lv : List (Nat × Value)) (pc : Nat), P ws' → decode cc pc = .ok (.return_, 1) → q_J D κ mL mc ms ws' lv pc []) → q_J D κ mL 0 0 ws lv0 0 []) : q_Mk D cs y cc mL f w mc ms av ws P := by
  intro l sz
  subst hy0
  refine Met.ofW (cc := cc) (maxL := mL) (ret := none) hy rfl ?_
  intro p e s m args below meth c s₁ B hml hv
  obtain ⟨rfl, hsz, hP, hE, hD0, hO⟩ := hv
  have hx := B.exec
  have hb := B.bytes
  have hr := B.returns
  have hown : s.vm.findClass y.cls = some m.cls := findClass_of_methodNamed B.named
  have hlocks := B.notSynchronized
  have hin : meth.name = "<init>" := (name_of_methodNamed B.named B.method).1.trans hy1
  subst hsz
  have hD := hD0.self (sz := s.heap.size)
  have hS : va_S (va_A ws s.heap.size) s.heap s.heap [] := va_S.rf
  have hl := lv_entry av (n := mL) hle
  rw [hlv] at hl
  rw [lg_entry_eq]
  have K := body (p, l, e, q_rk f w mc ms, s, m, av.toArray, below, meth, c, va_A ws s.heap.size, MQ below (q_Qk D cs (va_A ws s.heap.size) P) av.toArray s mc ms (va_A ws s.heap.size)) (by show _ ∧ _; exact ⟨hx, hb, hml, hown, hE, fun q h => Or.inr h, rfl⟩) (by show _ ∧ _; exact ⟨hin, hO⟩) (by
    intro ws' lv pc hp hdg H locs ls hP hD hS hl
    exact W.vret hx hb hr (fun t ht hW => ⟨⟨rfl, ws', hp, by show _ ∧ _; exact ⟨by rw [ht]; exact hP, hE.moved hW, hD⟩⟩, hS.F ht⟩) hS.2.2 hdg)
  exact K s.heap [] _ hP hD hS hl
end QNS
