/-! one judgement: the machine stands at pc with these locals, this stack and this world; all that is fixed lies in one tuple -/
abbrev q_X : Type := Program × Launch × Env × Room × State × MethodId × Array Value × List Frame × Method × Code × (Nat → Prop) × (State → Prop)
abbrev q_CS : Type := ClassId × ClassId × ClassId × ClassId
def q_tbl : List Cond := lw_tbl.filter goodWord
theorem q_in {w : Cond} (i : Nat) (h : lw_tbl[i]? = some w) (hg : goodWord w = true) : w ∈ q_tbl := List.mem_filter.mpr ⟨List.mem_of_getElem? h, hg⟩
theorem q_ins {ws : List Cond} (ps : List Nat) (hp : ws = ps.filterMap (fun i => lw_tbl[i]?)) (h : ws.all goodWord = true) : GoodIn q_tbl ws := by
  intro w hw
  have h1 := List.all_eq_true.mp h w hw
  rw [hp] at hw
  obtain ⟨i, -, hi⟩ := List.mem_filterMap.mp hw
  exact ⟨q_in i hi h1, good_of_word h1⟩
def q_PAY (s : State) : Prop := ∀ w ∈ q_tbl, ∀ (a' : Array Value) (U : State), s.WarmedH U.vm → w.before a' U = true
theorem q_PAY.of {s : State} {args : Array Value} (h : ∀ w ∈ q_tbl, w.before args s = true) : q_PAY s := pay_in h (fun w hw => ⟨hw, good_of_word (List.mem_filter.mp hw).2⟩)
theorem q_PAY.moved {s U : State} (hW : s.WarmedH U.vm) (h : q_PAY s) : q_PAY U := fun w hw a' V hV => h w hw a' V (hW.trans hV)
theorem q_PAY.at {s : State} (h : q_PAY s) (args : Array Value) : ∀ w ∈ q_tbl, w.before args s = true := fun w hw => h w hw args s (State.WarmedH.refl s)
def q_nw : List (String × Nat × MethodName) := [("FormulaEditor", 21, ⟨"FormulaEditor$Keep", "<init>", "()V"⟩), ("FormulaEditor", 47, ⟨"FormulaEditor$Reader", "<init>", "()V"⟩), ("FormulaEditor", 54, ⟨"FormulaEditor$Writer", "<init>", "()V"⟩), ("FormulaEditor", 61, ⟨"FormulaEditor$Picture", "<init>", "()V"⟩), ("FormulaEditor$Reader", 100, ⟨"FormulaEditor", "isLetter", "(I)Z"⟩), ("FormulaEditor$Reader", 103, ⟨"FormulaEditor", "isDigit", "(I)Z"⟩), ("FormulaEditor$Reader", 91, ⟨"FormulaEditor", "isOperator", "(I)Z"⟩), ("FormulaEditor$Writer", 32, ⟨"FormulaEditor", "opens", "(I)Z"⟩), ("FormulaEditor$Writer", 64, ⟨"FormulaEditor", "isLetter", "(I)Z"⟩), ("FormulaEditor$Writer", 67, ⟨"FormulaEditor", "isDigit", "(I)Z"⟩), ("FormulaEditor$Writer", 58, ⟨"FormulaEditor", "isScript", "(I)Z"⟩), ("FormulaEditor$Writer", 73, ⟨"FormulaEditor", "startsItem", "(I)Z"⟩), ("FormulaEditor$Writer", 55, ⟨"FormulaEditor", "closes", "(I)Z"⟩), ("FormulaEditor$Marks", 45, ⟨"FormulaEditor", "opens", "(I)Z"⟩), ("FormulaEditor$Marks", 35, ⟨"FormulaEditor", "startsItem", "(I)Z"⟩), ("FormulaEditor$Formula", 54, ⟨"FormulaEditor", "startsItem", "(I)Z"⟩), ("FormulaEditor$Marks", 48, ⟨"FormulaEditor", "closes", "(I)Z"⟩), ("FormulaEditor$Marks", 51, ⟨"FormulaEditor", "endsItem", "(I)Z"⟩), ("FormulaEditor$Picture", 37, ⟨"FormulaEditor", "opens", "(I)Z"⟩), ("FormulaEditor$Picture", 45, ⟨"FormulaEditor", "startsItem", "(I)Z"⟩)]
def q_NW (U : State) : Prop := ∀ q ∈ q_nw, va_Nw (.methodLinkNest q.1 q.2.1 q.2.2 "FormulaEditor") U
theorem q_NW.moved {s U : State} (hW : s.WarmedH U.vm) (h : q_NW s) : q_NW U := fun q hq => va_Nw.warmM hW (h q hq)
abbrev q_TY (cs : q_CS) : List (ClassId × FieldType) := [(cs.1, .int), (cs.2.1, .boolean), (cs.2.2.1, .object "FormulaEditor$Formula")]
def q_EV (D : va_G) (cs : q_CS) (U : State) : Prop := va_K D vwCl (q_TY cs) U ∧ q_NW U ∧ q_PAY U
theorem q_EV.moved {D : va_G} {cs : q_CS} {s U : State} (hW : s.WarmedH U.vm) (h : q_EV D cs s) : q_EV D cs U := ⟨va_K.moved hW.alike h.1, h.2.1.moved hW, h.2.2.moved hW⟩
theorem q_EV.same {D : va_G} {cs : q_CS} {u U : State} (e : u.vm = U.vm) (h : q_EV D cs u) : q_EV D cs U := h.moved (by rw [← e]; exact State.WarmedH.refl u)
def q_J (D : va_G) (κ : q_X) (n cl sl : Nat) (ws : va_W) (lv : List (Nat × Value)) (pc : Nat) (st : List Value) : Prop :=
  match κ with
  | (p, l, e, R, s, m, args, below, meth, c, A, Q) => ∀ (H : Heap) (locs : List Loc) (ls : Array Slot), va_P D vwCl ws H → va_D A ws → va_S A s.heap H locs → lv_has ls n lv → W p l e R s m args below meth c H locs cl sl Q (F0 m pc ls st)
def q_ok (D : va_G) (cs : q_CS) (κ : q_X) (cc : ByteArray) (n : Nat) (own : String) (rm : Room) : Prop :=
  match κ with
  | (p, _, _, R, s, m, _, _, _, c, A, _) => p.tables.exec = Jvm.exec ∧ c.code = cc ∧ c.maxLocals = n ∧ s.vm.findClass own = some m.cls ∧ q_EV D cs s ∧ (∀ q, s.heap.size ≤ q → A q) ∧ R = rm
section QJ
variable {D : va_G} {cs : q_CS} {κ : q_X} {cc : ByteArray} {n cl sl : Nat} {own : String} {rm : Room} {ws : va_W} {lv : List (Nat × Value)} {pc : Nat} {st : List Value}
theorem j_iconst {i : Int} (ok : q_ok D cs κ cc n own rm) (hdg : decode cc pc = .ok (.iconst i, 1)) (k : q_J D κ n cl sl ws lv (pc + 1) (.int (iI i) :: st)) : q_J D κ n cl sl ws lv pc st := by
  obtain ⟨p, l, e, R, s, m, args, below, meth, c, A, Q⟩ := κ
  obtain ⟨hx, hb, hml, hown, hE, hA, hR⟩ := ok
  intro H locs ls hP hD hS hl
  exact lv_iconst hx hb hdg rfl (k H locs ls hP hD hS hl)
theorem j_bipush {i : Int} (ok : q_ok D cs κ cc n own rm) (hdg : decode cc pc = .ok (.bipush i, 2)) (hv : (Int8.ofInt i).toInt32 = iI i) (k : q_J D κ n cl sl ws lv (pc + 2) (.int (iI i) :: st)) : q_J D κ n cl sl ws lv pc st := by
  obtain ⟨p, l, e, R, s, m, args, below, meth, c, A, Q⟩ := κ
  obtain ⟨hx, hb, hml, hown, hE, hA, hR⟩ := ok
  intro H locs ls hP hD hS hl
  exact lv_bipush hx hb hdg hv (k H locs ls hP hD hS hl)
theorem j_sipush {i : Int} (ok : q_ok D cs κ cc n own rm) (hdg : decode cc pc = .ok (.sipush i, 3)) (hv : (Int16.ofInt i).toInt32 = iI i) (k : q_J D κ n cl sl ws lv (pc + 3) (.int (iI i) :: st)) : q_J D κ n cl sl ws lv pc st := by
  obtain ⟨p, l, e, R, s, m, args, below, meth, c, A, Q⟩ := κ
  obtain ⟨hx, hb, hml, hown, hE, hA, hR⟩ := ok
  intro H locs ls hP hD hS hl
  exact lv_sipush hx hb hdg hv (k H locs ls hP hD hS hl)
theorem j_lconst {i : Fin 2} (v : Int) (ok : q_ok D cs κ cc n own rm) (hdg : decode cc pc = .ok (.lconst i, 1)) (hv : Int64.ofNat (i : Nat) = iL v) (k : q_J D κ n cl sl ws lv (pc + 1) (.long (iL v) :: st)) : q_J D κ n cl sl ws lv pc st := by
  obtain ⟨p, l, e, R, s, m, args, below, meth, c, A, Q⟩ := κ
  obtain ⟨hx, hb, hml, hown, hE, hA, hR⟩ := ok
  intro H locs ls hP hD hS hl
  exact lv_lconst hx hb hdg hv (k H locs ls hP hD hS hl)
theorem j_ldc2 {i : Nat} (v : Int) (ok : q_ok D cs κ cc n own rm) (hdg : decode cc pc = .ok (.ldc2_w i, 3)) (hc : Cond.constantLong own i (iL v) ∈ q_tbl) (k : q_J D κ n cl sl ws lv (pc + 3) (.long (iL v) :: st)) : q_J D κ n cl sl ws lv pc st := by
  obtain ⟨p, l, e, R, s, m, args, below, meth, c, A, Q⟩ := κ
  obtain ⟨hx, hb, hml, hown, hE, hA, hR⟩ := ok
  intro H locs ls hP hD hS hl
  exact lv_ldc2 hx hb hown (hE.2.2.at args _ hc) hdg (k H locs ls hP hD hS hl)
theorem j_iload_n {f : Fin 4} {i : Nat} {a : Int} (x : Nat) (ok : q_ok D cs κ cc n own rm) (hdg : decode cc pc = .ok (.iload_n f, 1)) (hi : (f : Nat) = i) (hk : lv[x]? = some (i, .int (iI a))) (k : q_J D κ n cl sl ws lv (pc + 1) (.int (iI a) :: st)) : q_J D κ n cl sl ws lv pc st := by
  obtain ⟨p, l, e, R, s, m, args, below, meth, c, A, Q⟩ := κ
  obtain ⟨hx, hb, hml, hown, hE, hA, hR⟩ := ok
  intro H locs ls hP hD hS hl
  exact lv_iload_n hx hb hdg hi (lv_at hl x hk) (k H locs ls hP hD hS hl)
theorem j_iload {i : Nat} {a : Int} (x : Nat) (ok : q_ok D cs κ cc n own rm) (hdg : decode cc pc = .ok (.iload i, 2)) (hk : lv[x]? = some (i, .int (iI a))) (k : q_J D κ n cl sl ws lv (pc + 2) (.int (iI a) :: st)) : q_J D κ n cl sl ws lv pc st := by
  obtain ⟨p, l, e, R, s, m, args, below, meth, c, A, Q⟩ := κ
  obtain ⟨hx, hb, hml, hown, hE, hA, hR⟩ := ok
  intro H locs ls hP hD hS hl
  exact lv_iload hx hb hdg (lv_at hl x hk) (k H locs ls hP hD hS hl)
theorem j_lload_n {f : Fin 4} {i : Nat} {a : Int} (x : Nat) (ok : q_ok D cs κ cc n own rm) (hdg : decode cc pc = .ok (.lload_n f, 1)) (hi : (f : Nat) = i) (hk : lv[x]? = some (i, .long (iL a))) (k : q_J D κ n cl sl ws lv (pc + 1) (.long (iL a) :: st)) : q_J D κ n cl sl ws lv pc st := by
  obtain ⟨p, l, e, R, s, m, args, below, meth, c, A, Q⟩ := κ
  obtain ⟨hx, hb, hml, hown, hE, hA, hR⟩ := ok
  intro H locs ls hP hD hS hl
  exact lv_lload_n hx hb hdg hi (lv_at hl x hk) (k H locs ls hP hD hS hl)
theorem j_lload {i : Nat} {a : Int} (x : Nat) (ok : q_ok D cs κ cc n own rm) (hdg : decode cc pc = .ok (.lload i, 2)) (hk : lv[x]? = some (i, .long (iL a))) (k : q_J D κ n cl sl ws lv (pc + 2) (.long (iL a) :: st)) : q_J D κ n cl sl ws lv pc st := by
  obtain ⟨p, l, e, R, s, m, args, below, meth, c, A, Q⟩ := κ
  obtain ⟨hx, hb, hml, hown, hE, hA, hR⟩ := ok
  intro H locs ls hP hD hS hl
  exact lv_lload hx hb hdg (lv_at hl x hk) (k H locs ls hP hD hS hl)
theorem j_aload_n {f : Fin 4} {i : Nat} {a : Nat} (x : Nat) (ok : q_ok D cs κ cc n own rm) (hdg : decode cc pc = .ok (.aload_n f, 1)) (hi : (f : Nat) = i) (hk : lv[x]? = some (i, .ref a)) (k : q_J D κ n cl sl ws lv (pc + 1) (.ref a :: st)) : q_J D κ n cl sl ws lv pc st := by
  obtain ⟨p, l, e, R, s, m, args, below, meth, c, A, Q⟩ := κ
  obtain ⟨hx, hb, hml, hown, hE, hA, hR⟩ := ok
  intro H locs ls hP hD hS hl
  exact lv_aload_n hx hb hdg hi (lv_at hl x hk) (k H locs ls hP hD hS hl)
theorem j_aload {i : Nat} {a : Nat} (x : Nat) (ok : q_ok D cs κ cc n own rm) (hdg : decode cc pc = .ok (.aload i, 2)) (hk : lv[x]? = some (i, .ref a)) (k : q_J D κ n cl sl ws lv (pc + 2) (.ref a :: st)) : q_J D κ n cl sl ws lv pc st := by
  obtain ⟨p, l, e, R, s, m, args, below, meth, c, A, Q⟩ := κ
  obtain ⟨hx, hb, hml, hown, hE, hA, hR⟩ := ok
  intro H locs ls hP hD hS hl
  exact lv_aload hx hb hdg (lv_at hl x hk) (k H locs ls hP hD hS hl)
theorem j_istore_n {f : Fin 4} {i : Nat} {lv' : List (Nat × Value)} {a : Int} (ok : q_ok D cs κ cc n own rm) (hdg : decode cc pc = .ok (.istore_n f, 1)) (hi : (f : Nat) = i) (hn : i < n) (hlv : (i, Value.int (iI a)) :: lv.filter (fun q => !(q.1 == i) && !(q.1 + 1 == i && q.2.category == 2)) = lv') (k : q_J D κ n cl sl ws lv' (pc + 1) st) : q_J D κ n cl sl ws lv pc (Value.int (iI a) :: st) := by
  obtain ⟨p, l, e, R, s, m, args, below, meth, c, A, Q⟩ := κ
  obtain ⟨hx, hb, hml, hown, hE, hA, hR⟩ := ok
  intro H locs ls hP hD hS hl
  exact lv_istore_n hx hb hdg hi hl hn hlv (fun ls' hl' => k H locs ls' hP hD hS hl')
theorem j_istore {i : Nat} {lv' : List (Nat × Value)} {a : Int} (ok : q_ok D cs κ cc n own rm) (hdg : decode cc pc = .ok (.istore i, 2)) (hn : i < n) (hlv : (i, Value.int (iI a)) :: lv.filter (fun q => !(q.1 == i) && !(q.1 + 1 == i && q.2.category == 2)) = lv') (k : q_J D κ n cl sl ws lv' (pc + 2) st) : q_J D κ n cl sl ws lv pc (Value.int (iI a) :: st) := by
  obtain ⟨p, l, e, R, s, m, args, below, meth, c, A, Q⟩ := κ
  obtain ⟨hx, hb, hml, hown, hE, hA, hR⟩ := ok
  intro H locs ls hP hD hS hl
  exact lv_istore hx hb hdg hl hn hlv (fun ls' hl' => k H locs ls' hP hD hS hl')
theorem j_astore_n {f : Fin 4} {i : Nat} {lv' : List (Nat × Value)} {a : Nat} (ok : q_ok D cs κ cc n own rm) (hdg : decode cc pc = .ok (.astore_n f, 1)) (hi : (f : Nat) = i) (hn : i < n) (hlv : (i, Value.ref a) :: lv.filter (fun q => !(q.1 == i) && !(q.1 + 1 == i && q.2.category == 2)) = lv') (k : q_J D κ n cl sl ws lv' (pc + 1) st) : q_J D κ n cl sl ws lv pc (Value.ref a :: st) := by
  obtain ⟨p, l, e, R, s, m, args, below, meth, c, A, Q⟩ := κ
  obtain ⟨hx, hb, hml, hown, hE, hA, hR⟩ := ok
  intro H locs ls hP hD hS hl
  exact lv_astore_n hx hb hdg hi hl hn hlv (fun ls' hl' => k H locs ls' hP hD hS hl')
theorem j_astore {i : Nat} {lv' : List (Nat × Value)} {a : Nat} (ok : q_ok D cs κ cc n own rm) (hdg : decode cc pc = .ok (.astore i, 2)) (hn : i < n) (hlv : (i, Value.ref a) :: lv.filter (fun q => !(q.1 == i) && !(q.1 + 1 == i && q.2.category == 2)) = lv') (k : q_J D κ n cl sl ws lv' (pc + 2) st) : q_J D κ n cl sl ws lv pc (Value.ref a :: st) := by
  obtain ⟨p, l, e, R, s, m, args, below, meth, c, A, Q⟩ := κ
  obtain ⟨hx, hb, hml, hown, hE, hA, hR⟩ := ok
  intro H locs ls hP hD hS hl
  exact lv_astore hx hb hdg hl hn hlv (fun ls' hl' => k H locs ls' hP hD hS hl')
theorem j_lstore_n {f : Fin 4} {i : Nat} {lv' : List (Nat × Value)} {a : Int} (ok : q_ok D cs κ cc n own rm) (hdg : decode cc pc = .ok (.lstore_n f, 1)) (hi : (f : Nat) = i) (hn : i + 1 < n) (hlv : (i, Value.long (iL a)) :: lv.filter (fun q => !(q.1 == i) && (!(q.1 == i + 1) && !(q.1 + 1 == i && q.2.category == 2))) = lv') (k : q_J D κ n cl sl ws lv' (pc + 1) st) : q_J D κ n cl sl ws lv pc (Value.long (iL a) :: st) := by
  obtain ⟨p, l, e, R, s, m, args, below, meth, c, A, Q⟩ := κ
  obtain ⟨hx, hb, hml, hown, hE, hA, hR⟩ := ok
  intro H locs ls hP hD hS hl
  exact lv_lstore_n hx hb hdg hi hl hn hlv (fun ls' hl' => k H locs ls' hP hD hS hl')
theorem j_lstore {i : Nat} {lv' : List (Nat × Value)} {a : Int} (ok : q_ok D cs κ cc n own rm) (hdg : decode cc pc = .ok (.lstore i, 2)) (hn : i + 1 < n) (hlv : (i, Value.long (iL a)) :: lv.filter (fun q => !(q.1 == i) && (!(q.1 == i + 1) && !(q.1 + 1 == i && q.2.category == 2))) = lv') (k : q_J D κ n cl sl ws lv' (pc + 2) st) : q_J D κ n cl sl ws lv pc (Value.long (iL a) :: st) := by
  obtain ⟨p, l, e, R, s, m, args, below, meth, c, A, Q⟩ := κ
  obtain ⟨hx, hb, hml, hown, hE, hA, hR⟩ := ok
  intro H locs ls hP hD hS hl
  exact lv_lstore hx hb hdg hl hn hlv (fun ls' hl' => k H locs ls' hP hD hS hl')
theorem j_iinc {i : Nat} {d : Int} {a : Int} {lv' : List (Nat × Value)} (x : Nat) (ok : q_ok D cs κ cc n own rm) (hdg : decode cc pc = .ok (.iinc i d, 3)) (hk : lv[x]? = some (i, .int (iI a))) (hn : i < n) (hlv : (i, Value.int (iI (a + d))) :: lv.filter (fun q => !(q.1 == i) && !(q.1 + 1 == i && q.2.category == 2)) = lv') (k : q_J D κ n cl sl ws lv' (pc + 3) st) : q_J D κ n cl sl ws lv pc st := by
  obtain ⟨p, l, e, R, s, m, args, below, meth, c, A, Q⟩ := κ
  obtain ⟨hx, hb, hml, hown, hE, hA, hR⟩ := ok
  intro H locs ls hP hD hS hl
  exact lv_iinc hx hb hdg hl hk (iI_add a d) hn hlv (fun ls' hl' => k H locs ls' hP hD hS hl')
theorem j_lv {lv' : List (Nat × Value)} (ks : List Nat) (h : lv_pick lv ks = lv') (k : q_J D κ n cl sl ws lv' pc st) : q_J D κ n cl sl ws lv pc st := by
  obtain ⟨p, l, e, R, s, m, args, below, meth, c, A, Q⟩ := κ
  intro H locs ls hP hD hS hl
  exact k H locs ls hP hD hS (lv_sub hl ks h)
theorem j_eq {ws' : va_W} {lv' : List (Nat × Value)} {pc' : Nat} {st' : List Value} (h1 : ws = ws') (h2 : lv = lv') (h3 : pc = pc') (h4 : st = st') (k : q_J D κ n cl sl ws' lv' pc' st') : q_J D κ n cl sl ws lv pc st := by
  subst h1; subst h2; subst h3; subst h4; exact k
theorem j_iadd {a b : Int} (ok : q_ok D cs κ cc n own rm) (hdg : decode cc pc = .ok (.iadd, 1)) (k : q_J D κ n cl sl ws lv (pc + 1) (.int (iI (a + b)) :: st)) : q_J D κ n cl sl ws lv pc (.int (iI b) :: .int (iI a) :: st) := by
  obtain ⟨p, l, e, R, s, m, args, below, meth, c, A, Q⟩ := κ
  obtain ⟨hx, hb, hml, hown, hE, hA, hR⟩ := ok
  intro H locs ls hP hD hS hl
  refine lv_iadd hx hb hdg ?_
  rw [iI_add]
  exact k H locs ls hP hD hS hl
theorem j_isub {a b : Int} (ok : q_ok D cs κ cc n own rm) (hdg : decode cc pc = .ok (.isub, 1)) (k : q_J D κ n cl sl ws lv (pc + 1) (.int (iI (a - b)) :: st)) : q_J D κ n cl sl ws lv pc (.int (iI b) :: .int (iI a) :: st) := by
  obtain ⟨p, l, e, R, s, m, args, below, meth, c, A, Q⟩ := κ
  obtain ⟨hx, hb, hml, hown, hE, hA, hR⟩ := ok
  intro H locs ls hP hD hS hl
  refine lv_isub hx hb hdg ?_
  rw [iI_sub]
  exact k H locs ls hP hD hS hl
theorem j_imul {a b : Int} (ok : q_ok D cs κ cc n own rm) (hdg : decode cc pc = .ok (.imul, 1)) (k : q_J D κ n cl sl ws lv (pc + 1) (.int (iI (a * b)) :: st)) : q_J D κ n cl sl ws lv pc (.int (iI b) :: .int (iI a) :: st) := by
  obtain ⟨p, l, e, R, s, m, args, below, meth, c, A, Q⟩ := κ
  obtain ⟨hx, hb, hml, hown, hE, hA, hR⟩ := ok
  intro H locs ls hP hD hS hl
  refine lv_imul hx hb hdg ?_
  rw [iI_mul]
  exact k H locs ls hP hD hS hl
theorem j_ineg {a : Int} (ok : q_ok D cs κ cc n own rm) (hdg : decode cc pc = .ok (.ineg, 1)) (k : q_J D κ n cl sl ws lv (pc + 1) (.int (iI (-a)) :: st)) : q_J D κ n cl sl ws lv pc (.int (iI a) :: st) := by
  obtain ⟨p, l, e, R, s, m, args, below, meth, c, A, Q⟩ := κ
  obtain ⟨hx, hb, hml, hown, hE, hA, hR⟩ := ok
  intro H locs ls hP hD hS hl
  refine lv_ineg hx hb hdg ?_
  rw [iI_neg]
  exact k H locs ls hP hD hS hl
theorem j_idiv {ρ : Type} {r : ρ} {B : Option ρ} {a b : Int} (ok : q_ok D cs κ cc n own rm) (hdg : decode cc pc = .ok (.idiv, 1)) (hb2 : inR b) (hb0 : ¬ b = 0) (h : gR a B = some r) (k : B = some r → q_J D κ n cl sl ws lv (pc + 1) (.int (iI (a.tdiv b)) :: st)) : q_J D κ n cl sl ws lv pc (.int (iI b) :: .int (iI a) :: st) := by
  obtain ⟨p, l, e, R, s, m, args, below, meth, c, A, Q⟩ := κ
  obtain ⟨hx, hb, hml, hown, hE, hA, hR⟩ := ok
  intro H locs ls hP hD hS hl
  obtain ⟨ha, h⟩ := gR_inv h
  have hne : ¬ iI b = 0 := by
    rw [show (0 : Int32) = iI 0 from by decide, iI_eq hb2 ⟨by decide, by decide⟩]
    exact hb0
  refine lv_idiv hx hb hdg hne ?_
  rw [iI_div ha hb2]
  exact k h H locs ls hP hD hS hl
theorem j_irem {ρ : Type} {r : ρ} {B : Option ρ} {a b : Int} (ok : q_ok D cs κ cc n own rm) (hdg : decode cc pc = .ok (.irem, 1)) (hb2 : inR b) (hb0 : ¬ b = 0) (h : gR a B = some r) (k : B = some r → q_J D κ n cl sl ws lv (pc + 1) (.int (iI (a.tmod b)) :: st)) : q_J D κ n cl sl ws lv pc (.int (iI b) :: .int (iI a) :: st) := by
  obtain ⟨p, l, e, R, s, m, args, below, meth, c, A, Q⟩ := κ
  obtain ⟨hx, hb, hml, hown, hE, hA, hR⟩ := ok
  intro H locs ls hP hD hS hl
  obtain ⟨ha, h⟩ := gR_inv h
  have hne : ¬ iI b = 0 := by
    rw [show (0 : Int32) = iI 0 from by decide, iI_eq hb2 ⟨by decide, by decide⟩]
    exact hb0
  refine lv_irem hx hb hdg hne ?_
  rw [iI_rem ha hb2]
  exact k h H locs ls hP hD hS hl
theorem j_ldiv {ρ : Type} {r : ρ} {B : Option ρ} {a b : Int} (ok : q_ok D cs κ cc n own rm) (hdg : decode cc pc = .ok (.ldiv, 1)) (h : gL a (gL b (if b = 0 then none else B)) = some r) (k : inL b → B = some r → q_J D κ n cl sl ws lv (pc + 1) (.long (iL (a.tdiv b)) :: st)) : q_J D κ n cl sl ws lv pc (.long (iL b) :: .long (iL a) :: st) := by
  obtain ⟨p, l, e, R, s, m, args, below, meth, c, A, Q⟩ := κ
  obtain ⟨hx, hb, hml, hown, hE, hA, hR⟩ := ok
  intro H locs ls hP hD hS hl
  obtain ⟨ha, h⟩ := gL_inv h
  obtain ⟨hb2, h⟩ := gL_inv h
  by_cases hb0 : b = 0
  · rw [if_pos hb0] at h; cases h
  · rw [if_neg hb0] at h
    have hne : ¬ iL b = 0 := by
      rw [show (0 : Int64) = iL 0 from by decide, iL_eq hb2 ⟨by decide, by decide⟩]
      exact hb0
    refine lv_ldiv hx hb hdg hne ?_
    rw [iL_div ha hb2]
    exact k hb2 h H locs ls hP hD hS hl
theorem j_lrem {ρ : Type} {r : ρ} {B : Option ρ} {a b : Int} (ok : q_ok D cs κ cc n own rm) (hdg : decode cc pc = .ok (.lrem, 1)) (h : gL a (gL b (if b = 0 then none else B)) = some r) (k : inL b → B = some r → q_J D κ n cl sl ws lv (pc + 1) (.long (iL (a.tmod b)) :: st)) : q_J D κ n cl sl ws lv pc (.long (iL b) :: .long (iL a) :: st) := by
  obtain ⟨p, l, e, R, s, m, args, below, meth, c, A, Q⟩ := κ
  obtain ⟨hx, hb, hml, hown, hE, hA, hR⟩ := ok
  intro H locs ls hP hD hS hl
  obtain ⟨ha, h⟩ := gL_inv h
  obtain ⟨hb2, h⟩ := gL_inv h
  by_cases hb0 : b = 0
  · rw [if_pos hb0] at h; cases h
  · rw [if_neg hb0] at h
    have hne : ¬ iL b = 0 := by
      rw [show (0 : Int64) = iL 0 from by decide, iL_eq hb2 ⟨by decide, by decide⟩]
      exact hb0
    refine lv_lrem hx hb hdg hne ?_
    rw [iL_rem ha hb2]
    exact k hb2 h H locs ls hP hD hS hl
theorem j_ladd {a b : Int} (ok : q_ok D cs κ cc n own rm) (hdg : decode cc pc = .ok (.ladd, 1)) (k : q_J D κ n cl sl ws lv (pc + 1) (.long (iL (a + b)) :: st)) : q_J D κ n cl sl ws lv pc (.long (iL b) :: .long (iL a) :: st) := by
  obtain ⟨p, l, e, R, s, m, args, below, meth, c, A, Q⟩ := κ
  obtain ⟨hx, hb, hml, hown, hE, hA, hR⟩ := ok
  intro H locs ls hP hD hS hl
  refine lv_ladd hx hb hdg ?_
  rw [iL_add]
  exact k H locs ls hP hD hS hl
theorem j_lsub {a b : Int} (ok : q_ok D cs κ cc n own rm) (hdg : decode cc pc = .ok (.lsub, 1)) (k : q_J D κ n cl sl ws lv (pc + 1) (.long (iL (a - b)) :: st)) : q_J D κ n cl sl ws lv pc (.long (iL b) :: .long (iL a) :: st) := by
  obtain ⟨p, l, e, R, s, m, args, below, meth, c, A, Q⟩ := κ
  obtain ⟨hx, hb, hml, hown, hE, hA, hR⟩ := ok
  intro H locs ls hP hD hS hl
  refine lv_lsub hx hb hdg ?_
  rw [iL_sub]
  exact k H locs ls hP hD hS hl
theorem j_lmul {a b : Int} (ok : q_ok D cs κ cc n own rm) (hdg : decode cc pc = .ok (.lmul, 1)) (k : q_J D κ n cl sl ws lv (pc + 1) (.long (iL (a * b)) :: st)) : q_J D κ n cl sl ws lv pc (.long (iL b) :: .long (iL a) :: st) := by
  obtain ⟨p, l, e, R, s, m, args, below, meth, c, A, Q⟩ := κ
  obtain ⟨hx, hb, hml, hown, hE, hA, hR⟩ := ok
  intro H locs ls hP hD hS hl
  refine lv_lmul hx hb hdg ?_
  rw [iL_mul]
  exact k H locs ls hP hD hS hl
theorem j_i2l {ρ : Type} {r : ρ} {B : Option ρ} {a : Int} (ok : q_ok D cs κ cc n own rm) (hdg : decode cc pc = .ok (.i2l, 1)) (h : gR a B = some r) (k : B = some r → q_J D κ n cl sl ws lv (pc + 1) (.long (iL a) :: st)) : q_J D κ n cl sl ws lv pc (.int (iI a) :: st) := by
  obtain ⟨p, l, e, R, s, m, args, below, meth, c, A, Q⟩ := κ
  obtain ⟨hx, hb, hml, hown, hE, hA, hR⟩ := ok
  intro H locs ls hP hD hS hl
  obtain ⟨ha, h⟩ := gR_inv h
  exact lv_i2l hx hb hdg (iI_L ha) (k h H locs ls hP hD hS hl)
theorem j_l2i {a : Int} (ok : q_ok D cs κ cc n own rm) (hdg : decode cc pc = .ok (.l2i, 1)) (k : q_J D κ n cl sl ws lv (pc + 1) (.int (iI a) :: st)) : q_J D κ n cl sl ws lv pc (.long (iL a) :: st) := by
  obtain ⟨p, l, e, R, s, m, args, below, meth, c, A, Q⟩ := κ
  obtain ⟨hx, hb, hml, hown, hE, hA, hR⟩ := ok
  intro H locs ls hP hD hS hl
  exact lv_l2i hx hb hdg (iL_I a) (k H locs ls hP hD hS hl)
theorem j_dup {v : Value} (ok : q_ok D cs κ cc n own rm) (hdg : decode cc pc = .ok (.dup, 1)) (hv : v.category = 1) (k : q_J D κ n cl sl ws lv (pc + 1) (v :: v :: st)) : q_J D κ n cl sl ws lv pc (v :: st) := by
  obtain ⟨p, l, e, R, s, m, args, below, meth, c, A, Q⟩ := κ
  obtain ⟨hx, hb, hml, hown, hE, hA, hR⟩ := ok
  intro H locs ls hP hD hS hl
  exact lv_dup hx hb hdg hv (k H locs ls hP hD hS hl)
theorem j_dup2 {v u : Value} (ok : q_ok D cs κ cc n own rm) (hdg : decode cc pc = .ok (.dup2, 1)) (hv : v.category = 1) (hu : u.category = 1) (k : q_J D κ n cl sl ws lv (pc + 1) (v :: u :: v :: u :: st)) : q_J D κ n cl sl ws lv pc (v :: u :: st) := by
  obtain ⟨p, l, e, R, s, m, args, below, meth, c, A, Q⟩ := κ
  obtain ⟨hx, hb, hml, hown, hE, hA, hR⟩ := ok
  intro H locs ls hP hD hS hl
  exact lv_dup2_11 hx hb hdg hv hu (k H locs ls hP hD hS hl)
theorem j_pop {v : Value} (ok : q_ok D cs κ cc n own rm) (hdg : decode cc pc = .ok (.pop, 1)) (hv : v.category = 1) (k : q_J D κ n cl sl ws lv (pc + 1) st) : q_J D κ n cl sl ws lv pc (v :: st) := by
  obtain ⟨p, l, e, R, s, m, args, below, meth, c, A, Q⟩ := κ
  obtain ⟨hx, hb, hml, hown, hE, hA, hR⟩ := ok
  intro H locs ls hP hD hS hl
  exact lv_pop hx hb hdg hv (k H locs ls hP hD hS hl)
theorem j_goto {off : Int} (tgt : Nat) (ok : q_ok D cs κ cc n own rm) (hdg : decode cc pc = .ok (.goto off, 3)) (ht : (pc : Int) + off = (tgt : Int)) (k : q_J D κ n cl sl ws lv tgt st) : q_J D κ n cl sl ws lv pc st := by
  obtain ⟨p, l, e, R, s, m, args, below, meth, c, A, Q⟩ := κ
  obtain ⟨hx, hb, hml, hown, hE, hA, hR⟩ := ok
  intro H locs ls hP hD hS hl
  exact lv_goto hx hb hdg ht (k H locs ls hP hD hS hl)
theorem j_icmp_lt {ρ : Type} {r : ρ} {A B : Option ρ} {a b : Int} {off : Int} (tgt : Nat) (ok : q_ok D cs κ cc n own rm) (hdg : decode cc pc = .ok (.if_icmp .lt off, 3)) (ht : (pc : Int) + off = (tgt : Int)) (h : cLt a b A B = some r) (kt : A = some r → q_J D κ n cl sl ws lv tgt st) (kf : B = some r → q_J D κ n cl sl ws lv (pc + 3) st) : q_J D κ n cl sl ws lv pc (.int (iI b) :: .int (iI a) :: st) := by
  obtain ⟨p, l, e, R, s, m, args, below, meth, c, A, Q⟩ := κ
  obtain ⟨hx, hb, hml, hown, hE, hA, hR⟩ := ok
  intro H locs ls hP hD hS hl
  obtain ⟨⟨ha, hb9⟩, h1, h2⟩ := cLt_inv h
  exact lv_icmp_lt hx hb hdg ht (fun q => kt (h1 (by exact (iI_lt ha hb9).mp q)) H locs ls hP hD hS hl) (fun q => kf (h2 (by exact fun z => q ((iI_lt ha hb9).mpr z))) H locs ls hP hD hS hl)
theorem j_if_lt {ρ : Type} {r : ρ} {A B : Option ρ} {a : Int} {off : Int} (tgt : Nat) (ok : q_ok D cs κ cc n own rm) (hdg : decode cc pc = .ok (.ifCond .lt off, 3)) (ht : (pc : Int) + off = (tgt : Int)) (h : cLt a 0 A B = some r) (kt : A = some r → q_J D κ n cl sl ws lv tgt st) (kf : B = some r → q_J D κ n cl sl ws lv (pc + 3) st) : q_J D κ n cl sl ws lv pc (.int (iI a) :: st) := by
  obtain ⟨p, l, e, R, s, m, args, below, meth, c, A, Q⟩ := κ
  obtain ⟨hx, hb, hml, hown, hE, hA, hR⟩ := ok
  intro H locs ls hP hD hS hl
  obtain ⟨⟨ha, hb9⟩, h1, h2⟩ := cLt_inv h
  have z0 : (0 : Int32) = iI 0 := by decide
  exact lv_if_lt hx hb hdg ht (fun q => kt (h1 (by rw [z0] at q; exact (iI_lt ha hb9).mp q)) H locs ls hP hD hS hl) (fun q => kf (h2 (by rw [z0] at q; exact fun z => q ((iI_lt ha hb9).mpr z))) H locs ls hP hD hS hl)
theorem j_icmp_ge {ρ : Type} {r : ρ} {A B : Option ρ} {a b : Int} {off : Int} (tgt : Nat) (ok : q_ok D cs κ cc n own rm) (hdg : decode cc pc = .ok (.if_icmp .ge off, 3)) (ht : (pc : Int) + off = (tgt : Int)) (h : cLt a b B A = some r) (kt : A = some r → q_J D κ n cl sl ws lv tgt st) (kf : B = some r → q_J D κ n cl sl ws lv (pc + 3) st) : q_J D κ n cl sl ws lv pc (.int (iI b) :: .int (iI a) :: st) := by
  obtain ⟨p, l, e, R, s, m, args, below, meth, c, A, Q⟩ := κ
  obtain ⟨hx, hb, hml, hown, hE, hA, hR⟩ := ok
  intro H locs ls hP hD hS hl
  obtain ⟨⟨ha, hb9⟩, h1, h2⟩ := cLt_inv h
  exact lv_icmp_ge hx hb hdg ht (fun q => kt (h2 (by have q := (iI_le hb9 ha).mp q; omega)) H locs ls hP hD hS hl) (fun q => kf (h1 (by have q : ¬ _ ≤ _ := fun z => q ((iI_le hb9 ha).mpr z); omega)) H locs ls hP hD hS hl)
theorem j_if_ge {ρ : Type} {r : ρ} {A B : Option ρ} {a : Int} {off : Int} (tgt : Nat) (ok : q_ok D cs κ cc n own rm) (hdg : decode cc pc = .ok (.ifCond .ge off, 3)) (ht : (pc : Int) + off = (tgt : Int)) (h : cLt a 0 B A = some r) (kt : A = some r → q_J D κ n cl sl ws lv tgt st) (kf : B = some r → q_J D κ n cl sl ws lv (pc + 3) st) : q_J D κ n cl sl ws lv pc (.int (iI a) :: st) := by
  obtain ⟨p, l, e, R, s, m, args, below, meth, c, A, Q⟩ := κ
  obtain ⟨hx, hb, hml, hown, hE, hA, hR⟩ := ok
  intro H locs ls hP hD hS hl
  obtain ⟨⟨ha, hb9⟩, h1, h2⟩ := cLt_inv h
  have z0 : (0 : Int32) = iI 0 := by decide
  exact lv_if_ge hx hb hdg ht (fun q => kt (h2 (by rw [z0] at q; have q := (iI_le hb9 ha).mp q; omega)) H locs ls hP hD hS hl) (fun q => kf (h1 (by rw [z0] at q; have q : ¬ _ ≤ _ := fun z => q ((iI_le hb9 ha).mpr z); omega)) H locs ls hP hD hS hl)
theorem j_icmp_gt {ρ : Type} {r : ρ} {A B : Option ρ} {a b : Int} {off : Int} (tgt : Nat) (ok : q_ok D cs κ cc n own rm) (hdg : decode cc pc = .ok (.if_icmp .gt off, 3)) (ht : (pc : Int) + off = (tgt : Int)) (h : cLt b a A B = some r) (kt : A = some r → q_J D κ n cl sl ws lv tgt st) (kf : B = some r → q_J D κ n cl sl ws lv (pc + 3) st) : q_J D κ n cl sl ws lv pc (.int (iI b) :: .int (iI a) :: st) := by
  obtain ⟨p, l, e, R, s, m, args, below, meth, c, A, Q⟩ := κ
  obtain ⟨hx, hb, hml, hown, hE, hA, hR⟩ := ok
  intro H locs ls hP hD hS hl
  obtain ⟨⟨ha, hb9⟩, h1, h2⟩ := cLt_inv h
  exact lv_icmp_gt hx hb hdg ht (fun q => kt (h1 (by exact (iI_lt ha hb9).mp q)) H locs ls hP hD hS hl) (fun q => kf (h2 (by exact fun z => q ((iI_lt ha hb9).mpr z))) H locs ls hP hD hS hl)
theorem j_if_gt {ρ : Type} {r : ρ} {A B : Option ρ} {a : Int} {off : Int} (tgt : Nat) (ok : q_ok D cs κ cc n own rm) (hdg : decode cc pc = .ok (.ifCond .gt off, 3)) (ht : (pc : Int) + off = (tgt : Int)) (h : cLt 0 a A B = some r) (kt : A = some r → q_J D κ n cl sl ws lv tgt st) (kf : B = some r → q_J D κ n cl sl ws lv (pc + 3) st) : q_J D κ n cl sl ws lv pc (.int (iI a) :: st) := by
  obtain ⟨p, l, e, R, s, m, args, below, meth, c, A, Q⟩ := κ
  obtain ⟨hx, hb, hml, hown, hE, hA, hR⟩ := ok
  intro H locs ls hP hD hS hl
  obtain ⟨⟨ha, hb9⟩, h1, h2⟩ := cLt_inv h
  have z0 : (0 : Int32) = iI 0 := by decide
  exact lv_if_gt hx hb hdg ht (fun q => kt (h1 (by rw [z0] at q; exact (iI_lt ha hb9).mp q)) H locs ls hP hD hS hl) (fun q => kf (h2 (by rw [z0] at q; exact fun z => q ((iI_lt ha hb9).mpr z))) H locs ls hP hD hS hl)
theorem j_icmp_le {ρ : Type} {r : ρ} {A B : Option ρ} {a b : Int} {off : Int} (tgt : Nat) (ok : q_ok D cs κ cc n own rm) (hdg : decode cc pc = .ok (.if_icmp .le off, 3)) (ht : (pc : Int) + off = (tgt : Int)) (h : cLt b a B A = some r) (kt : A = some r → q_J D κ n cl sl ws lv tgt st) (kf : B = some r → q_J D κ n cl sl ws lv (pc + 3) st) : q_J D κ n cl sl ws lv pc (.int (iI b) :: .int (iI a) :: st) := by
  obtain ⟨p, l, e, R, s, m, args, below, meth, c, A, Q⟩ := κ
  obtain ⟨hx, hb, hml, hown, hE, hA, hR⟩ := ok
  intro H locs ls hP hD hS hl
  obtain ⟨⟨ha, hb9⟩, h1, h2⟩ := cLt_inv h
  exact lv_icmp_le hx hb hdg ht (fun q => kt (h2 (by have q := (iI_le hb9 ha).mp q; omega)) H locs ls hP hD hS hl) (fun q => kf (h1 (by have q : ¬ _ ≤ _ := fun z => q ((iI_le hb9 ha).mpr z); omega)) H locs ls hP hD hS hl)
theorem j_if_le {ρ : Type} {r : ρ} {A B : Option ρ} {a : Int} {off : Int} (tgt : Nat) (ok : q_ok D cs κ cc n own rm) (hdg : decode cc pc = .ok (.ifCond .le off, 3)) (ht : (pc : Int) + off = (tgt : Int)) (h : cLt 0 a B A = some r) (kt : A = some r → q_J D κ n cl sl ws lv tgt st) (kf : B = some r → q_J D κ n cl sl ws lv (pc + 3) st) : q_J D κ n cl sl ws lv pc (.int (iI a) :: st) := by
  obtain ⟨p, l, e, R, s, m, args, below, meth, c, A, Q⟩ := κ
  obtain ⟨hx, hb, hml, hown, hE, hA, hR⟩ := ok
  intro H locs ls hP hD hS hl
  obtain ⟨⟨ha, hb9⟩, h1, h2⟩ := cLt_inv h
  have z0 : (0 : Int32) = iI 0 := by decide
  exact lv_if_le hx hb hdg ht (fun q => kt (h2 (by rw [z0] at q; have q := (iI_le hb9 ha).mp q; omega)) H locs ls hP hD hS hl) (fun q => kf (h1 (by rw [z0] at q; have q : ¬ _ ≤ _ := fun z => q ((iI_le hb9 ha).mpr z); omega)) H locs ls hP hD hS hl)
theorem j_icmp_eq {ρ : Type} {r : ρ} {A B : Option ρ} {a b : Int} {off : Int} (tgt : Nat) (ok : q_ok D cs κ cc n own rm) (hdg : decode cc pc = .ok (.if_icmp .eq off, 3)) (ht : (pc : Int) + off = (tgt : Int)) (h : cEq a b A B = some r) (kt : A = some r → q_J D κ n cl sl ws lv tgt st) (kf : B = some r → q_J D κ n cl sl ws lv (pc + 3) st) : q_J D κ n cl sl ws lv pc (.int (iI b) :: .int (iI a) :: st) := by
  obtain ⟨p, l, e, R, s, m, args, below, meth, c, A, Q⟩ := κ
  obtain ⟨hx, hb, hml, hown, hE, hA, hR⟩ := ok
  intro H locs ls hP hD hS hl
  obtain ⟨⟨ha, hb9⟩, h1, h2⟩ := cEq_inv h
  exact lv_icmp_eq hx hb hdg ht (fun q => kt (h1 (by exact (iI_eq ha hb9).mp q)) H locs ls hP hD hS hl) (fun q => kf (h2 (by exact fun z => q ((iI_eq ha hb9).mpr z))) H locs ls hP hD hS hl)
theorem j_if_eq {ρ : Type} {r : ρ} {A B : Option ρ} {a : Int} {off : Int} (tgt : Nat) (ok : q_ok D cs κ cc n own rm) (hdg : decode cc pc = .ok (.ifCond .eq off, 3)) (ht : (pc : Int) + off = (tgt : Int)) (h : cEq a 0 A B = some r) (kt : A = some r → q_J D κ n cl sl ws lv tgt st) (kf : B = some r → q_J D κ n cl sl ws lv (pc + 3) st) : q_J D κ n cl sl ws lv pc (.int (iI a) :: st) := by
  obtain ⟨p, l, e, R, s, m, args, below, meth, c, A, Q⟩ := κ
  obtain ⟨hx, hb, hml, hown, hE, hA, hR⟩ := ok
  intro H locs ls hP hD hS hl
  obtain ⟨⟨ha, hb9⟩, h1, h2⟩ := cEq_inv h
  have z0 : (0 : Int32) = iI 0 := by decide
  exact lv_if_eq hx hb hdg ht (fun q => kt (h1 (by rw [z0] at q; exact (iI_eq ha hb9).mp q)) H locs ls hP hD hS hl) (fun q => kf (h2 (by rw [z0] at q; exact fun z => q ((iI_eq ha hb9).mpr z))) H locs ls hP hD hS hl)
theorem j_icmp_ne {ρ : Type} {r : ρ} {A B : Option ρ} {a b : Int} {off : Int} (tgt : Nat) (ok : q_ok D cs κ cc n own rm) (hdg : decode cc pc = .ok (.if_icmp .ne off, 3)) (ht : (pc : Int) + off = (tgt : Int)) (h : cEq a b B A = some r) (kt : A = some r → q_J D κ n cl sl ws lv tgt st) (kf : B = some r → q_J D κ n cl sl ws lv (pc + 3) st) : q_J D κ n cl sl ws lv pc (.int (iI b) :: .int (iI a) :: st) := by
  obtain ⟨p, l, e, R, s, m, args, below, meth, c, A, Q⟩ := κ
  obtain ⟨hx, hb, hml, hown, hE, hA, hR⟩ := ok
  intro H locs ls hP hD hS hl
  obtain ⟨⟨ha, hb9⟩, h1, h2⟩ := cEq_inv h
  exact lv_icmp_ne hx hb hdg ht (fun q => kt (h2 (by exact fun z => q ((iI_eq ha hb9).mpr z))) H locs ls hP hD hS hl) (fun q => kf (h1 (by first | exact (iI_eq ha hb9).mp (Decidable.not_not.mp q) | exact (iI_eq ha hb9).mp q)) H locs ls hP hD hS hl)
theorem j_if_ne {ρ : Type} {r : ρ} {A B : Option ρ} {a : Int} {off : Int} (tgt : Nat) (ok : q_ok D cs κ cc n own rm) (hdg : decode cc pc = .ok (.ifCond .ne off, 3)) (ht : (pc : Int) + off = (tgt : Int)) (h : cEq a 0 B A = some r) (kt : A = some r → q_J D κ n cl sl ws lv tgt st) (kf : B = some r → q_J D κ n cl sl ws lv (pc + 3) st) : q_J D κ n cl sl ws lv pc (.int (iI a) :: st) := by
  obtain ⟨p, l, e, R, s, m, args, below, meth, c, A, Q⟩ := κ
  obtain ⟨hx, hb, hml, hown, hE, hA, hR⟩ := ok
  intro H locs ls hP hD hS hl
  obtain ⟨⟨ha, hb9⟩, h1, h2⟩ := cEq_inv h
  have z0 : (0 : Int32) = iI 0 := by decide
  exact lv_if_ne hx hb hdg ht (fun q => kt (h2 (by rw [z0] at q; exact fun z => q ((iI_eq ha hb9).mpr z))) H locs ls hP hD hS hl) (fun q => kf (h1 (by rw [z0] at q; first | exact (iI_eq ha hb9).mp (Decidable.not_not.mp q) | exact (iI_eq ha hb9).mp q)) H locs ls hP hD hS hl)
end QJ
