/-! behind a call: the callee's cells have their new contents, at their places; the others are as they were -/
def q_pt : va_W → List Nat → va_W → va_W
  | ws, [], _ => ws
  | ws, _ :: _, [] => ws
  | ws, i :: is, x :: xs => q_pt (ws.set i x) is xs
theorem q_pt_get : ∀ (is : List Nat) (xs ws : va_W) (k : Nat) (q : Nat × va_E), is.length = xs.length → (∀ i ∈ is, i < ws.length) → (q_pt ws is xs)[k]? = some q → (∃ j : Nat, is[j]? = some k ∧ xs[j]? = some q) ∨ (k ∉ is ∧ ws[k]? = some q)
  | [], xs, ws, k, q, _, _, h => Or.inr ⟨List.not_mem_nil, by simpa [q_pt] using h⟩
  | i :: is, [], ws, k, q, hl, _, _ => by simp at hl
  | i :: is, x :: xs, ws, k, q, hl, hlt, h => by
    have hl' : is.length = xs.length := by simpa using hl
    rcases q_pt_get is xs (ws.set i x) k q hl' (fun j hj => by rw [List.length_set]; exact hlt j (List.mem_cons_of_mem _ hj)) h with ⟨j, h1, h2⟩ | ⟨h1, h2⟩
    · exact Or.inl ⟨j + 1, by simpa using h1, by simpa using h2⟩
    · by_cases hik : i = k
      · subst hik
        rw [List.getElem?_set_self (hlt i List.mem_cons_self)] at h2
        exact Or.inl ⟨0, by simp, by simpa using h2⟩
      · rw [List.getElem?_set_ne hik] at h2
        exact Or.inr ⟨fun z => (List.mem_cons.mp z).elim (fun e => hik e.symm) h1, h2⟩
theorem q_ptP {A0 : Nat → Prop} {D : va_G} {cl : List vw_C} {ws wc w1 : va_W} {H H1 : Heap} (hP : va_P D cl ws H) (hD : va_D A0 ws) (isC : List Nat) (hC : isC.map (fun i => ws[i]?) = wc.map some) (hk : ∀ q : Nat, q < H.size → ¬ va_A wc H.size q → H1[q]? = H[q]?) (hs : w1.map (fun q => q.1) = wc.map (fun q => q.1)) (hP1 : va_P D cl w1 H1) : va_P D cl (q_pt ws isC w1) H1 ∧ va_D A0 (q_pt ws isC w1) := by
  have hlen : isC.length = w1.length := by
    have e1 := congrArg List.length hC
    have e2 := congrArg List.length hs
    simp only [List.length_map] at e1 e2
    omega
  have at' : ∀ (j i : Nat), isC[j]? = some i → ∃ q, wc[j]? = some q ∧ ws[i]? = some q := by
    intro j i hj
    have h1 : (isC.map (fun i => ws[i]?))[j]? = some (ws[i]?) := by rw [List.getElem?_map, hj]; rfl
    rw [hC, List.getElem?_map] at h1
    cases hw : wc[j]? with
    | none => rw [hw] at h1; cases h1
    | some q => rw [hw] at h1; exact ⟨q, rfl, (Option.some.inj h1).symm⟩
  have hlt : ∀ i ∈ isC, i < ws.length := by
    intro i hi
    obtain ⟨j, hj⟩ := List.getElem?_of_mem hi
    obtain ⟨q, -, h2⟩ := at' j i hj
    exact (List.getElem?_eq_some_iff.mp h2).1
  have same : ∀ (k : Nat) (q : Nat × va_E), (q_pt ws isC w1)[k]? = some q → ∃ q0, ws[k]? = some q0 ∧ q0.1 = q.1 := by
    intro k q h
    rcases q_pt_get isC w1 ws k q hlen hlt h with ⟨j, h1, h2⟩ | ⟨-, h2⟩
    · obtain ⟨q0, h3, h4⟩ := at' j k h1
      refine ⟨q0, h4, ?_⟩
      have e1 : (w1.map (fun q => q.1))[j]? = some q.1 := by rw [List.getElem?_map, h2]; rfl
      rw [hs, List.getElem?_map, h3] at e1
      exact Option.some.inj e1
    · exact ⟨q, h2, rfl⟩
  refine ⟨fun k q h => ?_, fun i j x y hi hj hxy => ?_, fun k q h => ?_⟩
  · rcases q_pt_get isC w1 ws k q hlen hlt h with ⟨j, h1, h2⟩ | ⟨h1, h2⟩
    · exact hP1 j q h2
    · refine (hP k q h2).kept (hk q.1 (hP k q h2).lt ?_)
      rintro (⟨k2, e, h3⟩ | h3)
      · have hk2 : k2 < isC.length := by
          have e1 := congrArg List.length hC
          simp only [List.length_map] at e1
          have := (List.getElem?_eq_some_iff.mp h3).1
          omega
        obtain ⟨q5, h4, h5⟩ := at' k2 isC[k2] (List.getElem?_eq_getElem hk2)
        rw [h3] at h4
        cases h4
        have hik := hD.1 _ _ _ _ h2 h5 rfl
        exact h1 (hik ▸ List.getElem_mem hk2)
      · have := (hP k q h2).lt
        omega
  · obtain ⟨x0, h1, h2⟩ := same i x hi
    obtain ⟨y0, h3, h4⟩ := same j y hj
    exact hD.1 i j x0 y0 h1 h3 (h2.trans (hxy.trans h4.symm))
  · obtain ⟨q0, h1, h2⟩ := same k q h
    rw [← h2]
    exact hD.2 k q0 h1
/-! contracts -/
abbrev q_rm (f w : Nat) : Room := { frames := f, cells := 0, slots := 0, locals := w }
def q_Pc (D : va_G) (cs : q_CS) (av : List Value) (sz : Nat) (ws : va_W) : Array Value → State → Prop := va_Pc av (fun U => U.heap.size = sz ∧ va_P D vwCl ws U.heap ∧ q_EV D cs U ∧ va_D (fun _ => True) ws)
def q_W (D : va_G) (cs : q_CS) (A : Nat → Prop) (ws : va_W) (t : State) : Prop := va_P D vwCl ws t.heap ∧ q_EV D cs t ∧ va_D A ws
def q_Q (D : va_G) (cs : q_CS) (A : Nat → Prop) (ws' : va_W) (o : Option Value) : Array Value → State → Outcome → State → Prop := fun _ st oc t => (oc = .returned o ∧ q_W D cs A ws' t) ∧ va_F A st t
/-- the contract: from every state with the world ws the method answers o, the world is ws' behind it, nothing is made -/
def q_M (D : va_G) (cs : q_CS) (y : MethodName) (cc : ByteArray) (mL : Nat) (rt : Option FieldType) (f w : Nat) (av : List Value) (ws : va_W) (o : Option Value) (ws' : va_W) : Prop := ∀ (l : Launch) (sz : Nat), Met l y [.code y cc mL rt] (q_rm f w) (q_Pc D cs av sz ws) (q_Q D cs (va_A ws sz) ws' o) 0 0 (va_A ws sz)
theorem q_Pc.blind {D : va_G} {cs : q_CS} {av : List Value} {sz : Nat} {ws : va_W} : FrameBlind (q_Pc D cs av sz ws) := by
  intro a U g mk q
  obtain ⟨h0, h1, h2, h3, h4⟩ := q
  exact ⟨h0, h1, h2, q_EV.same (u := U) (U := U.calling g mk a) rfl h3, h4⟩
theorem q_Pc.mk {D : va_G} {cs : q_CS} {av : List Value} {A : Nat → Prop} {s : State} {ws : va_W} {H : Heap} (hP : va_P D vwCl ws H) (hD : va_D A ws) (hE : q_EV D cs s) : ∀ U : State, U.heap = H → s.WarmedH U.vm → q_Pc D cs av H.size ws av.toArray U := fun U hU hW => ⟨rfl, by rw [hU], by rw [hU]; exact hP, hE.moved hW, hD.weaken (fun _ _ _ _ => trivial)⟩
def q_room (rm : Room) (f mL w : Nat) : Bool := decide (f + 1 ≤ rm.frames) && decide (8 + (mL + 11) + w ≤ rm.locals)
theorem q_room_spec {rm : Room} {f mL w : Nat} (h : q_room rm f mL w = true) : f + 1 ≤ rm.frames ∧ 8 + (mL + 11) + w ≤ rm.locals := by
  simpa [q_room] using h
theorem q_subP {D : va_G} {cl : List vw_C} {ws wc : va_W} {H : Heap} (hP : va_P D cl ws H) (isC : List Nat) (hC : isC.map (fun i => ws[i]?) = wc.map some) : va_P D cl wc H := by
  intro k q hk
  have h1 : (isC.map (fun i => ws[i]?))[k]? = some (some q) := by rw [hC, List.getElem?_map, hk]; rfl
  rw [List.getElem?_map] at h1
  cases hi : isC[k]? with
  | none => rw [hi] at h1; cases h1
  | some i => rw [hi] at h1; exact hP i q (Option.some.inj h1)
theorem q_subD {A : Nat → Prop} {ws wc : va_W} (hD : va_D A ws) (isC : List Nat) (hC : isC.map (fun i => ws[i]?) = wc.map some) (hn : va_nd isC = true) : va_D A wc := by
  have key : ∀ (k : Nat) (q : Nat × va_E), wc[k]? = some q → ∃ i, isC[k]? = some i ∧ ws[i]? = some q := by
    intro k q hk
    have h1 : (isC.map (fun i => ws[i]?))[k]? = some (some q) := by rw [hC, List.getElem?_map, hk]; rfl
    rw [List.getElem?_map] at h1
    cases hi : isC[k]? with
    | none => rw [hi] at h1; cases h1
    | some i => rw [hi] at h1; exact ⟨i, rfl, Option.some.inj h1⟩
  refine ⟨fun i j x y hi hj hxy => ?_, fun k q hk => ?_⟩
  · obtain ⟨a, h1, h2⟩ := key i x hi
    obtain ⟨b, h3, h4⟩ := key j y hj
    have hab := hD.1 a b x y h2 h4 hxy
    subst hab
    exact va_nd_inj isC hn i j a h1 h3
  · obtain ⟨a, -, h2⟩ := key k q hk
    exact hD.2 a q h2
section QC
variable {p : Program} {l : Launch} {e : Env} {R : Room} {s : State} {m : MethodId} {args : Array Value} {below : List Frame} {meth : Method} {c : Code} {H : Heap} {locs : List Loc} {cells slots : Nat} {Q : State → Prop}
variable {pc : Nat} {ls : Array Slot} {rest st0 : List Value} {a : Array Value} {A0 A1 : Nat → Prop} {H0 : Heap} {mc ms : Nat} {free : Addr → Prop}
theorem q_call {D : va_G} {cs : q_CS} {w1 : va_W} {o : Option Value} (hr : va_Run p l e R s m args below meth c H locs cells slots mc ms (F0 m pc ls st0) rest (q_Q D cs A1 w1 o a) free) (hS : va_S A0 H0 H locs) (hA : ∀ q, q < H.size → A1 q → A0 q) (hf : ∀ q, free q → A0 q)
    (kk : ∀ (H1 : Heap) (locs1 : List Loc), va_P D vwCl w1 H1 → va_D A1 w1 → (∀ q : Nat, q < H.size → ¬ A1 q → H1[q]? = H[q]?) → va_S A0 H0 H1 locs1 → W p l e R s m args below meth c H1 locs1 (cells + mc) (slots + ms) Q (F0 m (pc + 3) ls (o.toList ++ rest))) : W p l e R s m args below meth c H locs cells slots Q (F0 m pc ls st0) := by
  intro T hT X
  obtain ⟨v, st₀, t, T', L, h0, X', hL, e1, e2, ⟨⟨hv, hb⟩, hz, hk⟩, st⟩ := hr T hT X
  cases hv
  rw [h0] at hz hk
  obtain ⟨hP1, -, hD1⟩ := hb
  obtain ⟨t2, a1, b1⟩ := kk T'.heap (locs ++ L) (by rw [e1]; exact hP1) hD1 (fun q h1 h2 => by rw [e1]; exact hk q h1 h2)
    ⟨Nat.le_trans hS.1 (by rw [e1]; exact hz), fun q h1 h2 => by rw [e1, hk q (Nat.lt_of_lt_of_le h1 hS.1) (fun z => h2 (hA q (Nat.lt_of_lt_of_le h1 hS.1) z))]; exact hS.2.1 q h1 h2, fun q hq => by
      rcases List.mem_append.mp hq with h | h
      · exact hS.2.2 q h
      · exact hf _ (hL q h)⟩ T' rfl X'
  exact ⟨t2, st t2 a1, b1⟩
end QC
section QS
variable {D : va_G} {cs : q_CS} {y : MethodName} {cc : ByteArray} {mL : Nat} {rt : FieldType} {f w : Nat} {av : List Value} {ws ws' : va_W}
theorem q_start_i {r : Int} (lv0 : List (Nat × Value)) (own : String) (hy0 : y.cls = own) (hy : plainName own = true) (hlv : lv_args 0 av = lv0) (hle : (lg_sl av).length ≤ mL) (hrt : narrow rt (.int (iI r)) = .int (iI r)) (body : ∀ κ : q_X, q_ok D cs κ cc mL own (q_rm f w) → (∀ (lv : List (Nat × Value)) (pc : Nat), decode cc pc = .ok (.ireturn, 1) → q_J D κ mL 0 0 ws' lv pc [.int (iI r)]) → q_J D κ mL 0 0 ws lv0 0 []) : q_M D cs y cc mL (some rt) f w av ws (some (.int (iI r))) ws' := by
  intro l sz
  subst hy0
  refine Met.ofW (cc := cc) (maxL := mL) (ret := (some rt)) hy rfl ?_
  intro p e s m args below meth c s₁ B hml hv
  obtain ⟨rfl, hsz, hP, hE, hD0⟩ := hv
  have hx := B.exec
  have hb := B.bytes
  have hr := B.returns
  have hown : s.vm.findClass y.cls = some m.cls := findClass_of_methodNamed B.named
  have hlocks := B.notSynchronized
  subst hsz
  have hD := hD0.self (sz := s.heap.size)
  have hS : va_S (va_A ws s.heap.size) s.heap s.heap [] := va_S.rf
  have hl := lv_entry av (n := mL) hle
  rw [hlv] at hl
  rw [lg_entry_eq]
  have K := body (p, l, e, q_rm f w, s, m, av.toArray, below, meth, c, va_A ws s.heap.size, MQ below (q_Q D cs (va_A ws s.heap.size) ws' (some (.int (iI r)))) av.toArray s 0 0 (va_A ws s.heap.size)) (by show _ ∧ _; exact ⟨hx, hb, hml, hown, hE, fun q h => Or.inr h, rfl⟩) (by
    intro lv pc hdg H locs ls hP hD hS hl
    exact W.zret hx hb hr hrt (fun t ht hW => ⟨⟨rfl, by show _ ∧ _; exact ⟨by rw [ht]; exact hP, hE.moved hW, hD⟩⟩, hS.F ht⟩) hS.2.2 hdg)
  exact K s.heap [] _ hP hD hS hl
theorem q_start_z {r : Int} (lv0 : List (Nat × Value)) (own : String) (hy0 : y.cls = own) (hy : plainName own = true) (hlv : lv_args 0 av = lv0) (hle : (lg_sl av).length ≤ mL) (body : ∀ κ : q_X, q_ok D cs κ cc mL own (q_rm f w) → (∀ (lv : List (Nat × Value)) (pc : Nat), (r = 0 ∨ r = 1) → decode cc pc = .ok (.ireturn, 1) → q_J D κ mL 0 0 ws' lv pc [.int (iI r)]) → q_J D κ mL 0 0 ws lv0 0 []) : q_M D cs y cc mL (some .boolean) f w av ws (some (.int (iI r))) ws' := by
  intro l sz
  subst hy0
  refine Met.ofW (cc := cc) (maxL := mL) (ret := (some .boolean)) hy rfl ?_
  intro p e s m args below meth c s₁ B hml hv
  obtain ⟨rfl, hsz, hP, hE, hD0⟩ := hv
  have hx := B.exec
  have hb := B.bytes
  have hr := B.returns
  have hown : s.vm.findClass y.cls = some m.cls := findClass_of_methodNamed B.named
  have hlocks := B.notSynchronized
  subst hsz
  have hD := hD0.self (sz := s.heap.size)
  have hS : va_S (va_A ws s.heap.size) s.heap s.heap [] := va_S.rf
  have hl := lv_entry av (n := mL) hle
  rw [hlv] at hl
  rw [lg_entry_eq]
  have K := body (p, l, e, q_rm f w, s, m, av.toArray, below, meth, c, va_A ws s.heap.size, MQ below (q_Q D cs (va_A ws s.heap.size) ws' (some (.int (iI r)))) av.toArray s 0 0 (va_A ws s.heap.size)) (by show _ ∧ _; exact ⟨hx, hb, hml, hown, hE, fun q h => Or.inr h, rfl⟩) (by
    intro lv pc hbo hdg H locs ls hP hD hS hl
    exact W.zret hx hb hr (nar_b hbo).1 (fun t ht hW => ⟨⟨rfl, by show _ ∧ _; exact ⟨by rw [ht]; exact hP, hE.moved hW, hD⟩⟩, hS.F ht⟩) hS.2.2 hdg)
  exact K s.heap [] _ hP hD hS hl
theorem q_start_l {r : Int} (lv0 : List (Nat × Value)) (own : String) (hy0 : y.cls = own) (hy : plainName own = true) (hlv : lv_args 0 av = lv0) (hle : (lg_sl av).length ≤ mL) (body : ∀ κ : q_X, q_ok D cs κ cc mL own (q_rm f w) → (∀ (lv : List (Nat × Value)) (pc : Nat), decode cc pc = .ok (.lreturn, 1) → q_J D κ mL 0 0 ws' lv pc [.long (iL r)]) → q_J D κ mL 0 0 ws lv0 0 []) : q_M D cs y cc mL (some .long) f w av ws (some (.long (iL r))) ws' := by
  intro l sz
  subst hy0
  refine Met.ofW (cc := cc) (maxL := mL) (ret := (some .long)) hy rfl ?_
  intro p e s m args below meth c s₁ B hml hv
  obtain ⟨rfl, hsz, hP, hE, hD0⟩ := hv
  have hx := B.exec
  have hb := B.bytes
  have hr := B.returns
  have hown : s.vm.findClass y.cls = some m.cls := findClass_of_methodNamed B.named
  have hlocks := B.notSynchronized
  subst hsz
  have hD := hD0.self (sz := s.heap.size)
  have hS : va_S (va_A ws s.heap.size) s.heap s.heap [] := va_S.rf
  have hl := lv_entry av (n := mL) hle
  rw [hlv] at hl
  rw [lg_entry_eq]
  have K := body (p, l, e, q_rm f w, s, m, av.toArray, below, meth, c, va_A ws s.heap.size, MQ below (q_Q D cs (va_A ws s.heap.size) ws' (some (.long (iL r)))) av.toArray s 0 0 (va_A ws s.heap.size)) (by show _ ∧ _; exact ⟨hx, hb, hml, hown, hE, fun q h => Or.inr h, rfl⟩) (by
    intro lv pc hdg H locs ls hP hD hS hl
    exact W.lret hx hb hr (fun t ht hW => ⟨⟨rfl, by show _ ∧ _; exact ⟨by rw [ht]; exact hP, hE.moved hW, hD⟩⟩, hS.F ht⟩) hS.2.2 hdg)
  exact K s.heap [] _ hP hD hS hl
theorem q_start_v (lv0 : List (Nat × Value)) (own : String) (hy0 : y.cls = own) (hy : plainName own = true) (hlv : lv_args 0 av = lv0) (hle : (lg_sl av).length ≤ mL) (body : ∀ κ : q_X, q_ok D cs κ cc mL own (q_rm f w) → (∀ (lv : List (Nat × Value)) (pc : Nat), decode cc pc = .ok (.return_, 1) → q_J D κ mL 0 0 ws' lv pc []) → q_J D κ mL 0 0 ws lv0 0 []) : q_M D cs y cc mL none f w av ws none ws' := by
  intro l sz
  subst hy0
  refine Met.ofW (cc := cc) (maxL := mL) (ret := none) hy rfl ?_
  intro p e s m args below meth c s₁ B hml hv
  obtain ⟨rfl, hsz, hP, hE, hD0⟩ := hv
  have hx := B.exec
  have hb := B.bytes
  have hr := B.returns
  have hown : s.vm.findClass y.cls = some m.cls := findClass_of_methodNamed B.named
  have hlocks := B.notSynchronized
  subst hsz
  have hD := hD0.self (sz := s.heap.size)
  have hS : va_S (va_A ws s.heap.size) s.heap s.heap [] := va_S.rf
  have hl := lv_entry av (n := mL) hle
  rw [hlv] at hl
  rw [lg_entry_eq]
  have K := body (p, l, e, q_rm f w, s, m, av.toArray, below, meth, c, va_A ws s.heap.size, MQ below (q_Q D cs (va_A ws s.heap.size) ws' none) av.toArray s 0 0 (va_A ws s.heap.size)) (by show _ ∧ _; exact ⟨hx, hb, hml, hown, hE, fun q h => Or.inr h, rfl⟩) (by
    intro lv pc hdg H locs ls hP hD hS hl
    exact W.vret hx hb hr (fun t ht hW => ⟨⟨rfl, by show _ ∧ _; exact ⟨by rw [ht]; exact hP, hE.moved hW, hD⟩⟩, hS.F ht⟩) hS.2.2 hdg)
  exact K s.heap [] _ hP hD hS hl
theorem q_start_r {r : Nat} (lv0 : List (Nat × Value)) (own : String) (hy0 : y.cls = own) (hy : plainName own = true) (hlv : lv_args 0 av = lv0) (hle : (lg_sl av).length ≤ mL) (hrt : (∃ n, rt = .object n) ∨ ∃ t, rt = .array t) (body : ∀ κ : q_X, q_ok D cs κ cc mL own (q_rm f w) → (∀ (lv : List (Nat × Value)) (pc : Nat), decode cc pc = .ok (.areturn, 1) → q_J D κ mL 0 0 ws' lv pc [.ref r]) → q_J D κ mL 0 0 ws lv0 0 []) : q_M D cs y cc mL (some rt) f w av ws (some (.ref r)) ws' := by
  intro l sz
  subst hy0
  refine Met.ofW (cc := cc) (maxL := mL) (ret := (some rt)) hy rfl ?_
  intro p e s m args below meth c s₁ B hml hv
  obtain ⟨rfl, hsz, hP, hE, hD0⟩ := hv
  have hx := B.exec
  have hb := B.bytes
  have hr := B.returns
  have hown : s.vm.findClass y.cls = some m.cls := findClass_of_methodNamed B.named
  have hlocks := B.notSynchronized
  subst hsz
  have hD := hD0.self (sz := s.heap.size)
  have hS : va_S (va_A ws s.heap.size) s.heap s.heap [] := va_S.rf
  have hl := lv_entry av (n := mL) hle
  rw [hlv] at hl
  rw [lg_entry_eq]
  have K := body (p, l, e, q_rm f w, s, m, av.toArray, below, meth, c, va_A ws s.heap.size, MQ below (q_Q D cs (va_A ws s.heap.size) ws' (some (.ref r))) av.toArray s 0 0 (va_A ws s.heap.size)) (by show _ ∧ _; exact ⟨hx, hb, hml, hown, hE, fun q h => Or.inr h, rfl⟩) (by
    intro lv pc hdg H locs ls hP hD hS hl
    exact W.aret hx hb hr hrt (Or.inr ⟨r, rfl⟩) (fun t ht hW => ⟨⟨rfl, by show _ ∧ _; exact ⟨by rw [ht]; exact hP, hE.moved hW, hD⟩⟩, hS.F ht⟩) hS.2.2 hdg)
  exact K s.heap [] _ hP hD hS hl
end QS
section QK
variable {D : va_G} {cs : q_CS} {κ : q_X} {cc : ByteArray} {n cl sl : Nat} {own : String} {rm : Room} {ws : va_W} {lv : List (Nat × Value)} {pc : Nat} {st0 : List Value}
variable {y x : MethodName} {bytes : ByteArray} {maxL f w index nA ci N : Nat} {rt : Option FieldType} {C owner : String} {T : u_T} {fs : List Value} {b : Nat} {As rest : List Value} {wc w1 : va_W} {o : Option Value}
theorem j_callV (ok : q_ok D cs κ cc n own rm) (hM : q_M D cs y bytes maxL rt f w (.ref b :: As) wc o w1) (hG : GoodIn q_tbl (wsV own index C y [.code y bytes maxL rt])) (hd : y.cls = C ∧ y.cls ≠ "java/lang/invoke/MethodHandle" ∧ y.cls ≠ "java/lang/invoke/VarHandle" ∧ (parseMethodDescriptor y.desc).map (fun d => d.parameters.length) = some nA) (isC : List Nat) (hn2 : va_nd isC = true) (hC : isC.map (fun i => ws[i]?) = wc.map some) (hs : w1.map (fun q => q.1) = wc.map (fun q => q.1)) (q0 : Nat) (hrc : ws[q0]? = some (b, .inr (ci, fs))) (hcl : vwCl[ci]? = some (C, T, N)) (hn : As.length = nA) (hroom : q_room rm f maxL w = true) (hcs : cl ≤ rm.cells ∧ sl ≤ rm.slots) (hcat : (rest.map fun v => v.category).sum ≤ 8) (hdg : decode cc pc = .ok (.invokevirtual index, 3)) (hst : st0 = As.reverse ++ .ref b :: rest) (ws' : va_W) (hw : q_pt ws isC w1 = ws') (kk : q_J D κ n cl sl ws' lv (pc + 3) (o.toList ++ rest)) : q_J D κ n cl sl ws lv pc st0 := by
  obtain ⟨p, l, e, R, s, m, args, below, meth, c, A, Q⟩ := κ
  obtain ⟨hx, hb, hml, hown, hE, hA, rfl⟩ := ok
  intro H locs ls hP hD hS hl
  subst hst
  subst hw
  have hts := hE.2.2.at args
  have hPc := q_subP hP isC hC
  have hDc := q_subD hD isC hC hn2
  have hFc := va_free (wc := wc) hD hS hA isC hC
  refine q_call (va_runV (As := As) (rest := rest) ⟨hx, hb, hml, hown, hts⟩ (hM l H.size) (cwV nA hts hG rfl rfl rfl hd (q_room_spec hroom)) ⟨q_Pc.blind, va_recv hE.1 hP hcl hrc, q_Pc.mk hPc hDc hE⟩ rfl hn hl.1 rfl (lv_room hcat) hdg ⟨hcs.1, hcs.2⟩) hS (fun q _ h => hFc q h) hFc (fun H1 locs1 hP1 hD1 hk1 hS1 => ?_)
  obtain ⟨hP', hD'⟩ := q_ptP hP hD isC hC hk1 hs hP1
  exact kk H1 locs1 ls hP' hD' hS1 hl
theorem j_callU (ok : q_ok D cs κ cc n own rm) (hM : q_M D cs y bytes maxL rt f w (.ref b :: As) wc o w1) (hG : GoodIn q_tbl (va_wsU own index C owner x y [.code y bytes maxL rt])) (hyx : y = ⟨owner, x.name, x.desc⟩) (hd : owner ≠ "java/lang/invoke/MethodHandle" ∧ owner ≠ "java/lang/invoke/VarHandle" ∧ (parseMethodDescriptor x.desc).map (fun d => d.parameters.length) = some nA) (isC : List Nat) (hn2 : va_nd isC = true) (hC : isC.map (fun i => ws[i]?) = wc.map some) (hs : w1.map (fun q => q.1) = wc.map (fun q => q.1)) (q0 : Nat) (hrc : ws[q0]? = some (b, .inr (ci, fs))) (hcl : vwCl[ci]? = some (C, T, N)) (hn : As.length = nA) (hroom : q_room rm f maxL w = true) (hcs : cl ≤ rm.cells ∧ sl ≤ rm.slots) (hcat : (rest.map fun v => v.category).sum ≤ 8) (hdg : decode cc pc = .ok (.invokevirtual index, 3)) (hst : st0 = As.reverse ++ .ref b :: rest) (ws' : va_W) (hw : q_pt ws isC w1 = ws') (kk : q_J D κ n cl sl ws' lv (pc + 3) (o.toList ++ rest)) : q_J D κ n cl sl ws lv pc st0 := by
  obtain ⟨p, l, e, R, s, m, args, below, meth, c, A, Q⟩ := κ
  obtain ⟨hx, hb, hml, hown, hE, hA, rfl⟩ := ok
  intro H locs ls hP hD hS hl
  subst hst
  subst hw
  have hts := hE.2.2.at args
  have hPc := q_subP hP isC hC
  have hDc := q_subD hD isC hC hn2
  have hFc := va_free (wc := wc) hD hS hA isC hC
  refine q_call (va_runU (As := As) (rest := rest) ⟨hx, hb, hml, hown, hts⟩ (hM l H.size) (va_cwU nA hts hG rfl rfl rfl hyx hd (q_room_spec hroom)) ⟨q_Pc.blind, va_recv hE.1 hP hcl hrc, q_Pc.mk hPc hDc hE⟩ rfl hn hl.1 rfl (lv_room hcat) hdg ⟨hcs.1, hcs.2⟩) hS (fun q _ h => hFc q h) hFc (fun H1 locs1 hP1 hD1 hk1 hS1 => ?_)
  obtain ⟨hP', hD'⟩ := q_ptP hP hD isC hC hk1 hs hP1
  exact kk H1 locs1 ls hP' hD' hS1 hl
theorem j_callS (ok : q_ok D cs κ cc n own rm) (hM : q_M D cs y bytes maxL rt f w As wc o w1) (hG : GoodIn q_tbl (va_wsS own index y [.code y bytes maxL rt])) (hd : y.cls ≠ "java/lang/invoke/MethodHandle" ∧ y.cls ≠ "java/lang/invoke/VarHandle" ∧ (parseMethodDescriptor y.desc).map (fun d => d.parameters.length) = some nA) (isC : List Nat) (hn2 : va_nd isC = true) (hC : isC.map (fun i => ws[i]?) = wc.map some) (hs : w1.map (fun q => q.1) = wc.map (fun q => q.1)) (hn : As.length = nA) (hroom : q_room rm f maxL w = true) (hcs : cl ≤ rm.cells ∧ sl ≤ rm.slots) (hcat : (rest.map fun v => v.category).sum ≤ 8) (hdg : decode cc pc = .ok (.invokestatic index, 3)) (hst : st0 = As.reverse ++ rest) (ws' : va_W) (hw : q_pt ws isC w1 = ws') (kk : q_J D κ n cl sl ws' lv (pc + 3) (o.toList ++ rest)) : q_J D κ n cl sl ws lv pc st0 := by
  obtain ⟨p, l, e, R, s, m, args, below, meth, c, A, Q⟩ := κ
  obtain ⟨hx, hb, hml, hown, hE, hA, rfl⟩ := ok
  intro H locs ls hP hD hS hl
  subst hst
  subst hw
  have hts := hE.2.2.at args
  have hPc := q_subP hP isC hC
  have hDc := q_subD hD isC hC hn2
  have hFc := va_free (wc := wc) hD hS hA isC hC
  refine q_call (va_runS (As := As) (rest := rest) ⟨hx, hb, hml, hown, hts⟩ (hM l H.size) (va_cwS nA hts hG rfl rfl rfl hd (q_room_spec hroom)) ⟨q_Pc.blind, q_Pc.mk hPc hDc hE⟩ rfl hn hl.1 rfl (lv_room hcat) hdg ⟨hcs.1, hcs.2⟩) hS (fun q _ h => hFc q h) hFc (fun H1 locs1 hP1 hD1 hk1 hS1 => ?_)
  obtain ⟨hP', hD'⟩ := q_ptP hP hD isC hC hk1 hs hP1
  exact kk H1 locs1 ls hP' hD' hS1 hl
theorem j_callN (ok : q_ok D cs κ cc n own rm) (hM : q_M D cs y bytes maxL rt f w As wc o w1) (hG : GoodIn q_tbl [.code y bytes maxL rt]) (hnw : (own, index, y) ∈ q_nw) (hini : Cond.initialized y.cls ∈ q_tbl) (hstat : Cond.static y ∈ q_tbl) (hd : y.cls ≠ "java/lang/invoke/MethodHandle" ∧ y.cls ≠ "java/lang/invoke/VarHandle" ∧ (parseMethodDescriptor y.desc).map (fun d => d.parameters.length) = some nA) (isC : List Nat) (hn2 : va_nd isC = true) (hC : isC.map (fun i => ws[i]?) = wc.map some) (hs : w1.map (fun q => q.1) = wc.map (fun q => q.1)) (hn : As.length = nA) (hroom : q_room rm f maxL w = true) (hcs : cl ≤ rm.cells ∧ sl ≤ rm.slots) (hcat : (rest.map fun v => v.category).sum ≤ 8) (hdg : decode cc pc = .ok (.invokestatic index, 3)) (hst : st0 = As.reverse ++ rest) (ws' : va_W) (hw : q_pt ws isC w1 = ws') (kk : q_J D κ n cl sl ws' lv (pc + 3) (o.toList ++ rest)) : q_J D κ n cl sl ws lv pc st0 := by
  obtain ⟨p, l, e, R, s, m, args, below, meth, c, A, Q⟩ := κ
  obtain ⟨hx, hb, hml, hown, hE, hA, rfl⟩ := ok
  intro H locs ls hP hD hS hl
  subst hst
  subst hw
  have hts := hE.2.2.at args
  have hPc := q_subP hP isC hC
  have hDc := q_subD hD isC hC hn2
  have hFc := va_free (wc := wc) hD hS hA isC hC
  refine q_call (va_runSN (As := As) (rest := rest) ⟨hx, hb, hml, hown, hts⟩ (hM l H.size) ⟨va_cnB nA hts hG rfl rfl rfl (hE.2.1 _ hnw) (hts _ hini) hd (q_room_spec hroom), hts _ hstat, trivial⟩ ⟨q_Pc.blind, q_Pc.mk hPc hDc hE⟩ rfl hn hl.1 rfl (lv_room hcat) hdg ⟨hcs.1, hcs.2⟩) hS (fun q _ h => hFc q h) hFc (fun H1 locs1 hP1 hD1 hk1 hS1 => ?_)
  obtain ⟨hP', hD'⟩ := q_ptP hP hD isC hC hk1 hs hP1
  exact kk H1 locs1 ls hP' hD' hS1 hl
theorem q_pt_id : ∀ (is : List Nat) (xs ws : va_W), is.map (fun i => ws[i]?) = xs.map some → q_pt ws is xs = ws
  | [], xs, ws, _ => by simp [q_pt]
  | i :: is, [], ws, h => by simp at h
  | i :: is, x :: xs, ws, h => by
    simp only [List.map_cons, List.cons.injEq] at h
    have e : ws.set i x = ws := by
      obtain ⟨hi, hx⟩ := List.getElem?_eq_some_iff.mp h.1
      rw [← hx, List.set_getElem_self]
    simp only [q_pt, e]
    exact q_pt_id is xs ws h.2
def q_mk (ci : Nat) (fx : List Value) : Prop := (ci = 0 ∧ ∃ u v : Int, fx = [.int (iI u), .int (iI v)]) ∨ (ci = 3 ∧ fx = [])
theorem q_mk0 (u v : Int) : q_mk 0 [.int (iI u), .int (iI v)] := Or.inl ⟨rfl, u, v, rfl⟩
theorem q_mk3 : q_mk 3 [] := Or.inr ⟨rfl, rfl⟩
theorem j_callM {fx : List Value} {v0 v1 : Value} (ok : q_ok D cs κ cc n own rm) (hk : q_mk ci fx) (hM : q_M D cs y bytes maxL rt f w (.ref b :: As) wc o w1) (hG0 : GoodIn q_tbl (va_wsU own index RX0 owner x y [.code y bytes maxL rt])) (hyx : y = ⟨owner, x.name, x.desc⟩) (hd0 : owner ≠ "java/lang/invoke/MethodHandle" ∧ owner ≠ "java/lang/invoke/VarHandle" ∧ (parseMethodDescriptor x.desc).map (fun d => d.parameters.length) = some nA) (hG3 : GoodIn q_tbl (wsV own index RX3 y [.code y bytes maxL rt])) (hd3 : y.cls = RX3 ∧ y.cls ≠ "java/lang/invoke/MethodHandle" ∧ y.cls ≠ "java/lang/invoke/VarHandle" ∧ (parseMethodDescriptor y.desc).map (fun d => d.parameters.length) = some nA) (isC : List Nat) (hn2 : va_nd isC = true) (hC : isC.map (fun i => ws[i]?) = wc.map some) (hs : w1.map (fun q => q.1) = wc.map (fun q => q.1)) (q0 : Nat) (hrc : ws[q0]? = some (b, .inr (ci, v0 :: v1 :: fx))) (hn : As.length = nA) (hroom : q_room rm f maxL w = true) (hcs : cl ≤ rm.cells ∧ sl ≤ rm.slots) (hcat : (rest.map fun v => v.category).sum ≤ 8) (hdg : decode cc pc = .ok (.invokevirtual index, 3)) (hst : st0 = As.reverse ++ .ref b :: rest) (ws' : va_W) (hw : q_pt ws isC w1 = ws') (kk : q_J D κ n cl sl ws' lv (pc + 3) (o.toList ++ rest)) : q_J D κ n cl sl ws lv pc st0 := by
  rcases hk with ⟨rfl, u, v, rfl⟩ | ⟨rfl, rfl⟩
  · exact j_callU ok hM hG0 hyx hd0 isC hn2 hC hs q0 hrc rfl hn hroom hcs hcat hdg hst ws' hw kk
  · exact j_callV ok hM hG3 hd3 isC hn2 hC hs q0 hrc rfl hn hroom hcs hcat hdg hst ws' hw kk
theorem j_ws {ws' : va_W} (is : List Nat) (h : is.map (fun i => ws[i]?) = ws'.map some) (hn : va_nd is = true) (k : q_J D κ n cl sl ws' lv pc st0) : q_J D κ n cl sl ws lv pc st0 := by
  obtain ⟨p, l, e, R, s, m, args, below, meth, c, A, Q⟩ := κ
  intro H locs ls hP hD hS hl
  exact k H locs ls (q_subP hP is h) (q_subD hD is h hn) hS hl
end QK
