/-! the fourteen Formulas of the history, as one tail of a world; calls that hand the whole tail on -/
def q_ring (cs : q_CS) (Q M0 : Nat → Nat) (S C M : Nat → Int) (F : Nat → Nat → Int) : va_W := (List.range 14).flatMap (fun k => [(Q k, .inr (0, [.ref (M0 k), .int (iI (S k)), .int (iI (C k)), .int (iI (M k))])), (M0 k, .inl (cs.1, 180, .inl (aI (F k))))])
theorem q_ring_len (cs : q_CS) (Q M0 : Nat → Nat) (S C M : Nat → Int) (F : Nat → Nat → Int) : (q_ring cs Q M0 S C M F).length = 28 := rfl
theorem q_ring_fst (cs : q_CS) (Q M0 : Nat → Nat) (S C M S' C' M' : Nat → Int) (F F' : Nat → Nat → Int) : (q_ring cs Q M0 S' C' M' F').map (fun q => q.1) = (q_ring cs Q M0 S C M F).map (fun q => q.1) := rfl
theorem q_nd_app : ∀ (a b : List Nat), va_nd a = true → va_nd b = true → (∀ x ∈ a, x ∉ b) → va_nd (a ++ b) = true
  | [], b, _, hb, _ => hb
  | x :: a, b, ha, hb, hd => by
    simp only [va_nd, Bool.and_eq_true, decide_eq_true_eq] at ha
    simp only [List.cons_append, va_nd, Bool.and_eq_true, decide_eq_true_eq]
    exact ⟨fun h => (List.mem_append.mp h).elim ha.1 (hd x List.mem_cons_self), q_nd_app a b ha.2 hb (fun y hy => hd y (List.mem_cons_of_mem _ hy))⟩
theorem q_nd_range : ∀ (n s : Nat), va_nd (List.range' s n) = true
  | 0, s => rfl
  | n + 1, s => by
    simp only [List.range'_succ, va_nd, Bool.and_eq_true, decide_eq_true_eq]
    refine ⟨fun h => ?_, q_nd_range n (s + 1)⟩
    have := List.mem_range'_1.mp h
    omega
theorem q_mem_lt {ws1 wc : va_W} {isC : List Nat} (hC : isC.map (fun i => ws1[i]?) = wc.map some) : ∀ i ∈ isC, i < ws1.length := by
  intro i hi
  have h1 : ws1[i]? ∈ isC.map (fun i => ws1[i]?) := List.mem_map.mpr ⟨i, hi, rfl⟩
  rw [hC] at h1
  obtain ⟨q, -, hq⟩ := List.mem_map.mp h1
  exact (List.getElem?_eq_some_iff.mp hq.symm).1
theorem q_mapG {ws1 G wc : va_W} {isC : List Nat} (hC : isC.map (fun i => ws1[i]?) = wc.map some) : (isC ++ List.range' ws1.length G.length).map (fun i => (ws1 ++ G)[i]?) = (wc ++ G).map some := by
  rw [List.map_append, List.map_append]
  congr 1
  · rw [← hC]
    refine List.map_congr_left (fun i hi => ?_)
    exact List.getElem?_append_left (q_mem_lt hC i hi)
  · refine List.ext_getElem? (fun j => ?_)
    rw [List.getElem?_map, List.getElem?_map]
    by_cases hj : j < G.length
    · rw [List.getElem?_range' hj, List.getElem?_eq_getElem hj]
      simp [hj]
    · rw [List.getElem?_eq_none (by simp; omega), List.getElem?_eq_none (by omega)]
      rfl
theorem q_pt_tail : ∀ (B G' A : va_W), B.length = G'.length → q_pt (A ++ B) (List.range' A.length B.length) G' = A ++ G'
  | [], [], A, _ => by simp [q_pt]
  | [], _ :: _, A, h => by simp at h
  | _ :: _, [], A, h => by simp at h
  | b :: B, g :: G', A, h => by
    have h' : B.length = G'.length := by simpa using h
    have e1 : (A ++ b :: B).set A.length g = (A ++ [g]) ++ B := by
      rw [List.set_append_right _ _ (Nat.le_refl _)]
      simp
    have e2 : (A ++ [g]).length = A.length + 1 := by simp
    show q_pt (A ++ b :: B) (List.range' A.length (B.length + 1)) (g :: G') = _
    rw [List.range'_succ]
    show q_pt ((A ++ b :: B).set A.length g) (List.range' (A.length + 1) B.length) G' = _
    rw [e1, ← e2, q_pt_tail B G' (A ++ [g]) h']
    simp
theorem q_ptG : ∀ (isC : List Nat) (w1 ws1 G G' : va_W), isC.length = w1.length → (∀ i ∈ isC, i < ws1.length) → G.length = G'.length → q_pt (ws1 ++ G) (isC ++ List.range' ws1.length G.length) (w1 ++ G') = q_pt ws1 isC w1 ++ G'
  | [], [], ws1, G, G', _, _, h => by simpa [q_pt] using q_pt_tail G G' ws1 h
  | [], _ :: _, ws1, G, G', h, _, _ => by simp at h
  | _ :: _, [], ws1, G, G', h, _, _ => by simp at h
  | i :: is, x :: xs, ws1, G, G', h, hlt, hg => by
    have h' : is.length = xs.length := by simpa using h
    show q_pt ((ws1 ++ G).set i x) (is ++ List.range' ws1.length G.length) (xs ++ G') = q_pt (ws1.set i x) is xs ++ G'
    rw [List.set_append_left _ _ (hlt i List.mem_cons_self)]
    have e := q_ptG is xs (ws1.set i x) G G' h' (fun j hj => by rw [List.length_set]; exact hlt j (List.mem_cons_of_mem _ hj)) hg
    rw [List.length_set] at e
    exact e
section QG
variable {D : va_G} {cs : q_CS} {κ : q_X} {cc : ByteArray} {n cl sl : Nat} {own : String} {rm : Room} {ws1 G G' : va_W} {lv : List (Nat × Value)} {pc : Nat} {st0 : List Value}
variable {y x : MethodName} {bytes : ByteArray} {maxL f w index nA ci N : Nat} {rt : Option FieldType} {C owner : String} {T : u_T} {fs : List Value} {b : Nat} {As rest : List Value} {wc w1 : va_W} {o : Option Value}
theorem j_callVG (ok : q_ok D cs κ cc n own rm) (hM : q_M D cs y bytes maxL rt f w (.ref b :: As) (wc ++ G) o (w1 ++ G')) (hG : GoodIn q_tbl (wsV own index C y [.code y bytes maxL rt])) (hd : y.cls = C ∧ y.cls ≠ "java/lang/invoke/MethodHandle" ∧ y.cls ≠ "java/lang/invoke/VarHandle" ∧ (parseMethodDescriptor y.desc).map (fun d => d.parameters.length) = some nA) (isC : List Nat) (hn2 : va_nd isC = true) (hC : isC.map (fun i => ws1[i]?) = wc.map some) (hs : w1.map (fun q => q.1) = wc.map (fun q => q.1)) (hgf : G'.map (fun q => q.1) = G.map (fun q => q.1)) (q0 : Nat) (hrc : ws1[q0]? = some (b, .inr (ci, fs))) (hcl : vwCl[ci]? = some (C, T, N)) (hn : As.length = nA) (hroom : q_room rm f maxL w = true) (hcs : cl ≤ rm.cells ∧ sl ≤ rm.slots) (hcat : (rest.map fun v => v.category).sum ≤ 8) (hdg : decode cc pc = .ok (.invokevirtual index, 3)) (hst : st0 = As.reverse ++ .ref b :: rest) (ws' : va_W) (hw : q_pt ws1 isC w1 = ws') (kk : q_J D κ n cl sl (ws' ++ G') lv (pc + 3) (o.toList ++ rest)) : q_J D κ n cl sl (ws1 ++ G) lv pc st0 := by
  have hlen : isC.length = w1.length := by
    have e1 := congrArg List.length hC
    have e2 := congrArg List.length hs
    simp only [List.length_map] at e1 e2
    omega
  have hgl : G.length = G'.length := by
    have e2 := congrArg List.length hgf
    simp only [List.length_map] at e2
    omega
  have hlt := q_mem_lt hC
  refine j_callV (fs := fs) (ci := ci) (ws' := ws' ++ G') ok hM hG hd (isC ++ List.range' ws1.length G.length) ?_ (q_mapG hC) ?_ q0 ?_ hcl hn hroom hcs hcat hdg hst ?_ kk
  · refine q_nd_app _ _ hn2 (q_nd_range _ _) (fun z hz hz2 => ?_)
    have h1 := hlt z hz
    have h2 := List.mem_range'_1.mp hz2
    omega
  · rw [List.map_append, List.map_append, hs, hgf]
  · rw [List.getElem?_append_left (List.getElem?_eq_some_iff.mp hrc).1]
    exact hrc
  · rw [q_ptG isC w1 ws1 G G' hlen hlt hgl, hw]
end QG
