/-! p30: the law from its entry (written by wip/p30/gen33.py) -/
theorem zpm_u {α : Type} (a b c x : List α) : (a ++ (b ++ (c ++ x))).Perm (c ++ (b ++ (a ++ x))) := ((zpm_s a b (c ++ x)).trans (List.Perm.append_left b (zpm_s a c x))).trans (zpm_s b c (a ++ x))
section QST
variable {D : va_G} {cs : q_CS} {κ : q_X} {cl sl pc b L : Nat} {xs : Nat → Int32} {G : va_W} {lv : List (Nat × Value)}
set_option maxRecDepth 100000 in
set_option maxHeartbeats 4000000 in
theorem lw_new (ok : q_ok D cs κ cL_law 8 RL room_1) (ka : va_AO RX0 κ.2.2.2.2.1) (hcl : cl + 55 ≤ 600130 ∧ sl + 5597 ≤ 7301080) (d0 : decode cL_law pc = .ok (.new 8, 3)) (d3 : decode cL_law (pc + 3) = .ok (.dup, 1)) (d4 : decode cL_law (pc + 3 + 1) = .ok (.invokespecial 214, 3)) (kk : ∀ ad rQ rM : Nat → Nat, q_J D κ 8 (cl + 55) (sl + 5597) (zB cs ad rQ rM (fun _ => 0) (fun _ _ => 0) (fun _ _ => 0) ++ G) lv (pc + 7) [.ref (ad 0)]) : q_J D κ 8 cl sl G lv pc [] := by
  refine j_eqW (ws2 := [] ++ G) rfl rfl rfl ?_
  refine j_newG (pc := pc) (index := 8) (ci := 7) (C := RX7) (T := TX7) (N := 9) (fs := [.null, .null, .null, .null, .null, .null, .null, .null, .null]) tyX7 ok inT_X7 tyX7_ok (q_in 62 (by decide +kernel) (by decide +kernel)) (q_in 63 (by decide +kernel) (by decide +kernel)) (q_in 46 (by decide +kernel) (by decide +kernel)) rfl dv_X7 ⟨(by have := hcl.1; show cl + 1 ≤ 600130; omega), (by have := hcl.2; show sl + 9 ≤ 7301080; omega)⟩ d0 (fun x => ?_)
  refine j_dup (pc := pc + 3) ok d3 rfl ?_
  refine j_callIG (pc := pc + 3 + 1) (wr := []) ok ka (k_X7_init (h := x)) gk_X7_init jk_X7_init (q_in 64 (by decide +kernel) (by decide +kernel)) ik_X7_init rfl hk_X7_init [0] [] (by decide) rfl rfl (by decide) (by decide) rfl rfl ⟨(by have := hcl.1; show cl + 1 + 54 ≤ 600130; omega), (by have := hcl.2; show sl + 9 + 5588 ≤ 7301080; omega)⟩ (Nat.le_of_ble_eq_true rfl) d4 rfl (fun w1 hw1 => ?_)
  obtain ⟨q1, q2, q3, q4, q5, q6, q7, q8, q9, q10, q11, q12, q15, q16, q17, q18, q19, q20, q21, q22, q23, q24, q25, q26, q27, q28, q13, q14, rfl⟩ := hw1
  refine j_eqW (ws2 := zB cs (fun k => [x, q1, q2, q3, q4, q5, q6, q7, q8, q9, q10, q11, q12, q15, q16, q17, q18, q19, q20, q21, q22, q23, q24, q25, q26, q27, q28].getD k 0) q13 q14 (fun _ => 0) (fun _ _ => 0) (fun _ _ => 0) ++ G) rfl rfl rfl ?_
  exact kk _ _ _
set_option maxRecDepth 100000 in
set_option maxHeartbeats 4000000 in
theorem lw_start (ok : q_ok D cs κ cL_law 8 RL room_1) (ky : q_ky κ) (ka : va_AO RX0 κ.2.2.2.2.1) (sc : q_sc κ b L xs) (fin : ∀ (cl sl : Nat) (ws : va_W) (lv : List (Nat × Value)), cl ≤ 600130 → sl ≤ 7301080 → q_J D κ 8 cl sl ws lv 358 [.int (iI 1)]) : q_J D κ 8 0 0 [] [(0, .ref b)] 0 [] := by
  refine lw_new (pc := 0) ok ka ⟨by omega, by omega⟩ dL_law_0 dL_law_3 dL_law_4 (fun ap rQp rMp => ?_)
  refine j_astore_n (pc := 7) (lv' := [(1, .ref (ap 0)), (0, .ref b)]) ok dL_law_7 rfl (by decide) rfl ?_
  refine lw_new (pc := 8) ok ka ⟨by omega, by omega⟩ dL_law_8 dL_law_11 dL_law_12 (fun aq rQq rMq => ?_)
  refine j_astore_n (pc := 15) (lv' := [(2, .ref (aq 0)), (1, .ref (ap 0)), (0, .ref b)]) ok dL_law_15 rfl (by decide) rfl ?_
  refine lw_new (pc := 16) ok ka ⟨by omega, by omega⟩ dL_law_16 dL_law_19 dL_law_20 (fun ar rQr rMr => ?_)
  refine j_astore_n (pc := 23) (lv' := [(3, .ref (ar 0)), (2, .ref (aq 0)), (1, .ref (ap 0)), (0, .ref b)]) ok dL_law_23 rfl (by decide) rfl ?_
  refine j_perm (zpm_u _ _ _ _) ?_
  refine lw_first ok ky ⟨by omega, by omega⟩ ⟨rfl, rfl, rfl, rfl, rfl, rfl, rfl, rfl, rfl⟩ ⟨rfl, rfl, rfl, rfl, rfl, rfl, rfl, rfl, rfl⟩ ⟨rfl, rfl, rfl, rfl, rfl, rfl, rfl, rfl, rfl⟩ (fun R Dd K P Rc Ip Iq Ir Ap Fp Aq Fq Ar Fr hp hq hr => ?_)
  exact lw_loop ok ky sc fin 30 0 _ _ R Dd K P Rc 0 Ip Iq Ir Ap Fp Aq Fq Ar Fr (by omega) (by omega) (by omega) (by omega) hp hq hr
end QST
set_option maxRecDepth 100000 in
/-- from the entry, for every script of at most 260 ints, the law comes to its end with true -/
theorem whole_start {p : Program} {e : Env} {s : State} {m : MethodId} {below : List Frame} {meth : Method} {c : Code} (l : Launch) (hflags : l.flags = flags0) {b L : Nat} {xs : Nat → Int32} (hL : L ≤ 260) (C0 : lw_At p s m meth c b L xs) : W p l e room_1 s m #[Value.ref b] below meth c s.heap [] 0 0 (lw_Z below #[Value.ref b] s) (entryFrame m ([Value.ref b] : List Value).toArray 8) := by
  obtain ⟨D, cs, hE, hXE, hTH, hAO⟩ := lw_env C0
  obtain ⟨hx, hb, hr, hml, hown, hts, hX, hbl, hlocks, hgv⟩ := C0
  have hS : va_S (fun q : Nat => s.heap.size ≤ q) s.heap s.heap [] := va_S.rf
  have hP : va_P D vwCl [] s.heap := fun k q h => by simp at h
  have hD : va_D (fun q : Nat => s.heap.size ≤ q) [] := ⟨fun i j p q h => by simp at h, fun k q h => by simp at h⟩
  have hl := lv_entry ([.ref b]) (n := 8) (Nat.le_of_ble_eq_true rfl)
  rw [lg_entry_eq]
  have hl : lv_has _ 8 [(0, .ref b)] := hl
  have K : q_J D (p, l, e, room_1, s, m, #[Value.ref b], below, meth, c, fun q : Nat => s.heap.size ≤ q, lw_Z below #[Value.ref b] s) 8 0 0 [] [(0, .ref b)] 0 [] := by
    refine lw_start (cs := cs) (b := b) (L := L) (xs := xs) ?_ ?_ hAO ?_ ?_
    · show _ ∧ _
      exact ⟨hx, hb, hml, hown, hE, fun q h => h, rfl⟩
    · show _ ∧ _
      exact ⟨lw_flags hflags, hXE, hTH⟩
    · show _ ∧ _
      exact ⟨hX, hbl, Nat.not_le.mpr hbl, by omega⟩
    · intro cl sl ws lv h1 h2 H locs ls hP hD hS hl
      refine va_forget (fun q hq => hS.2.2 q hq) ?_
      refine W.widen h1 h2 ?_
      have e1 : iI 1 = 1 := by decide
      rw [e1]
      exact lw_ret hx hb hr hlocks dL_law_358
  exact K s.heap [] _ hP hD hS hl
