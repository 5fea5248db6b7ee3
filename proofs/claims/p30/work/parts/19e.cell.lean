/-! p30: a cell of the script -/
theorem zand_p (a : Int) : 0 ≤ zand a 2147483647 := by
  unfold zand
  have h : (iI a &&& iI 2147483647).toBitVec.msb = false := by
    rw [Int32.toBitVec_and, BitVec.msb_and, show (iI 2147483647).toBitVec.msb = false by decide, Bool.and_false]
  show 0 ≤ (iI a &&& iI 2147483647).toBitVec.toInt
  rw [BitVec.toInt_eq_toNat_of_msb h]
  exact Int.natCast_nonneg _
def zcl9 (N : Nat) (xs : Nat → Int32) (k : Int) : Int := zand (if k < (N : Int) then zsv xs k.toNat else 15513877 * (k + 5) + 9767) 2147483647
theorem zcl9_r (N : Nat) (xs : Nat → Int32) (k : Int) : 0 ≤ zcl9 N xs k ∧ zcl9 N xs k ≤ 2147483647 := ⟨zand_p _, (zand_r _ _).2⟩
def q_Pz (D : va_G) (cs : q_CS) (av : List Value) (sz b N : Nat) (xs : Nat → Int32) : Array Value → State → Prop := va_Pc av (fun U => U.heap.size = sz ∧ va_X b N xs U U.heap ∧ b < sz ∧ q_EV D cs U)
theorem q_Pz.blind {D : va_G} {cs : q_CS} {av : List Value} {sz b N : Nat} {xs : Nat → Int32} : FrameBlind (q_Pz D cs av sz b N xs) := by
  intro a U g mk q
  obtain ⟨h0, h1, h2, h3, h4⟩ := q
  have hW : U.WarmedH (U.calling g mk a).vm := State.WarmedH.refl U
  exact ⟨h0, h1, h2.moved hW.alike, h3, h4.moved hW⟩
theorem q_Pz.mk {D : va_G} {cs : q_CS} {av : List Value} {A : Nat → Prop} {s : State} {b N : Nat} {xs : Nat → Int32} {H : Heap} {locs : List Loc} (hX : va_X b N xs s s.heap) (hbl : b < s.heap.size) (hbA : ¬ A b) (hE : q_EV D cs s) (hS : va_S A s.heap H locs) : ∀ U : State, U.heap = H → s.WarmedH U.vm → q_Pz D cs av H.size b N xs av.toArray U := by
  intro U hU hW
  refine ⟨rfl, by rw [hU], ?_, Nat.lt_of_lt_of_le hbl hS.1, hE.moved hW⟩
  rw [hU]
  exact (hX.kept (hS.2.1 b hbl hbA)).moved hW.alike
/-- the walk -/
theorem k_cellJ {D : va_G} {cs : q_CS} {κ : q_X} {b N : Nat} {xs : Nat → Int32} {k : Int} (ok : q_ok D cs κ cL_cell 2 RL (q_ro 1 20 0 0)) (sc : q_sc κ b N xs) (hk : 0 ≤ k ∧ k ≤ 1000) (hN : N ≤ 2048) (fin : ∀ (cl sl : Nat) (lv : List (Nat × Value)) (pc : Nat), cl ≤ 0 → sl ≤ 0 → decode cL_cell pc = .ok (.ireturn, 1) → q_J D κ 2 cl sl [] lv pc [.int (iI (zcl9 N xs k))]) : q_J D κ 2 0 0 [] [(0, .ref b), (1, .int (iI k))] 0 [] := by
  refine j_iload_n (pc := 0) 1 ok dL_cell_0 rfl rfl ?_
  refine j_aload_n (pc := 1) 0 ok dL_cell_1 rfl rfl ?_
  refine j_slen (pc := 2) ok sc dL_cell_2 ?_
  have last : ∀ v : Int, zand v 2147483647 = zcl9 N xs k → q_J D κ 2 0 0 [] [(0, .ref b), (1, .int (iI k))] 22 [.int (iI v)] := by
    intro v hv
    refine j_ldcI (pc := 22) 2147483647 ok dL_cell_22 (q_in 807 (by decide +kernel) (by decide +kernel)) ?_
    refine j_iand (pc := 24) ok dL_cell_24 ?_
    rw [hv]
    exact fin _ _ _ 25 (Nat.le_refl _) (Nat.le_refl _) dL_cell_25
  by_cases h : k < (N : Int)
  · refine j_icmp_ge (ρ := Unit) (r := ()) (A := none) (B := some ()) (a := k) (b := (N : Int)) (pc := 3) 12 ok dL_cell_3 (by decide) (z_lt_t (by omega)) (fun h => by cases h) (fun _ => ?_)
    refine j_aload_n (pc := 6) 0 ok dL_cell_6 rfl rfl ?_
    refine j_iload_n (pc := 7) 1 ok dL_cell_7 rfl rfl ?_
    refine j_sld (pc := 8) k.toNat ok sc (by omega) (by omega) dL_cell_8 ?_
    refine j_goto (pc := 9) 22 ok dL_cell_9 (by decide) ?_
    exact last _ (by unfold zcl9; rw [if_pos h])
  · refine j_icmp_ge (ρ := Unit) (r := ()) (A := some ()) (B := none) (a := k) (b := (N : Int)) (pc := 3) 12 ok dL_cell_3 (by decide) (z_lt_f (by omega)) (fun _ => ?_) (fun h => by cases h)
    refine j_ldcI (pc := 12) 15513877 ok dL_cell_12 (q_in 806 (by decide +kernel) (by decide +kernel)) ?_
    refine j_iload_n (pc := 14) 1 ok dL_cell_14 rfl rfl ?_
    refine j_iconst (pc := 15) ok dL_cell_15 ?_
    refine j_iadd (pc := 16) ok dL_cell_16 ?_
    refine j_imul (pc := 17) ok dL_cell_17 ?_
    refine j_sipush (pc := 18) ok dL_cell_18 (by decide) ?_
    refine j_iadd (pc := 21) ok dL_cell_21 ?_
    exact last _ (by unfold zcl9; rw [if_neg h])
theorem k_L_cell {D : va_G} {cs : q_CS} {b N : Nat} {xs : Nat → Int32} {k : Int} (hk : 0 ≤ k ∧ k ≤ 1000) (hN : N ≤ 2048) (l : Launch) (sz : Nat) : Met l yL_cell [.code yL_cell cL_cell 2 (some .int)] (q_ro 1 20 0 0) (q_Pz D cs [.ref b, .int (iI k)] sz b N xs) (q_Q D cs (va_A [] sz) [] (some (.int (iI (zcl9 N xs k))))) 0 0 (va_A [] sz) := by
  refine Met.ofW (cc := cL_cell) (maxL := 2) (ret := some .int) (by decide +kernel) rfl ?_
  intro p e s m args below meth c s₁ B hml hv
  obtain ⟨rfl, hsz, hX, hbs, hE⟩ := hv
  have hx := B.exec
  have hb := B.bytes
  have hr := B.returns
  have hown : s.vm.findClass yL_cell.cls = some m.cls := findClass_of_methodNamed B.named
  have hlocks := B.notSynchronized
  subst hsz
  have hP : va_P D vwCl [] s.heap := fun k q h => by simp at h
  have hD : va_D (va_A [] s.heap.size) [] := ⟨fun i j p q h => by simp at h, fun k q h => by simp at h⟩
  have hS : va_S (va_A [] s.heap.size) s.heap s.heap [] := va_S.rf
  have hbA : ¬ va_A [] s.heap.size b := by
    rintro (⟨k, e, h⟩ | h)
    · simp at h
    · omega
  have hl := lv_entry ([.ref b, .int (iI k)]) (n := 2) (Nat.le_of_ble_eq_true rfl)
  rw [show lv_args 0 [Value.ref b, Value.int (iI k)] = [(0, .ref b), (1, .int (iI k))] from rfl] at hl
  rw [lg_entry_eq]
  have K := k_cellJ (D := D) (cs := cs) (κ := (p, l, e, q_ro 1 20 0 0, s, m, [Value.ref b, Value.int (iI k)].toArray, below, meth, c, va_A [] s.heap.size, MQ below (q_Q D cs (va_A [] s.heap.size) [] (some (.int (iI (zcl9 N xs k))))) [Value.ref b, Value.int (iI k)].toArray s 0 0 (va_A [] s.heap.size))) (by show _ ∧ _; exact ⟨hx, hb, hml, hown, hE, fun q h => Or.inr h, rfl⟩) (by show _ ∧ _; exact ⟨hX, hbs, hbA, hN⟩) hk hN (by
    intro cl sl lv pc hc hs hdg H locs ls hP hD hS hl
    refine W.widen (k := 0) (n := 0) hc hs ?_
    exact W.zret hx hb hr rfl (fun t ht hW => ⟨⟨rfl, by show _ ∧ _; exact ⟨by rw [ht]; exact hP, hE.moved hW, hD⟩⟩, hS.F ht⟩) hS.2.2 hdg)
  exact K s.heap [] _ hP hD hS hl
/-- a call of it -/
theorem j_callC {D : va_G} {cs : q_CS} {κ : q_X} {cc : ByteArray} {n cl sl index : Nat} {own : String} {rm : Room} {ws : va_W} {lv : List (Nat × Value)} {pc b L : Nat} {xs : Nat → Int32} {k : Int} {rest : List Value} (ok : q_ok D cs κ cc n own rm) (sc : q_sc κ b L xs) (hG : GoodIn q_tbl (va_wsS own index yL_cell [.code yL_cell cL_cell 2 (some .int)])) (hk : 0 ≤ k ∧ k ≤ 1000) (hroom : q_room rm 1 2 20 = true) (hcs : cl ≤ rm.cells ∧ sl ≤ rm.slots) (hcat : (rest.map fun v => v.category).sum ≤ 8) (hdg : decode cc pc = .ok (.invokestatic index, 3)) (kk : q_J D κ n cl sl ws lv (pc + 3) (.int (iI (zcl9 L xs k)) :: rest)) : q_J D κ n cl sl ws lv pc (.int (iI k) :: .ref b :: rest) := by
  obtain ⟨p, l, e, R, s, m, args, below, meth, c, A, Q⟩ := κ
  obtain ⟨hx, hb, hml, hown, hE, hA, rfl⟩ := ok
  obtain ⟨hX, hbl, hbA, hL⟩ := sc
  intro H locs ls hP hD hS hl
  have hts := hE.2.2.at args
  have hFc := va_free (wc := []) hD hS hA [] rfl
  refine q_call (va_runS (As := [.ref b, .int (iI k)]) (rest := rest) ⟨hx, hb, hml, hown, hts⟩ (k_L_cell (D := D) (cs := cs) (b := b) (N := L) (xs := xs) (k := k) hk hL l H.size) (va_cwS 2 hts hG rfl rfl rfl hd_L_cell (q_room_spec hroom)) ⟨q_Pz.blind, q_Pz.mk hX hbl hbA hE hS⟩ rfl rfl hl.1 rfl (lv_room hcat) hdg ⟨hcs.1, hcs.2⟩) hS (fun q _ h => hFc q h) hFc (fun H1 locs1 hP1 hD1 hk1 hS1 => ?_)
  obtain ⟨hP', hD'⟩ := q_ptP hP hD [] rfl hk1 rfl hP1
  exact kk H1 locs1 ls hP' hD' hS1 hl
