/-! p30: what the machine is at the law's entry (written by wip/p30/gen33.py) -/
theorem nw_in : ∀ q ∈ q_nw, Cond.methodLinkNest q.1 q.2.1 q.2.2 "FormulaEditor" ∈ lw_tbl := by decide +kernel
theorem ex_in : ∀ X ∈ q_exs, Cond.castable X X ∈ lw_tbl := by decide +kernel
theorem st_in : ∀ q ∈ q_str, Cond.stringRef q.1 q.2.1 q.2.2 ∈ lw_tbl := by decide +kernel
theorem st_ex : ∀ q ∈ q_str, Cond.exactly (Term.string q.1 q.2.1) "java/lang/String" ∈ flatC (Jvm.Cond.and given_1 narrow_1) := by decide +kernel
theorem nc_in : ∀ q ∈ q_nc, Cond.not (Cond.castable q.1 q.2) ∈ flatC (Jvm.Cond.and given_1 narrow_1) := by decide +kernel
theorem lw_env {p : Program} {s : State} {m : MethodId} {meth : Method} {c : Code} {b L : Nat} {xs : Nat → Int32} (C0 : lw_At p s m meth c b L xs) : ∃ (D : va_G) (cs : q_CS), q_EV D cs s ∧ q_XE s ∧ q_TH (fun q => s.heap.size ≤ q) s s.heap ∧ va_AO RX0 s := by
  obtain ⟨hx, hb, hr, hml, hown, hts, hX, hbl, hlocks, hgv⟩ := C0
  have hq : ∀ w ∈ q_tbl, w.before #[Value.ref b] s = true := fun w hw => hts w (List.mem_filter.mp hw).1
  have hgf := flat_of_before _ hgv
  obtain ⟨c0, i0, k0⟩ := u_known (C := RX0) (T := TX0) (N := 4) (n := 4) hq inT_X0 (hq (.instantiable RX0 4) (q_in 71 (by decide +kernel) (by decide +kernel)))
  obtain ⟨c1, i1, k1⟩ := u_known (C := RX1) (T := TX1) (N := 3) (n := 3) hq inT_X1 (hq (.instantiable RX1 3) (q_in 123 (by decide +kernel) (by decide +kernel)))
  obtain ⟨c2, i2, k2⟩ := u_known (C := RX2) (T := TX2) (N := 2) (n := 2) hq inT_X2 (hq (.instantiable RX2 2) (q_in 107 (by decide +kernel) (by decide +kernel)))
  obtain ⟨c3, i3, k3⟩ := u_known (C := RX3) (T := TX3) (N := 2) (n := 2) hq inT_X3 (hq (.instantiable RX3 2) (q_in 143 (by decide +kernel) (by decide +kernel)))
  obtain ⟨c4, i4, k4⟩ := u_known (C := RX4) (T := TX4) (N := 6) (n := 6) hq inT_X4 (hq (.instantiable RX4 6) (q_in 217 (by decide +kernel) (by decide +kernel)))
  obtain ⟨c5, i5, k5⟩ := u_known (C := RX5) (T := TX5) (N := 13) (n := 13) hq inT_X5 (hq (.instantiable RX5 13) (q_in 149 (by decide +kernel) (by decide +kernel)))
  obtain ⟨c6, i6, k6⟩ := u_known (C := RX6) (T := TX6) (N := 3) (n := 3) hq inT_X6 (hq (.instantiable RX6 3) (q_in 199 (by decide +kernel) (by decide +kernel)))
  obtain ⟨c7, i7, k7⟩ := u_known (C := RX7) (T := TX7) (N := 9) (n := 9) hq inT_X7 (hq (.instantiable RX7 9) (q_in 63 (by decide +kernel) (by decide +kernel)))
  obtain ⟨aI, kaI, coI, fI, gI, hI⟩ := Cond.arrayClass_spec (type := .int) (hq (.arrayClass .int) (q_in 105 (by decide +kernel) (by decide +kernel)))
  obtain ⟨aZ, kaZ, coZ, fZ, gZ, hZ⟩ := Cond.arrayClass_spec (type := .boolean) (hq (.arrayClass .boolean) (q_in 215 (by decide +kernel) (by decide +kernel)))
  have hAO : va_AO RX0 s := va_AO.of (hts (.arrayOver (.object RX0)) (List.mem_of_getElem? (i := 129) (by decide +kernel)))
  obtain ⟨coQ, aQ, kaQ, f1, -, f3, f4, f5⟩ := Cond.arrayOver_spec hAO
  refine ⟨(fun k => match k with | 0 => c0 | 1 => c1 | 2 => c2 | 3 => c3 | 4 => c4 | 5 => c5 | 6 => c6 | _ => c7, fun k => match k with | 0 => i0 | 1 => i1 | 2 => i2 | 3 => i3 | 4 => i4 | 5 => i5 | 6 => i6 | _ => i7), (aI, aZ, aQ, aI), ⟨⟨fun k q hk => ?_, fun k q hk => ?_⟩, fun q hq2 => va_Nw.of rfl (hts _ (nw_in q hq2)), q_PAY.of hq⟩, ⟨fun X hX => va_Nw.of rfl (hts _ (ex_in X hX)), fun q hq2 => ?_, va_Nw.of rfl (hts _ (by decide +kernel)), va_Nw.of rfl (hts _ (by decide +kernel)), va_Nw.of rfl (hts _ (by decide +kernel)), fun q hq2 => va_Nc.of (hgf _ (nc_in q hq2))⟩, ⟨?_, ?_⟩, hAO⟩
  · match k, hk with
    | 0, hk => cases hk; exact k0
    | 1, hk => cases hk; exact k1
    | 2, hk => cases hk; exact k2
    | 3, hk => cases hk; exact k3
    | 4, hk => cases hk; exact k4
    | 5, hk => cases hk; exact k5
    | 6, hk => cases hk; exact k6
    | 7, hk => cases hk; exact k7
    | k + 8, hk => simp [vwCl] at hk
  · match k, hk with
    | 0, hk => cases hk; exact ⟨fun n z => ⟨fun k h => (by cases h), kaI, gI, coI, hI⟩, fI⟩
    | 1, hk => cases hk; exact ⟨fun n z => ⟨fun k h => (by cases h), kaZ, gZ, coZ, hZ⟩, fZ⟩
    | 2, hk => cases hk; exact ⟨fun n z => ⟨fun k h => (by cases h), kaQ, f3, coQ, f4⟩, ⟨kaQ, coQ, f3, f4, f1, f5⟩⟩
    | k + 3, hk => simp at hk
  · obtain ⟨a, -, -, -, ha, -⟩ := Cond.exactly_spec (hgf _ (st_ex q hq2))
    exact ⟨a, vk_R.of (hts _ (st_in q hq2)) ha⟩
  · exact vx_Zqof (hts _ (by decide +kernel)) (hts _ (by decide +kernel)) (hgf _ (by decide +kernel)) (fun a ha => Nat.not_le.mpr ha)
  · exact vx_Zqof (hts _ (by decide +kernel)) (hts _ (by decide +kernel)) (hgf _ (by decide +kernel)) (fun a ha => Nat.not_le.mpr ha)
theorem lw_flags {l : Launch} (hflags : l.flags = flags0) : l.stackTraces = false := by
  unfold Launch.stackTraces
  rw [hflags]
  decide +kernel
