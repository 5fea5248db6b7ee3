/-! p30: a linear text has no error, and loads as its formula -/
section FE
variable {ts y top st br ch fa un pl sc bo n top2 st2 br2 ch2 fa2 un2 pl2 sc2 bo2 n2 c : Int} {sF S M S2 M2 : Nat → Int} {eC : Int × Int × Int × Int × Int × Int × Int × Int × Int × Int × (Nat → Int) × (Nat → Int) × Int → Option (Int × zRtu)} {fu : Nat}
theorem m_fe_go (hy : 0 ≤ y ∧ y < ts ∧ ts ≤ 120) (hc : sF y.toNat = c) (ht : f_X5_takes top st br ch fa un pl sc bo n S M c = some (1, top2, st2, br2, ch2, fa2, un2, pl2, sc2, bo2, n2, S2, M2)) : f_X5_firstError_6 ts sF eC (fu + 1) top st br ch fa un pl sc bo n S M y = f_X5_firstError_6 ts sF eC fu top2 st2 br2 ch2 fa2 un2 pl2 sc2 bo2 n2 S2 M2 (y + 1) := by
  rw [f_X5_firstError_6, z_lt_t (by omega), z_lt_t (by omega), z_in (by omega), hc, ht, z_bd]
  exact z_eq_f (by omega)
theorem m_fe_no (hy : 0 ≤ y ∧ y < ts ∧ ts ≤ 120) (hc : sF y.toNat = c) (ht : f_X5_takes top st br ch fa un pl sc bo n S M c = some (0, top2, st2, br2, ch2, fa2, un2, pl2, sc2, bo2, n2, S2, M2)) : f_X5_firstError_6 ts sF eC (fu + 1) top st br ch fa un pl sc bo n S M y = some (y, top2, st2, br2, ch2, fa2, un2, pl2, sc2, bo2, n2, S2, M2) := by
  rw [f_X5_firstError_6, z_lt_t (by omega), z_lt_t (by omega), z_in (by omega), hc, ht, z_bd]
  exact z_eq_t (by omega)
theorem m_fe_end (hy : y = ts) (ht : 0 ≤ ts ∧ ts ≤ 120) : f_X5_firstError_6 ts sF eC (fu + 1) top st br ch fa un pl sc bo n S M y = eC (top, st, br, ch, fa, un, pl, sc, bo, n, S, M, ts) := by
  subst hy
  rw [f_X5_firstError_6]
  exact z_lt_f (by omega)
end FE
/-- the reader's loop from a state on -/
def zfe (ts : Int) (sF : Nat → Int) (eC : Int × Int × Int × Int × Int × Int × Int × Int × Int × Int × (Nat → Int) × (Nat → Int) × Int → Option (Int × zRtu)) (fu : Nat) (s : zRtu) (y : Int) : Option (Int × zRtu) := match s with
  | (top, st, br, ch, fa, un, pl, sc, bo, n, S, M) => f_X5_firstError_6 ts sF eC fu top st br ch fa un pl sc bo n S M y
theorem m_fe_run {ts : Int} {sF : Nat → Int} {eC : Int × Int × Int × Int × Int × Int × Int × Int × Int × Int × (Nat → Int) × (Nat → Int) × Int → Option (Int × zRtu)} (hts : ts ≤ 120) : ∀ (V A B : List Int) (s s' : zRtu) (fu : Nat), zC sF (A ++ (V ++ B)) → ts = (A.length : Int) + V.length + B.length → zks V s s' → V.length ≤ fu → zfe ts sF eC fu s (A.length : Int) = zfe ts sF eC (fu - V.length) s' ((A.length : Int) + V.length)
  | [], A, B, s, s', fu, hC, ht, h, hf => by
    have e : s' = s := h
    subst e
    simp
  | c :: V, A, B, s, s', fu, hC, ht, ⟨s1, h1, h2⟩, hf => by
    simp only [List.length_cons] at ht hf
    obtain ⟨f2, rfl⟩ : ∃ f, fu = f + 1 := ⟨fu - 1, by omega⟩
    have hc : sF ((A.length : Nat) : Int).toNat = c := by
      rw [Int.toNat_natCast]
      exact hC A c (V ++ B) (by simp)
    obtain ⟨top, st, br, ch, fa, un, pl, sc, bo, n, S, M⟩ := s
    obtain ⟨top2, st2, br2, ch2, fa2, un2, pl2, sc2, bo2, n2, S2, M2⟩ := s1
    have g := m_fe_go (ts := ts) (sF := sF) (eC := eC) (fu := f2) (y := (A.length : Int)) (by omega) hc h1
    have ih := m_fe_run (eC := eC) hts V (A ++ [c]) B (top2, st2, br2, ch2, fa2, un2, pl2, sc2, bo2, n2, S2, M2) s' f2 (by rw [show A ++ [c] ++ (V ++ B) = A ++ (c :: V ++ B) by simp]; exact hC) (by simp only [List.length_append, List.length_cons, List.length_nil]; omega) h2 (by omega)
    rw [show ((A ++ [c]).length : Int) = (A.length : Int) + 1 by simp] at ih
    refine Eq.trans g ?_
    refine Eq.trans ih ?_
    simp only [List.length_cons]
    rw [show f2 + 1 - (V.length + 1) = f2 - V.length by omega, show (A.length : Int) + 1 + V.length = (A.length : Int) + ((V.length + 1 : Nat) : Int) by omega]
def zeC (ts : Int) : Int × Int × Int × Int × Int × Int × Int × Int × Int × Int × (Nat → Int) × (Nat → Int) × Int → Option (Int × zRtu) := fun (z3 : Int × Int × Int × Int × Int × Int × Int × Int × Int × Int × (Nat → Int) × (Nat → Int) × Int) => jn (fun (z6 : Unit) => some (ts, z3.1, z3.2.1, z3.2.2.1, z3.2.2.2.1, z3.2.2.2.2.1, z3.2.2.2.2.2.1, z3.2.2.2.2.2.2.1, z3.2.2.2.2.2.2.2.1, z3.2.2.2.2.2.2.2.2.1, z3.2.2.2.2.2.2.2.2.2.1, z3.2.2.2.2.2.2.2.2.2.2.1, z3.2.2.2.2.2.2.2.2.2.2.2.1)) (fun k4 => cEq z3.2.2.1 0 (cEq z3.2.1 2 (k4 ()) (cEq z3.2.1 3 (k4 ()) (bd (f_X5_endFactor z3.2.1 z3.2.2.2.2.1 z3.2.2.2.2.2.1 z3.2.2.2.2.2.2.1 z3.2.2.2.2.2.2.2.2.2.1 z3.2.2.2.2.2.2.2.2.2.2.2.1) (fun r5 => some ((-9), z3.1, z3.2.1, z3.2.2.1, z3.2.2.2.1, z3.2.2.2.2.1, r5.1, r5.2.1, z3.2.2.2.2.2.2.2.1, z3.2.2.2.2.2.2.2.2.1, r5.2.2.1, z3.2.2.2.2.2.2.2.2.2.2.1, r5.2.2.2))))) (k4 ()))
section LD
variable {ts top st br ch fa un pl sc bo n : Int} {sF S M : Nat → Int}
theorem m_fe_begin : f_X5_firstError ts top st br ch fa un pl sc bo n sF S M = zfe ts sF (zeC ts) fuel (0, 0, 0, 0, 0, 0, 0, 0, 0, 0, S, M) 0 := by
  unfold f_X5_firstError f_X5_begin f_X5_beginText
  simp (disch := omega) only [z_bd, z_gB]
  rfl
theorem zel_begin : zel [] 0 0 [] [] [] 0 0 ((0, 0, 0, 0, 0, 0, 0, 0, 0, 0, S, M) : zRtu) := by
  refine ⟨0, 0, 0, 0, 0, S, M, rfl, ⟨trivial, Or.inl ⟨rfl, rfl⟩, trivial, by simp⟩, Or.inl rfl, ⟨⟨by simp [zpre, zlh], by simp [zpre, zlh], by omega⟩, ?_, ?_⟩, zrw0 rfl, fun z => by omega⟩
  · intro A m T e
    simp [zpre, zlh] at e
  · intro m hm
    simp [zpre, zlh] at hm
/-- the text of a formula, read to its end -/
theorem m_reads {L : List Int} (hb : zbal L) (hl : (ztx L).length ≤ 120) : ∃ s' : zRtu, zks (ztx L) (0, 0, 0, 0, 0, 0, 0, 0, 0, 0, S, M) s' ∧ zQ [] 0 L (zvf L false) s' ∧ zwt s' ≤ 3 * (ztx L).length := by
  obtain ⟨s', a1, a2, a3⟩ := zP_all L.length L (Nat.le_refl _) hb [] 0 [] false _ rfl (zel0_Q (zel_begin (S := S) (M := M))) (by show (0 : Int) + 0 + _ ≤ _; have : (zvt L false).length ≤ 120 := hl; omega) (by simpa using hl)
  rw [List.nil_append] at a2
  have a3' : zwt s' ≤ 0 + 0 + 3 * (ztx L).length := a3
  exact ⟨s', a1, a2, by omega⟩
theorem m_err {L : List Int} (hb : zbal L) (hl : (ztx L).length ≤ 120) (hF : zC sF (ztx L)) (hts : ts = ((ztx L).length : Int)) : ∃ (top' st' ch' fa' pl' bo' n' : Int) (S' M' : Nat → Int), f_X5_firstError ts top st br ch fa un pl sc bo n sF S M = some (-9, top', st', 0, ch', fa', 0, pl', 0, bo', n', S', M') ∧ zCx 360 n' M' L := by
  obtain ⟨s', a1, a2, a3⟩ := m_reads (S := S) (M := M) hb hl
  obtain ⟨top3, st3, ch3, fa3, un3, pl3, bo3, n3, pl4, n4, S3, M3, M4, rfl, e2, e3, e4, e5, e6, e7, e8⟩ := zQ_end a2 (by omega)
  rw [m_fe_begin]
  have g := m_fe_run (ts := ts) (sF := sF) (eC := zeC ts) (by omega) (ztx L) [] [] _ _ fuel (by simpa using hF) (by simp; omega) a1 (by unfold fuel; omega)
  simp only [List.length_nil] at g
  refine ⟨top3, st3, ch3, fa3, pl4, bo3, n4, S3, M4, ?_, by simpa [zpre] using e6⟩
  refine Eq.trans g ?_
  obtain ⟨f2, hf2⟩ : ∃ f, fuel - (ztx L).length = f + 1 := ⟨fuel - (ztx L).length - 1, by unfold fuel; omega⟩
  rw [hf2]
  refine Eq.trans (m_fe_end (by omega) (by omega)) ?_
  unfold zeC
  dsimp only
  simp (disch := omega) only [z_jn, z_eq_t, z_eq_f, e5, z_bd]
/-- with a script's sign behind it: too short -/
theorem m_err94 {L : List Int} (hb : zbal L) (hl : (ztx L).length ≤ 118) (hF : zC sF (ztx L ++ [94])) (hts : ts = ((ztx L).length : Int) + 1) : ∃ r : zRtu, f_X5_firstError ts top st br ch fa un pl sc bo n sF S M = some (((ztx L).length : Int) + 1, r) := by
  obtain ⟨s', a1, a2, a3⟩ := m_reads (S := S) (M := M) hb (by omega)
  have ha2 := a2
  obtain ⟨st0, G0, N0, F0, un0, pl0, h1, -, -⟩ := a2
  obtain ⟨top1, ch1, fa1, bo1, n1, S1, M1, rfl, q1, q2, q3, q4, q5⟩ := h1
  have hn := zlen q3
  have hw : n1 + un0 ≤ 3 * (ztx L).length := a3
  have hun := q4.2.1
  have hst : st0 = 0 ∨ st0 = 1 := by rcases q4.2.2.2 with h | h <;> omega
  obtain ⟨M2, b1, b2⟩ := c_add q3 (m := 2) (by unfold zv; omega) (by omega)
  have k94 : zk1 94 (top1, st0, 0, ch1, fa1, un0, pl0, 0, bo1, n1, S1, M1) (top1, 2, 0, ch1, fa1, un0, pl0, 2, st0, n1 + 1, S1, M2) := c_tk_script hst (Or.inl ⟨rfl, rfl⟩) b1
  rw [m_fe_begin]
  have g := m_fe_run (ts := ts) (sF := sF) (eC := zeC ts) (by omega) (ztx L ++ [94]) [] [] _ _ fuel (by simpa using hF) (by simp; omega) (zks_app a1 (zks_one k94)) (by simp; unfold fuel; omega)
  simp only [List.length_nil] at g
  have hl94 : (ztx L ++ [94]).length = (ztx L).length + 1 := by simp
  obtain ⟨f2, hf2⟩ : ∃ f, fuel - (ztx L ++ [94]).length = f + 1 := ⟨fuel - (ztx L ++ [94]).length - 1, by rw [hl94]; unfold fuel; omega⟩
  rw [hf2, hl94] at g
  have hpos : ((0 : Nat) : Int) + (((ztx L).length + 1 : Nat) : Int) = ts := by omega
  rw [hpos] at g
  refine ⟨(top1, 2, 0, ch1, fa1, un0, pl0, 2, st0, n1 + 1, S1, M2), Eq.trans g ?_⟩
  refine Eq.trans (m_fe_end rfl (by omega)) ?_
  unfold zeC
  dsimp only
  simp (disch := omega) only [z_jn, z_eq_t]
  rw [hts]
/-- and a bracket that closes none: it can't stand there -/
theorem m_err41 {L : List Int} (hb : zbal L) (hl : (ztx L).length ≤ 118) (hF : zC sF (ztx L ++ [94, 41])) (hts : ts = ((ztx L).length : Int) + 2) : ∃ r : zRtu, f_X5_firstError ts top st br ch fa un pl sc bo n sF S M = some (((ztx L).length : Int) + 1, r) := by
  obtain ⟨s', a1, a2, a3⟩ := m_reads (S := S) (M := M) hb (by omega)
  obtain ⟨st0, G0, N0, F0, un0, pl0, h1, -, -⟩ := a2
  obtain ⟨top1, ch1, fa1, bo1, n1, S1, M1, rfl, q1, q2, q3, q4, q5⟩ := h1
  have hn := zlen q3
  have hw : n1 + un0 ≤ 3 * (ztx L).length := a3
  have hun := q4.2.1
  have hst : st0 = 0 ∨ st0 = 1 := by rcases q4.2.2.2 with h | h <;> omega
  obtain ⟨M2, b1, b2⟩ := c_add q3 (m := 2) (by unfold zv; omega) (by omega)
  have k94 : zk1 94 (top1, st0, 0, ch1, fa1, un0, pl0, 0, bo1, n1, S1, M1) (top1, 2, 0, ch1, fa1, un0, pl0, 2, st0, n1 + 1, S1, M2) := c_tk_script hst (Or.inl ⟨rfl, rfl⟩) b1
  rw [m_fe_begin]
  have g := m_fe_run (ts := ts) (sF := sF) (eC := zeC ts) (by omega) (ztx L ++ [94]) [] [41] _ _ fuel (by simpa using hF) (by simp; omega) (zks_app a1 (zks_one k94)) (by simp; unfold fuel; omega)
  simp only [List.length_nil] at g
  have hl94 : (ztx L ++ [94]).length = (ztx L).length + 1 := by simp
  obtain ⟨f2, hf2⟩ : ∃ f, fuel - (ztx L ++ [94]).length = f + 1 := ⟨fuel - (ztx L ++ [94]).length - 1, by rw [hl94]; unfold fuel; omega⟩
  rw [hf2, hl94] at g
  have hpos : ((0 : Nat) : Int) + (((ztx L).length + 1 : Nat) : Int) = ((ztx L).length : Int) + 1 := by omega
  rw [hpos] at g
  have hc : sF (((ztx L).length : Int) + 1).toNat = 41 := by
    have : (((ztx L).length : Int) + 1).toNat = (ztx L ++ [94]).length := by rw [hl94]; omega
    rw [this]
    exact hF (ztx L ++ [94]) 41 [] (by simp)
  have k41 : f_X5_takes top1 2 0 ch1 fa1 un0 pl0 2 st0 (n1 + 1) S1 M2 41 = some (0, top1, 2, 0, ch1, fa1, un0, pl0, 2, st0, n1 + 1, S1, M2) := c_tk_base rfl (c_bs_no (by omega) (by unfold zld; omega) (by omega)) (Or.inl rfl)
  exact ⟨_, Eq.trans g (m_fe_no (by omega) hc k41)⟩
end LD
/-- the text is loaded -/
theorem m_load {fl1 hc n ca fr ts top st br ch fa un pl sc bo fl2 rn : Int} {F sF S M : Nat → Int} {L : List Int} (hb : zbal L) (h6 : zcnt L ≤ 60) (h5 : zpk L ≤ 5) (hl : (ztx L).length ≤ 120) (hF : zC sF (ztx L)) (hts : ts = ((ztx L).length : Int)) : ∃ (F' : Nat → Int) (top' st' br' ch' fa' un' pl' sc' bo' rn' : Int) (S' M' : Nat → Int), f_X7_load fl1 hc n ca fr ts top st br ch fa un pl sc bo fl2 F rn sF S M = some (0, (zcnt L : Int), 0, 0, (L.length : Int), 0, 0, top', st', br', ch', fa', un', pl', sc', bo', 0, F', rn', S', M') ∧ zCx 180 (L.length : Int) F' L := by
  obtain ⟨top', st', ch', fa', pl', bo', n', S', M', e1, b2⟩ := m_err (top := top) (st := st) (br := br) (ch := ch) (fa := fa) (un := un) (pl := pl) (sc := sc) (bo := bo) (n := rn) (S := S) (M := M) hb hl hF hts
  have hn := b2.1
  have hl3 := zlen3 hb
  have hcz := c_count b2 (A := []) (S := L) (B := []) (by simp) (x := 0) (y := n') rfl (by rw [hn.1]; simp)
  have hdz := c_depth b2 (A := []) (S := L) (B := []) (by simp) (x := 0) (y := n') rfl (by rw [hn.1]; simp)
  have hzz : zmx 0 0 L = zpk L := rfl
  rw [hzz] at hdz
  have hpb := zpk_0 L
  obtain ⟨F', t1, t2⟩ := c_take (N := 180) (n := n) (F := F) (X := []) (Y := L) (Z := []) (N2 := 360) (n2 := n') (by simpa using b2) (x := 0) (y := n') rfl (by simp; omega) (by omega) (by omega)
  have hcz2 := c_count t2 (A := []) (S := L) (B := []) (by simp) (x := 0) (y := (L.length : Int)) rfl (by simp)
  refine ⟨F', top', st', 0, ch', fa', 0, pl', 0, bo', n', S', M', ?_, t2⟩
  unfold f_X7_load f_X0_putCaret f_X1_forget f_X3_allItems
  rw [e1, z_bd]
  dsimp only
  simp (disch := omega) only [z_jn, z_eq_t, z_bd, hcz, hdz, z_lt_f, t1, hcz2, z_gB]
