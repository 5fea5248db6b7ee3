/-! p30: a linear text is read back by another object -/
theorem z_jp {α ρ : Type} {K : α → Option ρ} {B : (α → Option ρ) → Option ρ} {v : α} (h : ∀ k, B k = k v) : jn K B = K v := h K
theorem m_linLen {n : Int} {F : Nat → Int} {L : List Int} (hC : zCx 180 n F L) (hb : zbal L) (h6 : zcnt L ≤ 60) (h5 : zpk L ≤ 5) (wl : Int) (br sg : Nat → Int) : ∃ br' sg', f_X7_linearLength n wl F br sg = some (((ztx L).length : Int), ((ztx L).length : Int), br', sg') ∧ zCW sg' (ztx L) ∧ (ztx L).length ≤ 300 := by
  obtain ⟨br', sg', a1, a2, a3⟩ := c_write hC hb h6 h5 wl br sg
  refine ⟨br', sg', ?_, a2, a3⟩
  unfold f_X7_linearLength
  rw [a1, z_bd]
theorem m_linAt {n : Int} {F : Nat → Int} {L : List Int} (hC : zCx 180 n F L) (hb : zbal L) (h6 : zcnt L ≤ 60) (h5 : zpk L ≤ 5) (wl : Int) (br sg : Nat → Int) {A B : List Int} {c : Int} (e : ztx L = A ++ c :: B) : ∃ br' sg', f_L_tryLinearAt0 n wl F br sg (A.length : Int) = some (c, ((ztx L).length : Int), br', sg') ∧ 32 ≤ c ∧ c ≤ 122 := by
  obtain ⟨br', sg', a1, a2, a3⟩ := c_write hC hb h6 h5 wl br sg
  have hl : (ztx L).length = A.length + (B.length + 1) := by rw [e]; simp
  have hc := a2.1 A c B e
  have hr := a2.2 c (by rw [e]; simp)
  refine ⟨br', sg', ?_, hr⟩
  unfold f_L_tryLinearAt0 f_X7_linearAt f_X6_signAt
  rw [a1, z_bd]
  simp (disch := omega) only [z_jn, z_lt_f, z_lt_t, z_in, z_bd, Int.toNat_natCast, hc]
  rfl
theorem zC_app1 {F : Nat → Int} {V : List Int} {c : Int} (h : zC F V) : zC (va_up F V.length c) (V ++ [c]) := zC_add h
theorem m_append {ts c : Int} {sF : Nat → Int} (ht : 0 ≤ ts ∧ ts < 120) (hc : 0 ≤ c ∧ c ≤ 255) : f_L_tryAppend ts sF c = some (ts + 1, ts + 1, va_up sF ts.toNat c) ∧ f_L_tryAppend0 ts sF c = some (ts + 1, ts + 1, va_up sF ts.toNat c) := by
  have e : f_X7_append ts sF c = some (0, ts + 1, ts + 1, va_up sF ts.toNat c) := by
    unfold f_X7_append f_X5_hasRoom f_X5_addSign
    simp (disch := omega) only [z_jn, z_lt_f, z_lt_t, z_in, z_bd, z_gB, z_eq_f]
  unfold f_L_tryAppend f_L_tryAppend0
  rw [e, z_bd, z_bd]
  exact ⟨rfl, rfl⟩
theorem m_rd_loop {n : Int} {F : Nat → Int} {L : List Int} (hC : zCx 180 n F L) (hb : zbal L) (h6 : zcnt L ≤ 60) (h5 : zpk L ≤ 5) (hl : (ztx L).length ≤ 120) : ∀ (B A : List Int) (fu : Nat) (wl : Int) (br sg sF : Nat → Int), ztx L = A ++ B → B.length < fu → zC sF A → ∃ wl' br' sg' sF', (∀ e, f_L_read_29 n F ((ztx L).length : Int) e fu wl br sg (A.length : Int) sF 1 (A.length : Int) = e (wl', br', sg', ((ztx L).length : Int), sF', 1, ((ztx L).length : Int))) ∧ zC sF' (ztx L)
  | [], A, 0, wl, br, sg, sF, he, hf, hs => by omega
  | c :: B, A, 0, wl, br, sg, sF, he, hf, hs => by omega
  | [], A, fu + 1, wl, br, sg, sF, he, hf, hs => by
    rw [List.append_nil] at he
    refine ⟨wl, br, sg, sF, fun e => ?_, by rw [he]; exact hs⟩
    rw [f_L_read_29, he, z_lt_f (by rw [he] at hl; omega)]
  | c :: B, A, fu + 1, wl, br, sg, sF, he, hf, hs => by
    simp only [List.length_cons] at hf
    have hlen : (ztx L).length = A.length + (B.length + 1) := by rw [he]; simp
    obtain ⟨br1, sg1, a1, a2, a3⟩ := m_linAt hC hb h6 h5 wl br sg he
    have ap := (m_append (ts := (A.length : Int)) (sF := sF) (c := c) (by omega) (by omega)).2
    rw [Int.toNat_natCast] at ap
    obtain ⟨wl', br', sg', sF', i1, i2⟩ := m_rd_loop hC hb h6 h5 hl B (A ++ [c]) fu ((ztx L).length : Int) br1 sg1 (va_up sF A.length c) (by rw [he]; simp) (by omega) (zC_add hs)
    rw [show ((A ++ [c]).length : Int) = (A.length : Int) + 1 by simp] at i1
    refine ⟨wl', br', sg', sF', fun e => ?_, i2⟩
    rw [f_L_read_29, z_lt_t (by omega), z_eq_f (by omega), a1, z_bd, ap, z_bd]
    refine (jq_eq (by omega)).trans ?_
    rw [if_pos rfl]
    exact i1 e
theorem m_sel0 {n ca fr : Int} {F : Nat → Int} {A S B : List Int} (hC : zCs n ca fr F A S B) (hS : S = []) : f_L_trySelection n ca fr F 0 = some 0 := by
  have e1 := c_rowItems hC.1 (A := A) (S := S) (B := B) rfl hC.2.2 hC.2.1
  rw [hS] at e1
  unfold f_L_trySelection f_X7_selection f_X0_selectedOfRow
  simp (disch := omega) only [z_eq_t, e1, z_bd]
  rfl
theorem m_undo0 {o n ca fr : Int} {F rS rC rM : Nat → Int} {rF : Nat → Nat → Int} : f_L_tryUndo o 0 n ca fr F rS rC rM rF = some (-1003, 0, n, ca, fr, F) := by
  unfold f_L_tryUndo f_X7_undo
  rw [z_eq_t (by omega), z_bd]
  exact z_tg1x ⟨(by omega : ¬ (2 : Int) = 0), rfl⟩
section EP
variable {ts top st br ch fa un pl sc bo n v t1 t2 t3 t4 t5 t6 t7 t8 t9 t10 : Int} {sF S M S' M' : Nat → Int}
theorem m_ep (h : f_X5_firstError ts top st br ch fa un pl sc bo n sF S M = some (v, t1, t2, t3, t4, t5, t6, t7, t8, t9, t10, S', M')) : f_X7_errorPosition ts top st br ch fa un pl sc bo n sF S M = some (v, t1, t2, t3, t4, t5, t6, t7, t8, t9, t10, S', M') := by
  unfold f_X7_errorPosition
  rw [h, z_bd]
theorem m_loadNo {fl1 hc n1 ca fr fl2 : Int} {F : Nat → Int} (h : f_X5_firstError ts top st br ch fa un pl sc bo n sF S M = some (v, t1, t2, t3, t4, t5, t6, t7, t8, t9, t10, S', M')) (hv : 0 ≤ v ∧ v ≤ 1000) : f_L_tryLoad fl1 hc n1 ca fr ts top st br ch fa un pl sc bo fl2 F n sF S M = some (-1003, fl1, hc, n1, ca, fr, t1, t2, t3, t4, t5, t6, t7, t8, t9, fl2, F, t10, S', M') := by
  unfold f_L_tryLoad f_X7_load
  rw [h, z_bd]
  dsimp only
  rw [z_eq_f (by omega), z_bd]
  exact z_tg1x ⟨(by omega : ¬ (2 : Int) = 0), rfl⟩
end EP
theorem m_tryLoad {fl1 hc n ca fr ts top st br ch fa un pl sc bo fl2 rn : Int} {F sF S M : Nat → Int} {L : List Int} (hb : zbal L) (h6 : zcnt L ≤ 60) (h5 : zpk L ≤ 5) (hl : (ztx L).length ≤ 120) (hF : zC sF (ztx L)) (hts : ts = ((ztx L).length : Int)) : ∃ (F' : Nat → Int) (top' st' br' ch' fa' un' pl' sc' bo' rn' : Int) (S' M' : Nat → Int), f_L_tryLoad fl1 hc n ca fr ts top st br ch fa un pl sc bo fl2 F rn sF S M = some ((zcnt L : Int), 0, 0, (L.length : Int), 0, 0, top', st', br', ch', fa', un', pl', sc', bo', 0, F', rn', S', M') ∧ zCx 180 (L.length : Int) F' L := by
  obtain ⟨F', top', st', br', ch', fa', un', pl', sc', bo', rn', S', M', e1, e2⟩ := m_load (fl1 := fl1) (hc := hc) (n := n) (ca := ca) (fr := fr) (top := top) (st := st) (br := br) (ch := ch) (fa := fa) (un := un) (pl := pl) (sc := sc) (bo := bo) (fl2 := fl2) (rn := rn) (F := F) (S := S) (M := M) hb h6 h5 hl hF hts
  refine ⟨F', top', st', br', ch', fa', un', pl', sc', bo', rn', S', M', ?_, e2⟩
  unfold f_L_tryLoad
  rw [e1, z_bd]
  exact z_tg1 rfl
set_option maxRecDepth 100000 in
set_option maxHeartbeats 4000000 in
theorem m_read {cn n ca wl cn1 fl1 o1 hc1 n1 ca1 fr1 ts top st bk ch fa un pl sc bo fl2 wl1 rn : Int} {Fc F br sg Fc1 F1 sF S br1 sg1 rS rC rM M : Nat → Int} {rF : Nat → Nat → Int} {L : List Int} (hC : zCx 180 n F L) (hb : zbal L) (h6 : zcnt L ≤ 60) (h5 : zpk L ≤ 5) (hts : 0 ≤ ts ∧ ts ≤ 120) : ∃ r, f_L_read cn n ca wl Fc F br sg cn1 fl1 o1 hc1 n1 ca1 fr1 ts top st bk ch fa un pl sc bo fl2 wl1 Fc1 F1 rn sF S br1 sg1 rS rC rM rF M = some r ∧ r.1 = 1 ∧ 0 ≤ r.2.2.2.2.2.2.2.2.2.1 ∧ r.2.2.2.2.2.2.2.2.2.1 ≤ 120 := by
  have hl3 := zlen3 hb
  obtain ⟨br', sg', a1, a2, a3⟩ := m_linLen hC hb h6 h5 wl br sg
  unfold f_L_read
  rw [a1, z_bd]
  by_cases hbig : 120 < ((ztx L).length : Int)
  · rw [z_lt_t (by omega), z_gB (Or.inr rfl)]
    exact ⟨_, rfl, rfl, hts.1, hts.2⟩
  · rw [z_lt_f (by omega)]
    have hl : (ztx L).length ≤ 120 := by omega
    unfold f_X7_clearText
    rw [z_bd]
    obtain ⟨wl2, br2, sg2, sF2, l1, l2⟩ := m_rd_loop hC hb h6 h5 hl (ztx L) [] fuel ((ztx L).length : Int) br' sg' sF rfl (by unfold fuel; omega) (fun A m T e => by simp at e)
    simp only [List.length_nil] at l1
    have l1' : ∀ e, f_L_read_29 n F ((ztx L).length : Int) e fuel ((ztx L).length : Int) br' sg' 0 sF 1 0 = e (wl2, br2, sg2, ((ztx L).length : Int), sF2, 1, ((ztx L).length : Int)) := l1
    obtain ⟨t1, t2, t4, t5, t7, t9, t10, S1, M1, e12, e12b⟩ := m_err (top := top) (st := st) (br := bk) (ch := ch) (fa := fa) (un := un) (pl := pl) (sc := sc) (bo := bo) (n := rn) (S := S) (M := M) hb hl l2 rfl
    have h12 := m_ep e12
    obtain ⟨F', u1, u2, u3, u4, u5, u6, u7, u8, u9, u10, S2, M2, h13, hC'⟩ := m_tryLoad (fl1 := fl1) (hc := hc1) (n := n1) (ca := ca1) (fr := fr1) (top := t1) (st := t2) (br := 0) (ch := t4) (fa := t5) (un := 0) (pl := t7) (sc := 0) (bo := t9) (fl2 := fl2) (rn := t10) (F := F1) (S := S1) (M := M1) hb h6 h5 hl l2 rfl
    have h14 := (t_ab (cn := cn) (ca := ca) (Fc := Fc) (m_ab0 hC)).1
    have h15 := m_equal (cn := cn) (ca := ca) (Fc := Fc) (cn' := cn1) (ca' := 0) (Fc' := Fc1) hC hC' hb h6 h5
    have h16 : f_L_tryAbout cn1 (L.length : Int) 0 Fc1 F' 2 = some 0 := (t_ab m_ab2).1
    have hCs : zCs (L.length : Int) 0 0 F' [] [] L := ⟨by simpa using hC', by simp, by simp⟩
    have h17 := m_sel0 hCs rfl
    have h18 := m_undo0 (o := o1) (n := (L.length : Int)) (ca := 0) (fr := 0) (F := F') (rS := rS) (rC := rC) (rM := rM) (rF := rF)
    obtain ⟨br3, sg3, h19, -, -⟩ := m_linLen hC' hb h6 h5 wl1 br1 sg1
    dsimp only
    rw [jq_lt (by omega), if_neg (by omega)]
    try dsimp only
    rw [l1']
    try dsimp only
    by_cases hb118 : 118 < ((ztx L).length : Int)
    · simp (disch := omega) only [h12, h13, h14, h15, h16, h17, h18, h19, z_bd, z_eq_t, z_eq_f, z_jn, z_lt_t, z_gB]
      exact ⟨_, rfl, rfl, by dsimp only; omega, by dsimp only; omega⟩
    · have h25 := (m_append (ts := ((ztx L).length : Int)) (sF := sF2) (c := 94) (by omega) (by omega)).1
      rw [Int.toNat_natCast] at h25
      have s3 := zC_add (m := 94) l2
      obtain ⟨⟨v1, v2, v3, v4, v5, v6, v7, v8, v9, v10, S3, M3⟩, e26⟩ := m_err94 (top := u1) (st := u2) (br := u3) (ch := u4) (fa := u5) (un := u6) (pl := u7) (sc := u8) (bo := u9) (n := u10) (S := S2) (M := M2) hb (by omega) s3 rfl
      have h26 := m_ep e26
      have h27 := (m_append (ts := ((ztx L).length : Int) + 1) (sF := va_up sF2 (ztx L).length 94) (c := 41) (by omega) (by omega)).1
      rw [show (((ztx L).length : Int) + 1).toNat = (ztx L).length + 1 by omega] at h27
      have s4 := zC_add (m := 41) s3
      have e94 : (ztx L ++ [(94 : Int)]).length = (ztx L).length + 1 := by simp
      have e941 : ztx L ++ [(94 : Int)] ++ [(41 : Int)] = ztx L ++ [94, 41] := by simp
      rw [e94, e941] at s4
      obtain ⟨⟨x1, x2, x3, x4, x5, x6, x7, x8, x9, x10, S4, M4⟩, e28⟩ := m_err41 (ts := ((ztx L).length : Int) + 1 + 1) (top := v1) (st := v2) (br := v3) (ch := v4) (fa := v5) (un := v6) (pl := v7) (sc := v8) (bo := v9) (n := v10) (S := S3) (M := M3) hb (by omega) s4 (by omega)
      have h28 := m_ep e28
      obtain ⟨⟨y1, y2, y3, y4, y5, y6, y7, y8, y9, y10, S5, M5⟩, e29⟩ := m_err41 (ts := ((ztx L).length : Int) + 1 + 1) (top := x1) (st := x2) (br := x3) (ch := x4) (fa := x5) (un := x6) (pl := x7) (sc := x8) (bo := x9) (n := x10) (S := S4) (M := M4) hb (by omega) s4 (by omega)
      have h29 := m_loadNo (fl1 := 0) (hc := 0) (n1 := (L.length : Int)) (ca := 0) (fr := 0) (fl2 := 0) (F := F') e29 (by omega)
      simp (disch := omega) only [h12, h13, h14, h15, h16, h17, h18, h19, h25, h26, h27, h28, h29, z_bd, z_eq_t, z_eq_f, z_jn, z_lt_t, z_lt_f, z_gB]
      exact ⟨_, rfl, rfl, by dsimp only; omega, by dsimp only; omega⟩
