/-! p30: what is done, and done back -/
/-- a history that some reference follows -/
def zHh (o c : Int) (rS rC rM : Nat → Int) (rF : Nat → Nat → Int) : Prop := ∃ (acts : Int) (D : Nat → Int), zH o c rS rC rM rF acts D
theorem zRs_ex {A S B : List Int} (hI : zI A S B) : ∃ R, zRs R A S B := by
  have hl := hI.len
  have lL : (A ++ (S ++ B)).length = A.length + (S.length + B.length) := by simp
  have hz : zC (fun i => (A ++ (S ++ B)).getD i 0) (A ++ (S ++ B)) := zC_iff.mpr (fun i _ => rfl)
  refine ⟨fun j => if j = 180 then ((A ++ (S ++ B)).length : Int) else if j = 181 then (A.length : Int) + S.length else if j = 182 then (if S = [] then -9 else (A.length : Int)) else zr ((A ++ (S ++ B)).getD j 0), ⟨⟨⟨by omega, by omega⟩, ?_, zrun_v hI.bal, by omega⟩, rfl, by omega, by omega⟩, rfl, rfl⟩
  intro X m T e
  have lX : X.length < 180 := by
    have := congrArg List.length e
    have e2 : (X ++ m :: T).length = X.length + (T.length + 1) := by simp
    omega
  have h1 : (A ++ (S ++ B)).getD X.length 0 = m := hz X m T e
  show (if X.length = 180 then _ else if X.length = 181 then _ else if X.length = 182 then _ else _) = _
  rw [if_neg (by omega), if_neg (by omega), if_neg (by omega), h1]
section ED
variable {o c n ca fr cn : Int} {rS rC rM F Fc : Nat → Int} {rF : Nat → Nat → Int} {A S B Lc : List Int}
theorem m_rem (hH : zHh o c rS rC rM rF) (hI : zI A S B) (hC : zCs n ca fr F A S B) : ∃ o' c' rS' rC' rM' rF', f_X1_remember o c rS rC rM rF n ca fr F = some (o', c', rS', rC', rM', rF') ∧ zHh o' c' rS' rC' rM' rF' := by
  obtain ⟨acts, D, hH⟩ := hH
  obtain ⟨R, hR⟩ := zRs_ex hI
  obtain ⟨o', c', rS', rC', rM', rF', acts', D', h1, -, h3⟩ := e_note hH ⟨A, S, B, hI, hC, hR⟩
  exact ⟨o', c', rS', rC', rM', rF', h1, acts', D', h3⟩
theorem c_all {L : List Int} (hC : zCx 180 n F L) : f_X3_allItems 180 n F = some (zcnt L : Int) := by
  have e1 := c_count hC (A := []) (S := L) (B := []) (by simp) (x := 0) (y := n) rfl (by rw [hC.1.1]; simp)
  unfold f_X3_allItems
  rw [e1, z_bd]
theorem zcnt_sy {x : Int} (hx : zsy x = true) : zcnt [x] = 1 := by
  have := zsy_b hx
  simp only [zcnt]
  rw [if_pos (by simp only [zsi, decide_eq_true_eq]; omega)]
/-- a symbol is typed -/
theorem m_type (hH : zHh o c rS rC rM rF) (hI : zI A [] B) (hC : zCs n ca fr F A [] B) {x : Int} (hx : zsy x = true) (hl : zcnt (A ++ B) < 60) : ∃ o' c' n' ca' F' rS' rC' rM' rF', f_L_tryType o c n ca fr F rS rC rM rF x = some ((zcnt (A ++ B) : Int) + 1, o', c', n', ca', ca', F', rS', rC', rM', rF') ∧ zCs n' ca' ca' F' (A ++ [x]) [] B ∧ zI (A ++ [x]) [] B ∧ zHh o' c' rS' rC' rM' rF' := by
  obtain ⟨o', c', rS', rC', rM', rF', h1, h2⟩ := m_rem hH hI hC
  have hb := zsy_b hx
  obtain ⟨n', ca', G, p1, p2⟩ := c_putSym hI hC (zsy_c hx) hl
  have cs := c_sy (x := x) (by omega)
  have cc := c_canSym hI hC
  rw [hx, zbi_t] at cs
  rw [decide_eq_true hl, zbi_t] at cc
  have ca1 := c_all p2.1
  have e1 : (zcnt (A ++ [x] ++ ([] ++ B)) : Int) = (zcnt (A ++ B) : Int) + 1 := by
    rw [List.nil_append, zcnt_app, zcnt_app, zcnt_app, zcnt_sy hx]; omega
  rw [e1] at ca1
  refine ⟨o', c', n', ca', G, rS', rC', rM', rF', ?_, p2, hI.sym (zsy_c hx) hl, h2⟩
  have e2 : f_X7_type o c n ca fr F rS rC rM rF x = some (0, (zcnt (A ++ B) : Int) + 1, o', c', n', ca', ca', G, rS', rC', rM', rF') := by
    unfold f_X7_type
    simp (disch := omega) only [cs, z_bd, z_eq_f, cc, h1, p1, ca1]
  unfold f_L_tryType
  rw [e2, z_bd]
  exact z_tg2 rfl
/-- a structure is put in -/
theorem m_wrap (hH : zHh o c rS rC rM rF) (hI : zI A [] B) (hC : zCs n ca fr F A [] B) {k : Int} (hk : 1 ≤ k ∧ k ≤ 5) (hl : zcnt (A ++ B) < 60) : (zlv A = 5 ∧ f_L_tryWrap o c n ca fr F rS rC rM rF k = some (-1003, o, c, n, ca, fr, F, rS, rC, rM, rF)) ∨ (zlv A ≠ 5 ∧ ∃ o' c' n' ca' F' rS' rC' rM' rF', f_L_tryWrap o c n ca fr F rS rC rM rF k = some ((A.length : Int) + 1, o', c', n', ca', ca', F', rS', rC', rM', rF') ∧ zCs n' ca' ca' F' (A ++ [k]) [] (zwE k B) ∧ zI (A ++ [k]) [] (zwE k B) ∧ zHh o' c' rS' rC' rM' rF') := by
  have hlv := hI.lv
  have on := c_on_t hk
  have cc := c_canStr hI hC
  have h0 : zlv A ≤ 5 := by
    have e1 := zpk_lv A
    have e2 : zpk A ≤ zpk (A ++ ([] ++ B)) := zpk_le
    have := hI.2.2
    omega
  have hz : zwc A [] B = decide (zlv A + 1 ≤ 5) := by
    unfold zwc
    rw [zpk_nil]
    by_cases h : zlv A + 1 ≤ 5
    · rw [decide_eq_true h, decide_eq_true ⟨by simpa using hl, by omega⟩]
    · rw [decide_eq_false h, decide_eq_false (fun z => h (by omega))]
  by_cases h5 : zlv A = 5
  · left
    refine ⟨h5, ?_⟩
    rw [hz, decide_eq_false (by omega), zbi_f] at cc
    have e2 : f_X7_wrap o c n ca fr F rS rC rM rF k = some (2, 0, o, c, n, ca, fr, F, rS, rC, rM, rF) := by
      unfold f_X7_wrap
      simp (disch := omega) only [on, z_bd, z_eq_f, z_eq_t, cc]
    unfold f_L_tryWrap
    rw [e2, z_bd]
    exact z_tg2y ⟨(by omega : ¬ (2 : Int) = 0), (by omega : ¬ (2 : Int) = 1), rfl⟩
  · right
    refine ⟨h5, ?_⟩
    have hw : zwc A [] B = true := by rw [hz]; exact decide_eq_true (by omega)
    rw [hw, zbi_t] at cc
    obtain ⟨o', c', rS', rC', rM', rF', h1, h2⟩ := m_rem hH hI hC
    obtain ⟨n', ca', G, p1, p2⟩ := c_enclose hI hC hk hw
    have eA : zwA k A [] = A ++ [k] := by unfold zwA; rw [if_pos rfl]
    have eB : zwB k [] B = zwE k B := by unfold zwB; rw [if_pos rfl]
    have hI2 := hI.wrap hk (by simpa using hl) (by rw [zpk_nil]; omega)
    rw [eA, eB] at p2 hI2
    have e3 : ca' = (A.length : Int) + 1 := by have := p2.2.1; simp at this; omega
    refine ⟨o', c', n', ca', G, rS', rC', rM', rF', ?_, p2, hI2, h2⟩
    have e2 : f_X7_wrap o c n ca fr F rS rC rM rF k = some (0, (A.length : Int) + 1, o', c', n', ca', ca', G, rS', rC', rM', rF') := by
      unfold f_X7_wrap
      simp (disch := omega) only [on, z_bd, z_eq_f, cc, h1, p1, e3]
    unfold f_L_tryWrap
    rw [e2, z_bd]
    exact z_tg2 rfl
/-- a backspace, out of what the formula's own step gives -/
theorem m_bsp (hH : zHh o c rS rC rM rF) (hI : zI A S B) (hC : zCs n ca fr F A S B) {A' B' : List Int} {n' ca' : Int} {G : Nat → Int} (h1 : f_X0_canDeleteBack ca fr = some 1) (h2 : f_X0_deleteBack n ca fr F = some (n', ca', ca', G)) (h3 : zCs n' ca' ca' G A' [] B') : ∃ o' c' rS' rC' rM' rF', f_L_tryBackspace o c n ca fr F rS rC rM rF = some ((zcnt (A ++ (S ++ B)) : Int) - zcnt (A' ++ B'), o', c', n', ca', ca', G, rS', rC', rM', rF') ∧ zHh o' c' rS' rC' rM' rF' := by
  obtain ⟨o', c', rS', rC', rM', rF', g1, g2⟩ := m_rem hH hI hC
  refine ⟨o', c', rS', rC', rM', rF', ?_, g2⟩
  have a1 := c_all hC.1
  have a2 := c_all h3.1
  rw [List.nil_append] at a2
  have e2 : f_X7_backspace o c n ca fr F rS rC rM rF = some (0, (zcnt (A ++ (S ++ B)) : Int) - zcnt (A' ++ B'), o', c', n', ca', ca', G, rS', rC', rM', rF') := by
    unfold f_X7_backspace
    simp (disch := omega) only [h1, z_bd, z_eq_f, g1, a1, h2, a2]
  unfold f_L_tryBackspace
  rw [e2, z_bd]
  exact z_tg1 rfl
/-- the symbol behind is taken back -/
theorem m_bk_sym (hH : zHh o c rS rC rM rF) {x : Int} (hx : zsy x = true) (hI : zI (A ++ [x]) [] B) (hC : zCs n ca fr F (A ++ [x]) [] B) : ∃ o' c' n' ca' F' rS' rC' rM' rF', f_L_tryBackspace o c n ca fr F rS rC rM rF = some (1, o', c', n', ca', ca', F', rS', rC', rM', rF') ∧ zCs n' ca' ca' F' A [] B ∧ zHh o' c' rS' rC' rM' rF' := by
  have hl := hI.len
  have hCx := hC.1
  have hX : zit [x] := Or.inl ⟨x, rfl, zsy_c hx⟩
  have hca : ca = (A.length : Int) + 1 := by have := hC.2.1; simp at this; omega
  have hs : f_X0_hasSelection ca fr = some 0 := c_hasSel hC
  simp only [List.length_append, List.length_nil, List.length_singleton] at hl
  have b1 := c_bh_t hCx (A := A) (X := [x]) (T := B) (by simp) hX (x := ca) (by simp; omega)
  have b2 := c_is hCx (A := A) (X := [x]) (T := B) (by simp) hX (x := ca) (by simp; omega)
  have b3 := c_count hCx (A := A) (S := [x]) (B := B) (by simp) (x := (A.length : Int)) (y := ca) rfl (by simp; omega)
  rw [zcnt_sy hx] at b3
  obtain ⟨G1, c1, c2⟩ := c_remove (X := A) (Y := [x]) (Z := B) (by simpa using hCx) (x := (A.length : Int)) (y := ca) rfl (by simp; omega)
  have e2 : f_X0_deleteBack n ca fr F = some (n - ([x] : List Int).length, (A.length : Int), (A.length : Int), G1) := by
    unfold f_X0_deleteBack f_X0_deleteItemBefore f_X0_putCaret
    rw [hs, z_bd, z_jn]
    simp (disch := omega) only [z_eq_t, z_eq_f, b1, b2, b3, c1, z_bd, z_jn]
  have hC2 : zCs (n - ([x] : List Int).length) (A.length : Int) (A.length : Int) G1 A [] B := ⟨by simpa using c2, by simp, rfl⟩
  have cd := c_canDel hC
  rw [show decide (A ++ [x] ≠ []) = true from decide_eq_true (by simp), zbi_t] at cd
  obtain ⟨o', c', rS', rC', rM', rF', g1, g2⟩ := m_bsp hH hI hC cd e2 hC2
  refine ⟨o', c', _, _, G1, rS', rC', rM', rF', ?_, hC2, g2⟩
  rw [g1]
  have e1 : (zcnt (A ++ [x] ++ ([] ++ B)) : Int) - zcnt (A ++ B) = 1 := by
    rw [List.nil_append, zcnt_app, zcnt_app, zcnt_app, zcnt_sy hx]; omega
  rw [e1]
/-- the empty structure around is taken back -/
theorem m_bk_str (hH : zHh o c rS rC rM rF) {k : Int} (hk : 1 ≤ k ∧ k ≤ 5) (hI : zI (A ++ [k]) [] (zwE k B)) (hC : zCs n ca fr F (A ++ [k]) [] (zwE k B)) : ∃ o' c' n' ca' F' rS' rC' rM' rF', f_L_tryBackspace o c n ca fr F rS rC rM rF = some (1, o', c', n', ca', ca', F', rS', rC', rM', rF') ∧ zCs n' ca' ca' F' A [] B ∧ zHh o' c' rS' rC' rM' rF' := by
  have hl := hI.len
  have hCx := hC.1
  have hca : ca = (A.length : Int) + 1 := by have := hC.2.1; simp at this; omega
  have hs : f_X0_hasSelection ca fr = some 0 := c_hasSel hC
  have hend : zend (A ++ [k]) := Or.inr ⟨A, k, rfl, by omega, by omega⟩
  have b1 := c_bh_f hCx (P := A ++ [k]) (T := zwE k B) rfl hend (x := ca) (by simp; omega)
  have cd := c_canDel hC
  rw [show decide (A ++ [k] ≠ []) = true from decide_eq_true (by simp), zbi_t] at cd
  have fin : ∀ (n' : Int) (G : Nat → Int), f_X0_deleteBack n ca fr F = some (n', (A.length : Int), (A.length : Int), G) → zCs n' (A.length : Int) (A.length : Int) G A [] B → (zcnt (A ++ [k] ++ ([] ++ zwE k B)) : Int) - zcnt (A ++ B) = 1 → ∃ o' c' n' ca' F' rS' rC' rM' rF', f_L_tryBackspace o c n ca fr F rS rC rM rF = some (1, o', c', n', ca', ca', F', rS', rC', rM', rF') ∧ zCs n' ca' ca' F' A [] B ∧ zHh o' c' rS' rC' rM' rF' := by
    intro n' G e2 hC2 e1
    obtain ⟨o', c', rS', rC', rM', rF', g1, g2⟩ := m_bsp hH hI hC cd e2 hC2
    rw [e1] at g1
    exact ⟨o', c', _, _, G, rS', rC', rM', rF', g1, hC2, g2⟩
  by_cases h1 : k = 1
  · subst h1
    have eE : zwE 1 B = 6 :: 11 :: B := by unfold zwE; rw [if_pos rfl]
    rw [eE] at hI hC hCx hl fin
    have hf : zfr (A ++ [1]) (6 :: 11 :: B) A [] [] B := Or.inr (Or.inl ⟨[], rfl, rfl, rfl⟩)
    have b2 := c_holder hCx (S := []) rfl hf (x := ca) (by simp; omega)
    have b3 := c_ie hCx (A := A) (X := 1 :: ([] ++ 6 :: ([] ++ [11]))) (T := B) (by simp) (Or.inr (Or.inr ⟨[], [], rfl, rfl, rfl⟩)) (x := (A.length : Int)) rfl
    obtain ⟨F1, u1, u2⟩ := c_remove (N := 180) (n := n) (F := F) (X := A ++ [1, 6]) (Y := [11]) (Z := B) (by simpa using hCx) (x := (A.length : Int) + ((1 :: ([] ++ 6 :: ([] ++ [11])) : List Int).length : Int) - 1) (y := (A.length : Int) + ((1 :: ([] ++ 6 :: ([] ++ [11])) : List Int).length : Int)) (by simp; omega) (by simp; omega)
    have u3 := (u2.at (A := A) (m := 1) (T := 6 :: B) (by simp) (x := (A.length : Int)) rfl).1
    have u4 := c_ss u2 (A := A) (I := []) (T := B) (by simp) rfl (x := (A.length : Int)) rfl
    obtain ⟨F2, v1, v2⟩ := c_remove (N := 180) (n := n - ([11] : List Int).length) (F := F1) (X := A ++ [1]) (Y := [6]) (Z := B) (by simpa using u2) (x := (A.length : Int) + ([] : List Int).length + 2 - 1) (y := (A.length : Int) + ([] : List Int).length + 2) (by simp; omega) (by simp; omega)
    obtain ⟨F3, t1, t2⟩ := c_remove (N := 180) (n := n - ([11] : List Int).length - ([6] : List Int).length) (F := F2) (X := A) (Y := [1]) (Z := B) (by simpa using v2) (x := (A.length : Int)) (y := (A.length : Int) + 1) rfl (by simp)
    refine fin (n - ([11] : List Int).length - ([6] : List Int).length - ([1] : List Int).length) F3 ?_ ⟨by simpa using t2, by simp, rfl⟩ ?_
    · have hA : A.length ≤ 179 := by simp at hl; omega
      unfold f_X0_deleteBack
      simp (disch := omega) only [hs, z_bd, z_jn, z_eq_t, b1, z_lt_t, b2]
      unfold f_X0_dissolve f_X0_putCaret
      rw [b3, z_bd, u1, z_bd, u3, z_bd, z_jn]
      simp (disch := omega) only [z_eq_t, u4, z_bd, v1, z_jn, z_lt_t]
      rw [t1]
      simp only [z_bd]
      rw [show ca - 1 = (A.length : Int) by omega]
    · have z1 : zcnt ([1, 6, 11] : List Int) = 1 := by decide
      have : A ++ [1] ++ ([] ++ 6 :: 11 :: B) = A ++ ([1, 6, 11] ++ B) := by simp
      rw [this, zcnt_app, zcnt_app, zcnt_app, z1]; omega
  · have hk2 : 2 ≤ k := by omega
    have eE : zwE k B = (k + 10) :: B := by unfold zwE; rw [if_neg h1]
    rw [eE] at hI hC hCx hl fin
    have hf : zfr (A ++ [k]) ((k + 10) :: B) A [] [] B := Or.inl ⟨k, rfl, rfl, hk2, hk.2⟩
    have b2 := c_holder hCx (S := []) rfl hf (x := ca) (by simp; omega)
    have b3 := c_ie hCx (A := A) (X := k :: ([] ++ [k + 10])) (T := B) (by simp) (Or.inr (Or.inl ⟨k, [], rfl, hk2, hk.2, rfl⟩)) (x := (A.length : Int)) rfl
    obtain ⟨F1, u1, u2⟩ := c_remove (N := 180) (n := n) (F := F) (X := A ++ [k]) (Y := [k + 10]) (Z := B) (by simpa using hCx) (x := (A.length : Int) + ((k :: ([] ++ [k + 10]) : List Int).length : Int) - 1) (y := (A.length : Int) + ((k :: ([] ++ [k + 10]) : List Int).length : Int)) (by simp; omega) (by simp; omega)
    have u3 := (u2.at (A := A) (m := k) (T := B) (by simp) (x := (A.length : Int)) rfl).1
    obtain ⟨F2, v1, v2⟩ := c_remove (N := 180) (n := n - ([k + 10] : List Int).length) (F := F1) (X := A) (Y := [k]) (Z := B) (by simpa using u2) (x := (A.length : Int)) (y := (A.length : Int) + 1) rfl (by simp)
    refine fin (n - ([k + 10] : List Int).length - ([k] : List Int).length) F2 ?_ ⟨by simpa using v2, by simp, rfl⟩ ?_
    · have hA : A.length ≤ 179 := by simp at hl; omega
      unfold f_X0_deleteBack
      simp (disch := omega) only [hs, z_bd, z_jn, z_eq_t, b1, z_lt_t, b2]
      unfold f_X0_dissolve f_X0_putCaret
      rw [b3, z_bd, u1, z_bd, u3, z_bd, z_jn]
      simp (disch := omega) only [z_eq_f]
      rw [v1]
      simp only [z_bd]
      rw [show ca - 1 = (A.length : Int) by omega]
    · have z1 : zcnt ([k, k + 10] : List Int) = 1 := by
        have a1 : zsi k = true := by simp only [zsi, decide_eq_true_eq]; omega
        have a2 : ¬ zsi (k + 10) = true := by simp only [zsi, decide_eq_true_eq]; omega
        show (if zsi k = true then 1 else 0) + ((if zsi (k + 10) = true then 1 else 0) + 0) = 1
        rw [if_pos a1, if_neg a2]
      have : A ++ [k] ++ ([] ++ (k + 10) :: B) = A ++ ([k, k + 10] ++ B) := by simp
      rw [this, zcnt_app, zcnt_app, zcnt_app, z1]; omega
/-- the selection is taken away -/
theorem m_bk_sel (hH : zHh o c rS rC rM rF) (hI : zI A S B) (hC : zCs n ca fr F A S B) (hS : S ≠ []) : ∃ o' c' n' ca' F' rS' rC' rM' rF', f_L_tryBackspace o c n ca fr F rS rC rM rF = some ((zcnt S : Int), o', c', n', ca', ca', F', rS', rC', rM', rF') ∧ zCs n' ca' ca' F' A [] B ∧ zHh o' c' rS' rC' rM' rF' := by
  obtain ⟨h1, G, h2, h3⟩ := c_delSel hC hS
  obtain ⟨o', c', rS', rC', rM', rF', g1, g2⟩ := m_bsp hH hI hC h1 h2 h3
  have e1 : (zcnt (A ++ (S ++ B)) : Int) - zcnt (A ++ B) = zcnt S := by
    rw [zcnt_app, zcnt_app, zcnt_app]; omega
  rw [e1] at g1
  exact ⟨o', c', _, _, G, rS', rC', rM', rF', g1, h3, g2⟩
/-- nothing to take back -/
theorem m_bk_no {B : List Int} (hC : zCs n ca fr F [] [] B) : f_L_tryBackspace o c n ca fr F rS rC rM rF = some (-1003, o, c, n, ca, fr, F, rS, rC, rM, rF) := by
  have cd := c_canDel hC
  rw [show decide (([] : List Int) ≠ []) = false from decide_eq_false (by simp), zbi_f] at cd
  have e2 : f_X7_backspace o c n ca fr F rS rC rM rF = some (2, 0, o, c, n, ca, fr, F, rS, rC, rM, rF) := by
    unfold f_X7_backspace
    simp (disch := omega) only [cd, z_bd, z_eq_t]
  unfold f_L_tryBackspace
  rw [e2, z_bd]
  exact z_tg1x ⟨(by omega : ¬ (2 : Int) = 0), rfl⟩
/-- the selection is copied -/
theorem m_copy (hI : zI A S B) (hC : zCs n ca fr F A S B) (hS : S ≠ []) (cn : Int) (Fc : Nat → Int) : ∃ cn' Fc', f_L_tryCopy cn ca fr Fc F = some ((zcnt S : Int), cn', Fc') ∧ zCx 180 cn' Fc' S ∧ zK S := by
  have hl := hI.len
  have hs := c_hasSel hC
  rw [show decide (S ≠ []) = true from decide_eq_true hS, zbi_t] at hs
  have hv := hI.lv
  have hK' : zK S := ⟨hI.1.2, by have := hI.2.1; simp only [zcnt_app] at this; omega, by omega⟩
  obtain ⟨G, t1, t2⟩ := c_take (N := 180) (n := cn) (F := Fc) hC.1 (x := fr) (y := ca) hC.2.2 hC.2.1 (by omega) (by omega)
  have e1 := c_count t2 (A := []) (S := S) (B := []) (by simp) (x := 0) (y := (S.length : Int)) rfl (by simp)
  refine ⟨(S.length : Int), G, ?_, t2, hK'⟩
  have e2 : f_X7_copy cn ca fr Fc F = some (0, (zcnt S : Int), (S.length : Int), G) := by
    unfold f_X7_copy
    simp (disch := omega) only [hs, z_bd, z_eq_f, t1, e1]
  unfold f_L_tryCopy
  rw [e2, z_bd]
  exact z_tg1 rfl
end ED
