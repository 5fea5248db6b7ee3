/-! p30: the class reads bases, scripts, items, rows -/
theorem zaf_mk {K : List zLv} {br top ch fa un sc bo n pl : Int} {S M : Nat → Int} {G N F I : List Int} (hw : zwl G N F un sc bo) (hle : zle0 K br top S) (hI : zbal I) (hpl : pl = 0 ∨ pl = 1) (hpl1 : sc = 0 → pl = 1 → ∃ Z, I = 5 :: (Z ++ [15]) ∧ zbal Z) (hM : zCx 360 n M (zpre K br ++ (zlh un G N ++ (F ++ (zct sc ++ (I ++ zcs sc)))))) (hp : sc = 0 ∨ bo = 1 → ch = ((zpre K br).length : Int) + G.length ∧ fa = ((zpre K br).length : Int) + (zlh un G N).length) : zaf K br G N F un sc bo I pl (top, if sc = 0 then 1 else bo, br, ch, fa, un, if sc = 0 then pl else 0, 0, bo, n, S, M) := by
  obtain ⟨⟨b1, b2, b3⟩, hu, hb, hs, h0, h1⟩ := hw
  unfold zaf
  by_cases hz : sc = 0
  · rw [if_pos hz, if_pos hz, if_pos hz]
    have hF := h0 hz
    have e1 : zct sc = [] := by unfold zct; rw [if_pos hz]
    have e2 : zcs sc = [] := by unfold zcs; rw [if_pos hz]
    rw [hF, e1, e2, List.nil_append, List.nil_append, List.append_nil] at hM
    exact ⟨top, ch, fa, bo, n, S, M, rfl, hle, hb, hM, ⟨⟨b1, b2, hI⟩, hu, hpl, Or.inr ⟨rfl, hpl1 hz⟩⟩, fun _ => hp (Or.inl hz)⟩
  · rw [if_neg hz, if_neg hz, if_neg hz]
    have e1 : zct sc = [sc] := by unfold zct; rw [if_neg hz]
    have e2 : zcs sc = [sc + 10] := by unfold zcs; rw [if_neg hz, Int.add_comm]
    rw [e1, e2] at hM
    have hen : zbal (sc :: (I ++ [sc + 10])) := zbal_enc (by omega) hI
    by_cases hbo : bo = 1
    · rw [if_pos hbo]
      refine ⟨top, ch, fa, bo, n, S, M, by rw [hbo], hle, hb, by simpa using hM, ⟨⟨b1, b2, zbal_app b3 hen⟩, hu, Or.inl rfl, Or.inr ⟨rfl, fun z => by omega⟩⟩, fun _ => hp (Or.inr hbo)⟩
    · rw [if_neg hbo]
      have hbo0 : bo = 0 := by omega
      obtain ⟨u0, f0⟩ := h1 hz hbo0
      subst u0 f0
      refine ⟨top, ch, fa, bo, n, S, M, by rw [hbo0], hle, hb, ?_, zrw0 (zbal_app b1 hen), fun z => by omega⟩
      simpa [zlh] using hM
theorem b_letter {K : List zLv} {br un sc bo c : Int} {G N F : List Int} {s : zRtu} (h : zen K br G N F un sc bo s) (hc : zld c) (hw : zwt s + 3 ≤ 360) : ∃ s', zk1 c s s' ∧ zaf K br G N F un sc bo [c] 0 s' ∧ zwt s' ≤ zwt s + 3 := by
  obtain ⟨st, top, ch, fa, pl, n, S, M, h1, h2, h3, h4, h5, h6⟩ := h
  have h3' := h3
  obtain ⟨-, hu, hb, hs, -, -⟩ := h3'
  have hn := zlen h4
  have hsy : (42 ≤ c ∧ c ≤ 122) ∧ zsy c = true := by
    refine ⟨by unfold zld at hc; omega, ?_⟩
    unfold zsy zle zdi
    rcases hc with hc | hc
    · rw [decide_eq_true hc]; rfl
    · rw [decide_eq_true hc]; simp
  obtain ⟨M2, a1, a2⟩ := c_add h4 (m := c) (by unfold zv; omega) (by omega)
  obtain ⟨n3, M3, d1, d2⟩ := c_endBase (st := st) (pl := pl) (x := 0) a2 hs hb (Or.inl rfl) (by simp only [List.length_append, List.length_cons, List.length_nil] at hn ⊢; omega)
  have hn3 := zlen d2
  have hl1 : ((if sc = 0 then [] else [10 + sc] : List Int)).length ≤ 1 := by split <;> simp
  simp only [List.length_append, List.length_cons, List.length_nil] at hn hn3
  have d2' : zCx 360 n3 M3 (zpre K br ++ (zlh un G N ++ (F ++ (zct sc ++ ([c] ++ zcs sc))))) := by simpa [zcs] using d2
  have r := zaf_mk (pl := 0) h3 h2 (zbal_one hsy) (Or.inl rfl) (fun _ z => by omega) d2' h5
  refine ⟨_, h1 c _ (Or.inl hc) (c_bs_item hc a1 d1), ?_, ?_⟩
  · have e : (if sc = 0 then (0 : Int) else 0) = 0 := by split <;> rfl
    rw [e] at r ⊢
    exact r
  · show n3 + un ≤ zwt s + 3
    omega
/-- what reading a row's text does -/
def zP (T : List Int) : Prop := ∀ (K : List zLv) (br : Int) (Z : List Int) (fr : Bool) (s : zRtu), zbal Z → zQ K br Z fr s → zwt s + 3 * (zvt T fr).length ≤ 360 → K.length + (zvt T fr).length ≤ 120 → ∃ s', zks (zvt T fr) s s' ∧ zQ K br (Z ++ T) (zvf T fr) s' ∧ zwt s' ≤ zwt s + 3 * (zvt T fr).length
/-- inside a bracket and out of it -/
theorem b_inner {K : List zLv} {br un sc bo k n' top : Int} {G N F T : List Int} {S' M' : Nat → Int} (hT : zbal T) (hP : zP T) (hkw : zkw K) (hkb : zkb br K) (htop : top = 6 * (K.length : Int)) (h3 : zwl G N F un sc bo) (hk : k = 4 ∨ k = 5) (hM : zCx 360 n' M' (zpre ((br, G, N, F, un, sc, bo) :: K) k)) (hS : zksC S' ((br, G, N, F, un, sc, bo) :: K)) (hw : n' + 3 * (ztx T).length + 3 ≤ 360) (hK : K.length + (ztx T).length + 2 ≤ 120) : ∃ s', zks (ztx T ++ [41]) (top + 6, 0, k, n', n', 0, 0, 0, 0, n', S', M') s' ∧ zaf K br G N F un sc bo (if k = 5 ∧ sc ≠ 0 then T else k :: (T ++ [k + 10])) (if k = 5 then 1 else 0) s' ∧ zwt s' ≤ n' + un + 3 * (ztx T).length + 3 := by
  have hle' : zle0 ((br, G, N, F, un, sc, bo) :: K) k (top + 6) S' := ⟨⟨h3, hkb, hkw⟩, Or.inr ⟨hk, by simp⟩, hS, by simp only [List.length_cons]; omega⟩
  have hn' := zlen hM
  have hel : zel ((br, G, N, F, un, sc, bo) :: K) k 0 [] [] [] 0 0 (top + 6, 0, k, n', n', 0, 0, 0, 0, n', S', M') := ⟨top + 6, n', n', 0, n', S', M', rfl, hle', Or.inl rfl, by simpa [zlh] using hM, zrw0 rfl, fun z => by omega⟩
  obtain ⟨s3, k1, k2, k3⟩ := hP _ k [] false _ rfl (zel0_Q hel) (by show n' + 0 + 3 * ((ztx T).length : Int) ≤ 360; omega) (by show K.length + 1 + (ztx T).length ≤ 120; omega)
  rw [List.nil_append] at k2
  have k3' : zwt s3 ≤ n' + 0 + 3 * (ztx T).length := k3
  obtain ⟨top3, st3, ch3, fa3, un3, pl3, bo3, n3, pl4, n4, S3, M3, M4, rfl, e2, e3, e4, e5, e6, e7, e8⟩ := zQ_end k2 (by omega)
  obtain ⟨f1, f2, f3, f4⟩ := e2
  have hn4 := zlen e6
  simp only [List.length_append] at hn4
  have htop3 : top3 = 6 * (K.length : Int) + 6 := by rw [f4]; simp only [List.length_cons]; omega
  obtain ⟨ch', fa', n5, M5, g1, g2, g3⟩ := c_closeB (st := 0) (ch := ch3) (fa := fa3) (un0 := 0) (pl := pl4) (sc0 := 0) (bo0 := bo3) h3 (by omega) htop3 f3 e6 (by simp only [List.length_append]; omega) hk
  have hn5 := zlen g2
  have hz1 := zcm_len (sc := sc) (k := k)
  have hz2 : (zcs sc).length ≤ 1 := by unfold zcs; split <;> simp
  simp only [List.length_append] at hn5
  have e9 : top3 - 6 = top := by omega
  rw [e9] at g1
  have hsc : sc = 0 ∨ sc = 2 ∨ sc = 3 := h3.2.2.2.1
  have hS5 : zksC S3 K := f3.2.2
  have hmarks : zCx 360 n5 M5 (zpre K br ++ (zlh un G N ++ (F ++ (zct sc ++ ((if k = 5 ∧ sc ≠ 0 then T else k :: (T ++ [k + 10])) ++ zcs sc))))) := by
    have e : zpre ((br, G, N, F, un, sc, bo) :: K) k ++ T ++ (zcm sc k ++ zcs sc) = zpre K br ++ (zlh un G N ++ (F ++ (zct sc ++ ((if k = 5 ∧ sc ≠ 0 then T else k :: (T ++ [k + 10])) ++ zcs sc)))) := by
      have ec : (10 : Int) + k = k + 10 := by omega
      simp only [zpre, zom, zcm]
      by_cases h5 : k = 5 ∧ sc ≠ 0
      · rw [if_pos h5, if_neg (by omega), if_neg (by omega)]
        simp
      · rw [if_neg h5, if_pos (by omega), if_pos (by omega), ec]
        simp
    rw [← e]; exact g2
  have hIb : zbal (if k = 5 ∧ sc ≠ 0 then T else k :: (T ++ [k + 10])) := by
    split
    · exact hT
    · exact zbal_enc (by omega) hT
  have r := zaf_mk (pl := if k = 5 then 1 else 0) h3 ⟨hkw, hkb, hS5, htop⟩ hIb (by split <;> omega) (fun z1 z2 => by
    by_cases h5 : k = 5
    · rw [if_neg (by omega), h5]
      exact ⟨T, rfl, hT⟩
    · rw [if_neg h5] at z2
      omega) hmarks g3
  refine ⟨_, zks_app k1 (zks_one (c_tk_shut e4 e5 g1 (Or.inr rfl))), r, ?_⟩
  show n5 + un ≤ _
  omega
theorem b_paren {K : List zLv} {br un sc bo : Int} {G N F T : List Int} {s : zRtu} (h : zen K br G N F un sc bo s) (hT : zbal T) (hP : zP T) (hw : zwt s + 3 * ((ztx T).length + 2) ≤ 360) (hK : K.length + (ztx T).length + 2 ≤ 120) : ∃ s', zks (40 :: (ztx T ++ [41])) s s' ∧ zaf K br G N F un sc bo (if sc ≠ 0 then T else 5 :: (T ++ [15])) 1 s' ∧ zwt s' ≤ zwt s + 3 * ((ztx T).length + 2) := by
  obtain ⟨st, top, ch, fa, pl, n, S, M, h1, h2, h3, h4, h5, h6⟩ := h
  obtain ⟨q1, q2, q3, q4⟩ := h2
  have hn := zlen h4
  have hun : un = 0 ∨ un = 1 := h3.2.1
  obtain ⟨n', S', M', o1, o2, o3⟩ := c_open (st := st) (pl := pl) h3 (by omega) q4 q3 h4 (by omega) h5 (k := 5) (Or.inr rfl)
  have hn' := zlen o2
  have hzo : (zom sc 5).length ≤ 1 := by unfold zom; split <;> simp
  simp only [zpre, List.length_append] at hn' hn
  obtain ⟨s', a1, a2, a3⟩ := b_inner hT hP q1 q2 q4 h3 (Or.inr rfl) o2 o3 (by omega) (by omega)
  refine ⟨s', zks_cons (h1 40 _ (Or.inr (Or.inr rfl)) (c_bs_open o1)) a1, ?_, by omega⟩
  have e : (if (5 : Int) = 5 ∧ sc ≠ 0 then T else 5 :: (T ++ [5 + 10])) = (if sc ≠ 0 then T else 5 :: (T ++ [15])) := by
    by_cases hz : sc ≠ 0
    · rw [if_pos ⟨rfl, hz⟩, if_pos hz]
    · rw [if_neg (fun z => hz z.2), if_neg hz]; rfl
  rw [e, if_pos rfl] at a2
  exact a2
theorem b_root {K : List zLv} {br un sc bo : Int} {G N F T : List Int} {s : zRtu} (h : zen K br G N F un sc bo s) (hT : zbal T) (hP : zP T) (hw : zwt s + 3 * ((ztx T).length + 3) ≤ 360) (hK : K.length + (ztx T).length + 3 ≤ 120) : ∃ s', zks (114 :: 40 :: (ztx T ++ [41])) s s' ∧ zaf K br G N F un sc bo (4 :: (T ++ [14])) 0 s' ∧ zwt s' ≤ zwt s + 3 * ((ztx T).length + 3) := by
  obtain ⟨st, top, ch, fa, pl, n, S, M, h1, h2, h3, h4, h5, h6⟩ := h
  obtain ⟨q1, q2, q3, q4⟩ := h2
  have hn := zlen h4
  have hun : un = 0 ∨ un = 1 := h3.2.1
  obtain ⟨n', S', M', o1, o2, o3⟩ := c_open (st := 3) (pl := pl) h3 (by omega) q4 q3 h4 (by omega) h5 (k := 4) (Or.inl rfl)
  have hn' := zlen o2
  have hzo : (zom sc 4).length ≤ 1 := by unfold zom; split <;> simp
  simp only [zpre, List.length_append] at hn' hn
  obtain ⟨s', a1, a2, a3⟩ := b_inner hT hP q1 q2 q4 h3 (Or.inl rfl) o2 o3 (by omega) (by omega)
  have st1 : zk1 114 s (top, 3, br, ch, fa, un, pl, sc, bo, n, S, M) := h1 114 _ (Or.inr (Or.inl rfl)) c_bs_r
  have st2 : zk1 40 (top, 3, br, ch, fa, un, pl, sc, bo, n, S, M) (top + 6, 0, 4, n', n', 0, 0, 0, 0, n', S', M') := c_tk_r rfl o1
  refine ⟨s', zks_cons st1 (zks_cons st2 a1), ?_, by omega⟩
  rw [if_neg (by omega), if_neg (by omega)] at a2
  exact a2
