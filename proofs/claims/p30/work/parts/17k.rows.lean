/-! p30: the class reads what it wrote -/
theorem zlt_ld {m : Int} (h : zlt m = true) : zld m := by
  unfold zlt zle zdi at h
  unfold zld
  simp only [Bool.or_eq_true, decide_eq_true_eq] at h
  omega
theorem zsy_or {m : Int} (h : zsy m = true) : zld m ∨ (m = 43 ∨ m = 45 ∨ m = 42 ∨ m = 61 ∨ m = 44 ∨ m = 46) := by
  unfold zsy zle zdi zmk at h
  unfold zld
  simp only [Bool.or_eq_true, decide_eq_true_eq] at h
  omega
theorem zcl_1 {I : List Int} (hI : zbal I) (h : zcl I = 1) : (∃ c, I = [c] ∧ zld c) ∨ (∃ T, I = 4 :: (T ++ [14]) ∧ zbal T) := by
  by_cases hn : I = []
  · rw [hn] at h; cases h
  · obtain ⟨X, R, rfl, hX, hR⟩ := zitF hI hn
    have e : zcl (X ++ R) = zcc R (zcc X 0) := zcc_app (zit_bal hX) hR 0
    obtain ⟨m, Y, e1, -, -⟩ := zit_first hX
    obtain ⟨-, -, c3⟩ := zcc_n hX e1
    have hR0 : R = [] := by
      by_cases hr : R = []
      · exact hr
      · exfalso
        obtain ⟨d1, d2, d3⟩ := zcc_123 hR hr
        rw [e, c3] at h
        split at h
        · omega
        · split at h
          · omega
          · rw [(zcc_b hR 4).1 rfl] at h; cases h
    rw [hR0, List.append_nil] at h ⊢
    rcases hX with ⟨m2, rfl, a, b⟩ | ⟨k, J, rfl, a, b, hJ⟩ | ⟨I2, J, rfl, hI2, hJ⟩
    · left
      have : zcc [m2] 0 = 1 := h
      rw [zcc_one a.1] at this
      split at this
      · rename_i hz; exact ⟨m2, rfl, zlt_ld hz.1⟩
      · cases this
    · have h' : zcc (k :: (J ++ [k + 10])) 0 = 1 := h
      have hk : (k = 2 ∨ k = 3) ∨ k = 4 ∨ k = 5 := by omega
      rcases hk with hk | rfl | rfl
      · rw [zcc_s hk hJ, if_neg (by omega)] at h'; cases h'
      · exact Or.inr ⟨J, rfl, hJ⟩
      · have : zcc (5 :: (J ++ [15])) 0 = 1 := h'
        rw [zcc_5 hJ] at this
        cases this
    · have h' : zcc (1 :: (I2 ++ 6 :: (J ++ [11]))) 0 = 1 := h
      rw [zcc_q hI2 hJ] at h'; cases h'
theorem zcl_13 {I : List Int} (hI : zbal I) (h : zcl I = 1 ∨ zcl I = 3) : ∃ X R, I = X ++ R ∧ zit X ∧ zbal R ∧ (zcc X 0 = 1 ∨ zcc X 0 = 2) ∧ zcc R 3 = 3 ∧ (R = [] → zcc X 0 = 1) := by
  by_cases hn : I = []
  · rw [hn] at h; rcases h with h | h <;> cases h
  · obtain ⟨X, R, rfl, hX, hR⟩ := zitF hI hn
    have e : zcl (X ++ R) = zcc R (zcc X 0) := zcc_app (zit_bal hX) hR 0
    obtain ⟨m, Y, e1, -, -⟩ := zit_first hX
    obtain ⟨-, -, c3⟩ := zcc_n hX e1
    have hc : zcc X 0 = 1 ∨ zcc X 0 = 2 := by
      rw [c3]
      split
      · exact Or.inl rfl
      · split
        · exact Or.inr rfl
        · exfalso
          rename_i z1 z2
          rw [e, c3, if_neg z1, if_neg z2, (zcc_b hR 4).1 rfl] at h
          omega
    refine ⟨X, R, rfl, hX, hR, hc, ?_, ?_⟩
    · by_cases hr : R = []
      · rw [hr]; rfl
      · obtain ⟨d1, d2, d3⟩ := zcc_123 hR hr
        rw [e] at h
        rcases hc with hc | hc <;> rw [hc] at h <;> omega
    · intro hr
      rw [e, hr, zcc_nil] at h
      omega
section RW
variable {K : List zLv} {br un sc bo : Int} {G N F : List Int} {s : zRtu}
theorem b_item {X : List Int} (hX : zit X) (hc : zcc X 0 = 1 ∨ zcc X 0 = 2) (ih : ∀ T, T.length < X.length → zbal T → zP T) (fr : Bool) (h : zen K br G N [] un 0 bo s) (hw : zwt s + 3 * (zvt X fr).length ≤ 360) (hK : K.length + (zvt X fr).length ≤ 120) : ∃ s', zks (zvt X fr) s s' ∧ zel K br 1 G N X un (if zcc X 0 = 2 then 1 else 0) s' ∧ zwt s' ≤ zwt s + 3 * (zvt X fr).length ∧ zvf X fr = false := by
  rcases hX with ⟨m, rfl, a, b⟩ | ⟨k, I, rfl, a, b, hI⟩ | ⟨I, J, rfl, hI, hJ⟩
  · have hz : zlt m = true := by
      rw [zcc_one a.1] at hc
      by_cases hz : zlt m = true
      · exact hz
      · rw [if_neg (fun z => hz z.1)] at hc; omega
    have e1 := zcc_one (c := 0) a.1
    rw [if_pos ⟨hz, rfl⟩] at e1
    obtain ⟨v1, v2⟩ := zvt_one (fr := fr) a.1
    rw [v1] at hw hK ⊢
    simp only [List.length_cons, List.length_nil] at hw ⊢
    obtain ⟨s', a1, a2, a3⟩ := b_letter h (zlt_ld hz) (by omega)
    unfold zaf at a2
    rw [if_pos rfl] at a2
    rw [e1, if_neg (by omega)]
    exact ⟨s', zks_one a1, a2, by omega, v2⟩
  · have hk : (k = 2 ∨ k = 3) ∨ k = 4 ∨ k = 5 := by omega
    rcases hk with hk | rfl | rfl
    · rw [zcc_s hk hI, if_neg (by omega)] at hc; omega
    · obtain ⟨v1, v2⟩ := zvt_4 (fr := fr) hI
      have e1 := zcc_4 (c := 0) hI
      rw [if_pos rfl] at e1
      have hw' : zwt s + 3 * (zvt (4 :: (I ++ [14])) fr).length ≤ 360 := hw
      have hK' : K.length + (zvt (4 :: (I ++ [14])) fr).length ≤ 120 := hK
      show ∃ s', zks (zvt (4 :: (I ++ [14])) fr) s s' ∧ zel K br 1 G N (4 :: (I ++ [14])) un (if zcc (4 :: (I ++ [14])) 0 = 2 then 1 else 0) s' ∧ zwt s' ≤ zwt s + 3 * (zvt (4 :: (I ++ [14])) fr).length ∧ zvf (4 :: (I ++ [14])) fr = false
      rw [v1] at hw' hK' ⊢
      simp only [List.length_cons, List.length_append, List.length_nil] at hw' hK' ⊢
      obtain ⟨s', a1, a2, a3⟩ := b_root h hI (ih I (by simp; omega) hI) (by omega) (by omega)
      unfold zaf at a2
      rw [if_pos rfl] at a2
      rw [e1, if_neg (by omega)]
      exact ⟨s', a1, a2, by omega, v2⟩
    · obtain ⟨v1, v2⟩ := zvt_5 (fr := fr) hI
      have e1 := zcc_5 (c := 0) hI
      rw [if_pos rfl] at e1
      have hw' : zwt s + 3 * (zvt (5 :: (I ++ [15])) fr).length ≤ 360 := hw
      have hK' : K.length + (zvt (5 :: (I ++ [15])) fr).length ≤ 120 := hK
      show ∃ s', zks (zvt (5 :: (I ++ [15])) fr) s s' ∧ zel K br 1 G N (5 :: (I ++ [15])) un (if zcc (5 :: (I ++ [15])) 0 = 2 then 1 else 0) s' ∧ zwt s' ≤ zwt s + 3 * (zvt (5 :: (I ++ [15])) fr).length ∧ zvf (5 :: (I ++ [15])) fr = false
      rw [v1] at hw' hK' ⊢
      simp only [List.length_cons, List.length_append, List.length_nil] at hw' hK' ⊢
      obtain ⟨s', a1, a2, a3⟩ := b_paren h hI (ih I (by simp; omega) hI) (by omega) (by omega)
      unfold zaf at a2
      rw [if_pos rfl, if_neg (by omega)] at a2
      rw [e1, if_pos rfl]
      exact ⟨s', a1, a2, by omega, v2⟩
  · rw [zcc_q hI hJ] at hc; omega
theorem s_scr {st k un pl : Int} {I : List Int} (hk : k = 2 ∨ k = 3) (hI : zbal I) (ih : ∀ T, T.length ≤ I.length → zbal T → zP T) (h : zel K br st G N F un pl s) (hw : zwt s + 3 * ((zbas (ztx I) (zcl I)).length + 1) ≤ 360) (hK : K.length + (zbas (ztx I) (zcl I)).length + 1 ≤ 120) : ∃ s', zks ((if k = 2 then 94 else 95) :: zbas (ztx I) (zcl I)) s s' ∧ (if st = 1 then zel K br 1 G N (F ++ k :: (I ++ [k + 10])) un 0 s' else zel K br 0 (G ++ k :: (I ++ [k + 10])) [] [] 0 0 s') ∧ zwt s' ≤ zwt s + 3 * ((zbas (ztx I) (zcl I)).length + 1) := by
  obtain ⟨s1, a1, a2, a3⟩ := s_script h (k := k) (c := if k = 2 then 94 else 95) (by rcases hk with rfl | rfl <;> simp) (by omega)
  have hk0 : ¬ k = 0 := by omega
  have hfin : ∀ (pl2 : Int) (s' : zRtu), zaf K br G N F un k st I pl2 s' → (if st = 1 then zel K br 1 G N (F ++ k :: (I ++ [k + 10])) un 0 s' else zel K br 0 (G ++ k :: (I ++ [k + 10])) [] [] 0 0 s') := by
    intro pl2 s' hz
    unfold zaf at hz
    rw [if_neg hk0] at hz
    exact hz
  by_cases hc : zcl I = 1
  · have eb : zbas (ztx I) (zcl I) = ztx I := by unfold zbas; rw [if_pos hc]
    rw [eb] at hw hK ⊢
    rcases zcl_1 hI hc with ⟨c, rfl, hcl⟩ | ⟨T, rfl, hT⟩
    · have hc42 : 42 ≤ c := by unfold zld at hcl; omega
      obtain ⟨v1, -⟩ := zvt_one (fr := false) hc42
      have ex : ztx [c] = [c] := v1
      rw [ex] at hw hK ⊢
      simp only [List.length_cons, List.length_nil] at hw ⊢
      obtain ⟨s2, b1, b2, b3⟩ := b_letter a2 hcl (by omega)
      exact ⟨s2, zks_cons a1 (zks_one b1), hfin _ _ b2, by omega⟩
    · obtain ⟨v1, -⟩ := zvt_4 (fr := false) hT
      have ex : ztx (4 :: (T ++ [14])) = 114 :: 40 :: (ztx T ++ [41]) := v1
      rw [ex] at hw hK ⊢
      simp only [List.length_cons, List.length_append, List.length_nil] at hw hK ⊢
      obtain ⟨s2, b1, b2, b3⟩ := b_root a2 hT (ih T (by simp; omega) hT) (by omega) (by omega)
      exact ⟨s2, zks_cons a1 b1, hfin _ _ b2, by omega⟩
  · have eb : zbas (ztx I) (zcl I) = 40 :: (ztx I ++ [41]) := by unfold zbas; rw [if_neg hc]
    rw [eb] at hw hK ⊢
    simp only [List.length_cons, List.length_append, List.length_nil] at hw hK ⊢
    obtain ⟨s2, b1, b2, b3⟩ := b_paren a2 hI (ih I (Nat.le_refl _) hI) (by omega) (by omega)
    rw [if_pos hk0] at b2
    exact ⟨s2, zks_cons a1 b1, hfin _ _ b2, by omega⟩
theorem s_scrs (m : Nat) (ih : ∀ T, T.length < m → zbal T → zP T) : ∀ (k : Nat) (R : List Int), R.length ≤ k → R.length ≤ m → zbal R → zcc R 3 = 3 → ∀ {F : List Int} {un pl : Int} {s : zRtu}, zel K br 1 G N F un pl s → zwt s + 3 * (zvt R false).length ≤ 360 → K.length + (zvt R false).length ≤ 120 → ∃ s' pl', zks (zvt R false) s s' ∧ zel K br 1 G N (F ++ R) un pl' s' ∧ (R = [] → pl' = pl) ∧ (R ≠ [] → pl' = 0) ∧ zwt s' ≤ zwt s + 3 * (zvt R false).length := by
  intro k
  induction k with
  | zero =>
    intro R hk hm hR hc F un pl s h hw hK
    have : R = [] := List.length_eq_zero_iff.mp (by omega)
    subst this
    exact ⟨s, pl, rfl, by rw [List.append_nil]; exact h, fun _ => rfl, fun z => absurd rfl z, by rw [zvt_nil]; simp⟩
  | succ k ihk =>
    intro R hk hm hR hc F un pl s h hw hK
    by_cases hn : R = []
    · subst hn
      exact ⟨s, pl, rfl, by rw [List.append_nil]; exact h, fun _ => rfl, fun z => absurd rfl z, by rw [zvt_nil]; simp⟩
    · obtain ⟨X, R1, rfl, hX, hR1⟩ := zitF hR hn
      have hXl := zit_ne hX
      rw [List.length_append] at hk hm
      obtain ⟨m2, Y, e1, -, -⟩ := zit_first hX
      obtain ⟨c1, c2, -⟩ := zcc_n hX e1
      rw [zcc_app (zit_bal hX) hR1] at hc
      have hms : m2 = 2 ∨ m2 = 3 := by
        by_cases hz : m2 = 2 ∨ m2 = 3
        · exact hz
        · rw [c2 hz 3 (by omega), (zcc_b hR1 4).1 rfl] at hc; cases hc
      rw [c1 hms 3 (by omega)] at hc
      have hform : ∃ I, X = m2 :: (I ++ [m2 + 10]) ∧ zbal I := by
        rcases hX with ⟨m3, rfl, a, b⟩ | ⟨k2, I, rfl, a, b, hI⟩ | ⟨I, J, rfl, hI, hJ⟩
        · obtain ⟨rfl, -⟩ := List.cons.inj e1; omega
        · obtain ⟨rfl, -⟩ := List.cons.inj e1; exact ⟨I, rfl, hI⟩
        · obtain ⟨rfl, -⟩ := List.cons.inj e1; omega
      obtain ⟨I, rfl, hI⟩ := hform
      obtain ⟨v1, v2⟩ := zvt_s (fr := false) hms hI
      rw [if_neg (by decide), List.nil_append] at v1
      rw [zvt_app (zit_bal hX) hR1, v1, v2] at hw hK ⊢
      simp only [List.length_append, List.length_cons, List.length_nil] at hw hK hk hm
      obtain ⟨s1, a1, a2, a3⟩ := s_scr hms hI (fun T h1 h2 => ih T (by omega) h2) h (by omega) (by omega)
      rw [if_pos rfl] at a2
      obtain ⟨s2, pl2, b1, b2, b3, b4, b5⟩ := ihk R1 (by omega) (by omega) hR1 hc a2 (by omega) (by omega)
      refine ⟨s2, pl2, zks_app a1 b1, by rw [List.append_assoc] at b2; exact b2, fun z => absurd z hn, fun _ => ?_, ?_⟩
      · by_cases hr : R1 = []
        · exact b3 hr
        · exact b4 hr
      · simp only [List.length_append, List.length_cons]
        omega
/-- an operand -/
theorem s_opd {I : List Int} (hI : zbal I) (ih : ∀ T, T.length ≤ I.length → zbal T → zP T) (h : zen K br G N [] un 0 bo s) (hw : zwt s + 3 * (zopd (ztx I) (zcl I)).length ≤ 360) (hK : K.length + (zopd (ztx I) (zcl I)).length ≤ 120) : ∃ s' F' p', zks (zopd (ztx I) (zcl I)) s s' ∧ zel K br 1 G N F' un p' s' ∧ zuf p' F' I ∧ zwt s' ≤ zwt s + 3 * (zopd (ztx I) (zcl I)).length := by
  by_cases hc : zcl I = 1 ∨ zcl I = 3
  · have eo : zopd (ztx I) (zcl I) = ztx I := by unfold zopd; rw [if_pos hc]
    rw [eo] at hw hK ⊢
    obtain ⟨X, R, rfl, hX, hR, h1, h2, h3⟩ := zcl_13 hI hc
    have hXl := zit_ne hX
    have ex : ztx (X ++ R) = zvt X false ++ zvt R (zvf X false) := zvt_app (zit_bal hX) hR false
    rw [ex] at hw hK ⊢
    simp only [List.length_append] at hw hK
    obtain ⟨s1, a1, a2, a3, a4⟩ := b_item hX h1 (fun T hT hb => ih T (by rw [List.length_append]; omega) hb) false h (by omega) (by omega)
    rw [a4] at hw hK ⊢
    obtain ⟨s2, p2, b1, b2, b3, b4, b5⟩ := s_scrs (X ++ R).length (fun T hT hb => ih T (by omega) hb) R.length R (Nat.le_refl _) (by rw [List.length_append]; omega) hR h2 a2 (by omega) (by omega)
    refine ⟨s2, X ++ R, p2, zks_app a1 b1, b2, Or.inl ⟨?_, rfl⟩, by simp only [List.length_append]; omega⟩
    by_cases hr : R = []
    · rw [b3 hr, h3 hr, if_neg (by omega)]
    · exact b4 hr
  · have eo : zopd (ztx I) (zcl I) = 40 :: (ztx I ++ [41]) := by unfold zopd; rw [if_neg hc]
    rw [eo] at hw hK ⊢
    simp only [List.length_cons, List.length_append, List.length_nil] at hw hK ⊢
    obtain ⟨s2, b1, b2, b3⟩ := b_paren h hI (ih I (Nat.le_refl _) hI) (by omega) (by omega)
    unfold zaf at b2
    rw [if_pos rfl, if_neg (by omega)] at b2
    exact ⟨s2, 5 :: (I ++ [15]), 1, b1, b2, Or.inr ⟨rfl, rfl⟩, by omega⟩
theorem s_it {X : List Int} (hX : zit X) (ih : ∀ T, T.length < X.length → zbal T → zP T) {Z : List Int} {fr : Bool} (hZ : zbal Z) (h : zQ K br Z fr s) (hw : zwt s + 3 * (zvt X fr).length ≤ 360) (hK : K.length + (zvt X fr).length ≤ 120) : ∃ s', zks (zvt X fr) s s' ∧ zQ K br (Z ++ X) (zvf X fr) s' ∧ zwt s' ≤ zwt s + 3 * (zvt X fr).length := by
  have hX0 := hX
  rcases hX with ⟨m, rfl, a, b⟩ | ⟨k, I, rfl, a, b, hI⟩ | ⟨I, J, rfl, hI, hJ⟩
  · obtain ⟨v1, v2⟩ := zvt_one (fr := fr) a.1
    rcases zsy_or b with hz | hz
    · obtain ⟨bo, h1⟩ := s_elem h hZ (by omega)
      rw [v1] at hw hK ⊢
      simp only [List.length_cons, List.length_nil] at hw ⊢
      obtain ⟨s', a1, a2, a3⟩ := b_letter h1 hz (by omega)
      unfold zaf at a2
      rw [if_pos rfl] at a2
      exact ⟨s', zks_one a1, zel1_Q a2 (zbal_one ⟨a, b⟩), by omega⟩
    · rw [v1] at hw hK ⊢
      rw [v2]
      simp only [List.length_cons, List.length_nil] at hw ⊢
      obtain ⟨s', a1, a2, a3⟩ := s_op h hZ hz (by omega)
      exact ⟨s', zks_one a1, a2, by omega⟩
  · have hk : (k = 2 ∨ k = 3) ∨ k = 4 ∨ k = 5 := by omega
    rcases hk with hk | hk
    · obtain ⟨v1, v2⟩ := zvt_s (fr := fr) hk hI
      rw [v1] at hw hK ⊢
      rw [v2]
      have ih' : ∀ T, T.length ≤ I.length → zbal T → zP T := fun T h1 h2 => ih T (by simp; omega) h2
      cases fr with
      | true =>
        rw [if_pos rfl] at hw hK ⊢
        simp only [List.length_append, List.length_cons, List.length_nil] at hw hK
        obtain ⟨s1, pl1, a1, a2, a3⟩ := s_blank h hZ (by omega)
        obtain ⟨s2, b1, b2, b3⟩ := s_scr hk hI ih' a2 (by omega) (by omega)
        rw [if_neg (by omega)] at b2
        exact ⟨s2, zks_app (zks_one a1) b1, zel0_Q b2, by simp only [List.length_append, List.length_cons, List.length_nil]; omega⟩
      | false =>
        rw [if_neg (by decide), List.nil_append] at hw hK ⊢
        simp only [List.length_cons] at hw hK
        obtain ⟨st, G, N, F, un, pl, h1, ⟨X', x1, x2, x3, x4⟩, h2⟩ := h
        have hu := h2 rfl
        subst hu
        have x1' : X' = F := by rcases x1 with ⟨-, x⟩ | ⟨x, -⟩; exact x; omega
        subst x1'
        have hZe : Z = G ++ X' := by rw [x4]; simp [zlh, zpd]
        obtain ⟨s2, b1, b2, b3⟩ := s_scr hk hI ih' h1 (by omega) (by omega)
        refine ⟨s2, b1, ?_, by simp only [List.length_cons]; omega⟩
        by_cases hst : st = 1
        · rw [if_pos hst] at b2
          refine ⟨1, G, N, X' ++ k :: (I ++ [k + 10]), 0, 0, b2, ⟨_, Or.inl ⟨rfl, rfl⟩, zbal_app x2 (zit_bal hX0), Nat.le_refl _, ?_⟩, fun _ => rfl⟩
          rw [hZe]; simp [zlh, zpd]
        · rw [if_neg hst] at b2
          have hX' : X' = [] := by
            obtain ⟨top, ch, fa, bo, n, S, M, -, -, -, -, hr, -⟩ := h1
            rcases hr.2.2.2 with ⟨-, -, r⟩ | ⟨r, -⟩
            · exact r
            · exact absurd r hst
          have : Z = G := by rw [hZe, hX', List.append_nil]
          rw [this]
          exact zel0_Q b2
    · have hc : zcc (k :: (I ++ [k + 10])) 0 = 1 ∨ zcc (k :: (I ++ [k + 10])) 0 = 2 := by
        rcases hk with rfl | rfl
        · left; exact (zcc_4 hI).trans (if_pos rfl)
        · right; exact (zcc_5 hI).trans (if_pos rfl)
      obtain ⟨bo, h1⟩ := s_elem h hZ (by omega)
      obtain ⟨s', a1, a2, a3, a4⟩ := b_item hX0 hc ih fr h1 hw hK
      exact ⟨s', a1, zel1_Q a2 (zit_bal hX0), a3⟩
  · obtain ⟨v1, v2⟩ := zvt_q (fr := fr) hI hJ
    rw [v1] at hw hK ⊢
    rw [v2]
    simp only [List.length_append, List.length_cons] at hw hK
    obtain ⟨bo, h1⟩ := s_elem h hZ (by omega)
    obtain ⟨s1, F1, p1, a1, a2, a3, a4⟩ := s_opd hI (fun T h1 h2 => ih T (by simp; omega) h2) h1 (by omega) (by omega)
    obtain ⟨s2, bo2, b1, b2, b3⟩ := s_line a2 hI a3 (by omega)
    obtain ⟨s3, F3, p3, c1, c2, c3, c4⟩ := s_opd hJ (fun T h1 h2 => ih T (by simp; omega) h2) b2 (by omega) (by omega)
    refine ⟨s3, zks_app a1 (zks_cons b1 c1), ⟨1, Z, I, F3, 1, p3, c2, ⟨J, Or.inr ⟨rfl, c3⟩, hJ, c3.le, ?_⟩, fun z => by cases z⟩, by simp only [List.length_append, List.length_cons]; omega⟩
    simp [zlh, zpd]
end RW
theorem zP_all : ∀ (n : Nat) (T : List Int), T.length ≤ n → zbal T → zP T := by
  intro n
  induction n with
  | zero =>
    intro T hl hT K br Z fr s hZ h hw hK
    have : T = [] := List.length_eq_zero_iff.mp (by omega)
    subst this
    exact ⟨s, rfl, by rw [List.append_nil]; exact h, by rw [zvt_nil]; simp⟩
  | succ n ihn =>
    intro T hl hT K br Z fr s hZ h hw hK
    by_cases hn : T = []
    · subst hn
      exact ⟨s, rfl, by rw [List.append_nil]; exact h, by rw [zvt_nil]; simp⟩
    · obtain ⟨X, R, rfl, hX, hR⟩ := zitF hT hn
      have hXl := zit_ne hX
      rw [List.length_append] at hl
      rw [zvt_app (zit_bal hX) hR] at hw hK ⊢
      simp only [List.length_append] at hw hK
      obtain ⟨s1, a1, a2, a3⟩ := s_it hX (fun T h1 h2 => ihn T (by omega) h2) hZ h (by omega) (by omega)
      obtain ⟨s2, b1, b2, b3⟩ := ihn R (by omega) hR K br (Z ++ X) (zvf X fr) s1 (zbal_app hZ (zit_bal hX)) a2 (by omega) (by omega)
      refine ⟨s2, zks_app a1 b1, ?_, by simp only [List.length_append]; omega⟩
      rw [List.append_assoc] at b2
      rw [zvf_app (zit_bal hX) hR]
      exact b2
