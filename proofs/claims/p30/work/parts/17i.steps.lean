/-! p30: the class reads: states between two signs, and before a base -/
abbrev zRtu := Int × Int × Int × Int × Int × Int × Int × Int × Int × Int × (Nat → Int) × (Nat → Int)
def zk1 (c : Int) (s s' : zRtu) : Prop := match s with
  | (top, st, br, ch, fa, un, pl, sc, bo, n, S, M) => f_X5_takes top st br ch fa un pl sc bo n S M c = some (1, s')
def zwt (s : zRtu) : Int := match s with
  | (_, _, _, _, _, un, _, _, _, n, _, _) => n + un
def zks : List Int → zRtu → zRtu → Prop
  | [], s, s' => s' = s
  | c :: t, s, s' => ∃ s1, zk1 c s s1 ∧ zks t s1 s'
theorem zks_app : ∀ {V W : List Int} {s s1 s' : zRtu}, zks V s s1 → zks W s1 s' → zks (V ++ W) s s'
  | [], W, s, s1, s', h1, h2 => by
    have e : s1 = s := h1
    subst e
    exact h2
  | c :: V, W, s, s1, s', ⟨s2, h1, h3⟩, h2 => ⟨s2, h1, zks_app h3 h2⟩
theorem zks_one {c : Int} {s s' : zRtu} (h : zk1 c s s') : zks [c] s s' := ⟨s', h, rfl⟩
theorem zks_cons {c : Int} {t : List Int} {s s1 s' : zRtu} (h : zk1 c s s1) (h2 : zks t s1 s') : zks (c :: t) s s' := ⟨s1, h, h2⟩
/-- the levels around -/
def zle0 (K : List zLv) (br top : Int) (S : Nat → Int) : Prop := zkw K ∧ zkb br K ∧ zksC S K ∧ top = 6 * (K.length : Int)
/-- between two signs of a row: st 0 behind an element, 1 behind a factor -/
def zel (K : List zLv) (br st : Int) (G N F : List Int) (un pl : Int) (s : zRtu) : Prop := ∃ (top ch fa bo n : Int) (S M : Nat → Int), s = (top, st, br, ch, fa, un, pl, 0, bo, n, S, M) ∧ zle0 K br top S ∧ (bo = 0 ∨ bo = 1) ∧ zCx 360 n M (zpre K br ++ (zlh un G N ++ F)) ∧ zrw st G N F un pl ∧ (st = 1 → ch = ((zpre K br).length : Int) + G.length ∧ fa = ((zpre K br).length : Int) + (zlh un G N).length)
/-- the row so far is Z; fr: whether its last item may be a fraction -/
def zQ (K : List zLv) (br : Int) (Z : List Int) (fr : Bool) (s : zRtu) : Prop := ∃ (st : Int) (G N F : List Int) (un pl : Int), zel K br st G N F un pl s ∧ (∃ X, zuc un pl F X ∧ zbal X ∧ X.length ≤ F.length ∧ Z = zlh un G N ++ (X ++ zpd un)) ∧ (fr = false → un = 0)
/-- a base may begin here -/
def zfc (c : Int) : Prop := zld c ∨ c = 114 ∨ c = 40
def zen (K : List zLv) (br : Int) (G N F : List Int) (un sc bo : Int) (s : zRtu) : Prop := ∃ (st top ch fa pl n : Int) (S M : Nat → Int), (∀ (c : Int) (s' : zRtu), zfc c → f_X5_takesBase top st br ch fa un pl sc bo n S M c = some (1, s') → zk1 c s s') ∧ zle0 K br top S ∧ zwl G N F un sc bo ∧ zCx 360 n M (zpre K br ++ (zlh un G N ++ (F ++ zct sc))) ∧ (sc = 0 ∨ bo = 1 → ch = ((zpre K br).length : Int) + G.length ∧ fa = ((zpre K br).length : Int) + (zlh un G N).length) ∧ n + un ≤ zwt s
/-- behind a base -/
def zaf (K : List zLv) (br : Int) (G N F : List Int) (un sc bo : Int) (I : List Int) (pl : Int) (s : zRtu) : Prop := if sc = 0 then zel K br 1 G N I un pl s else if bo = 1 then zel K br 1 G N (F ++ sc :: (I ++ [sc + 10])) un 0 s else zel K br 0 (G ++ sc :: (I ++ [sc + 10])) [] [] 0 0 s
theorem zfc_r {c : Int} (h : zfc c) : (0 ≤ c ∧ c ≤ 255) ∧ (c ≠ 32 ∧ c ≠ 41 ∧ c ≠ 94 ∧ c ≠ 95 ∧ c ≠ 47) ∧ ¬ (c = 43 ∨ c = 45 ∨ c = 42 ∨ c = 61 ∨ c = 44 ∨ c = 46) := by
  unfold zfc zld at h
  refine ⟨?_, ?_, ?_⟩ <;> omega
theorem zlen {n : Int} {M : Nat → Int} {C : List Int} (h : zCx 360 n M C) : n = (C.length : Int) := h.1.1
/-- a chain ends -/
theorem zel_end {K : List zLv} {br st : Int} {G N F : List Int} {un pl : Int} {s : zRtu} (h : zel K br st G N F un pl s) {X : List Int} (hX : zuc un pl F X) (hXl : X.length ≤ F.length) (hw : zwt s ≤ 360) : ∃ (top ch fa bo n pl' n' : Int) (S M M' : Nat → Int), s = (top, st, br, ch, fa, un, pl, 0, bo, n, S, M) ∧ zle0 K br top S ∧ (bo = 0 ∨ bo = 1) ∧ (st = 0 ∨ st = 1) ∧ f_X5_endFactor st fa un pl n M = some (0, pl', n', M') ∧ zCx 360 n' M' (zpre K br ++ (zlh un G N ++ (X ++ zpd un))) ∧ (pl' = 0 ∨ pl' = 1) ∧ n' ≤ zwt s ∧ zbal G ∧ (un = 0 ∨ un = 1) := by
  obtain ⟨top, ch, fa, bo, n, S, M, rfl, h1, h2, h3, h4, h5⟩ := h
  have h4' := h4
  obtain ⟨⟨b1, b2, b3⟩, h6, h7, h8⟩ := h4
  have hw2 : n + un ≤ 360 := hw
  have hn := zlen h3
  simp only [List.length_append] at hn
  have hs1 : un = 1 → st = 1 := by
    intro hu
    rcases h8 with ⟨-, h, -⟩ | ⟨h, -⟩
    · omega
    · exact h
  obtain ⟨pl', n', M', c1, c2, c3⟩ := c_endF (A := zpre K br ++ zlh un G N) (st := st) (fa := fa) (by rcases h8 with h | h <;> omega) (by rcases h8 with h | h <;> omega) (by simpa using h3) (fun hu => by rw [(h5 (hs1 hu)).2]; simp) hX h7 (by simp only [List.length_append]; omega)
  have c2' : zCx 360 n' M' (zpre K br ++ (zlh un G N ++ (X ++ zpd un))) := by simpa using c2
  have hn' := zlen c2'
  have hpd : ((zpd un).length : Int) = un := by
    rcases h6 with h | h <;> subst h
    · rfl
    · rfl
  simp only [List.length_append] at hn'
  refine ⟨top, ch, fa, bo, n, pl', n', S, M, M', rfl, h1, h2, by rcases h8 with h | h <;> omega, c1, c2', c3, ?_, b1, h6⟩
  show n' ≤ n + un
  omega
theorem zQ_end {K : List zLv} {br : Int} {Z : List Int} {fr : Bool} {s : zRtu} (h : zQ K br Z fr s) (hw : zwt s ≤ 360) : ∃ (top st ch fa un pl bo n pl' n' : Int) (S M M' : Nat → Int), s = (top, st, br, ch, fa, un, pl, 0, bo, n, S, M) ∧ zle0 K br top S ∧ (bo = 0 ∨ bo = 1) ∧ (st = 0 ∨ st = 1) ∧ f_X5_endFactor st fa un pl n M = some (0, pl', n', M') ∧ zCx 360 n' M' (zpre K br ++ Z) ∧ (pl' = 0 ∨ pl' = 1) ∧ n' ≤ zwt s := by
  obtain ⟨st, G, N, F, un, pl, h1, ⟨X, x1, x2, x3, x4⟩, -⟩ := h
  obtain ⟨top, ch, fa, bo, n, pl', n', S, M, M', e1, e2, e3, e4, e5, e6, e7, e8, -, -⟩ := zel_end h1 x1 x3 hw
  exact ⟨top, st, ch, fa, un, pl, bo, n, pl', n', S, M, M', e1, e2, e3, e4, e5, by rw [x4]; exact e6, e7, e8⟩
theorem zrw0 {G : List Int} (hG : zbal G) : zrw 0 G [] [] 0 0 := ⟨⟨hG, rfl, rfl⟩, Or.inl rfl, Or.inl rfl, Or.inl ⟨rfl, rfl, rfl⟩⟩
theorem zrw0p {G : List Int} {pl : Int} (hG : zbal G) (hp : pl = 0 ∨ pl = 1) : zrw 0 G [] [] 0 pl := ⟨⟨hG, rfl, rfl⟩, Or.inl rfl, hp, Or.inl ⟨rfl, rfl, rfl⟩⟩
theorem zel0_Q {K : List zLv} {br pl : Int} {G : List Int} {fr : Bool} {s : zRtu} (h : zel K br 0 G [] [] 0 pl s) : zQ K br G fr s := ⟨0, G, [], [], 0, pl, h, ⟨[], Or.inl ⟨rfl, rfl⟩, rfl, Nat.le_refl _, by simp [zlh, zpd]⟩, fun _ => rfl⟩
theorem zel1_Q {K : List zLv} {br pl : Int} {G F : List Int} {fr : Bool} {s : zRtu} (h : zel K br 1 G [] F 0 pl s) (hF : zbal F) : zQ K br (G ++ F) fr s := ⟨1, G, [], F, 0, pl, h, ⟨F, Or.inl ⟨rfl, rfl⟩, hF, Nat.le_refl _, by simp [zlh, zpd]⟩, fun _ => rfl⟩
theorem s_op {K : List zLv} {br c : Int} {Z : List Int} {fr : Bool} {s : zRtu} (h : zQ K br Z fr s) (hZ : zbal Z) (hc : c = 43 ∨ c = 45 ∨ c = 42 ∨ c = 61 ∨ c = 44 ∨ c = 46) (hw : zwt s + 3 ≤ 360) : ∃ s', zk1 c s s' ∧ zQ K br (Z ++ [c]) false s' ∧ zwt s' ≤ zwt s + 3 := by
  obtain ⟨top, st, ch, fa, un, pl, bo, n, pl', n', S, M, M', rfl, e2, e3, e4, e5, e6, e7, e8⟩ := zQ_end h (by omega)
  have hn := zlen e6
  obtain ⟨M2, a1, a2⟩ := c_add e6 (m := c) (by unfold zv; omega) (by omega)
  have hsy : (42 ≤ c ∧ c ≤ 122) ∧ zsy c = true := by
    refine ⟨by omega, ?_⟩
    rcases hc with h | h | h | h | h | h <;> subst h <;> decide
  refine ⟨_, c_tk_mark e4 hc e5 a1, zel0_Q (pl := pl') ⟨top, ch, fa, bo, n' + 1, S, M2, rfl, e2, e3, by simpa [zlh] using a2, zrw0p (zbal_app hZ (zbal_one hsy)) e7, fun z => by omega⟩, ?_⟩
  show n' + 1 + 0 ≤ _
  omega
theorem s_blank {K : List zLv} {br : Int} {Z : List Int} {fr : Bool} {s : zRtu} (h : zQ K br Z fr s) (hZ : zbal Z) (hw : zwt s ≤ 360) : ∃ s' pl', zk1 32 s s' ∧ zel K br 0 Z [] [] 0 pl' s' ∧ zwt s' ≤ zwt s := by
  obtain ⟨top, st, ch, fa, un, pl, bo, n, pl', n', S, M, M', rfl, e2, e3, e4, e5, e6, e7, e8⟩ := zQ_end h hw
  refine ⟨_, pl', c_tk_blank e4 e5, ⟨top, ch, fa, bo, n', S, M', rfl, e2, e3, by simpa [zlh] using e6, zrw0p hZ e7, fun z => by omega⟩, ?_⟩
  show n' + 0 ≤ _
  omega
/-- a factor begins -/
theorem s_elem {K : List zLv} {br : Int} {Z : List Int} {fr : Bool} {s : zRtu} (h : zQ K br Z fr s) (hZ : zbal Z) (hw : zwt s ≤ 360) : ∃ bo, zen K br Z [] [] 0 0 bo s := by
  obtain ⟨top, st, ch, fa, un, pl, bo, n, pl', n', S, M, M', rfl, e2, e3, e4, e5, e6, e7, e8⟩ := zQ_end h hw
  have hn := zlen e6
  simp only [List.length_append] at hn
  refine ⟨bo, 0, top, n', n', pl', n', S, M', ?_, e2, ⟨⟨hZ, rfl, rfl⟩, Or.inl rfl, e3, Or.inl rfl, fun _ => rfl, fun z => absurd rfl z⟩, by simpa [zlh, zct] using e6, fun _ => ⟨by omega, by simp [zlh]; omega⟩, by show n' + 0 ≤ _; omega⟩
  intro c s' hc hb
  obtain ⟨r1, r2, r3⟩ := zfc_r hc
  obtain ⟨top3, st3, br3, ch3, fa3, un3, pl3, sc3, bo3, n3, S3, M3⟩ := s'
  exact c_tk_elem e4 r1 r2 r3 e5 hb (Or.inr rfl)
/-- a script begins -/
theorem s_script {K : List zLv} {br st k c : Int} {G N F : List Int} {un pl : Int} {s : zRtu} (h : zel K br st G N F un pl s) (hk : (c = 94 ∧ k = 2) ∨ (c = 95 ∧ k = 3)) (hw : zwt s + 3 ≤ 360) : ∃ s', zk1 c s s' ∧ zen K br G N F un k st s' ∧ zwt s' ≤ zwt s + 1 := by
  obtain ⟨top, ch, fa, bo, n, S, M, rfl, h1, h2, h3, h4, h5⟩ := h
  obtain ⟨⟨b1, b2, b3⟩, h6, h7, h8⟩ := h4
  have hw2 : n + un + 3 ≤ 360 := hw
  have hn := zlen h3
  obtain ⟨M2, a1, a2⟩ := c_add h3 (m := k) (by unfold zv; omega) (by omega)
  refine ⟨_, c_tk_script (by rcases h8 with h | h <;> omega) hk a1, ⟨2, top, ch, fa, pl, n + 1, S, M2, ?_, h1, ⟨⟨b1, b2, b3⟩, h6, by rcases h8 with h | h <;> omega, by omega, fun z => by omega, ?_⟩, ?_, ?_, ?_⟩, ?_⟩
  · intro c' s' hc' hb
    obtain ⟨top3, st3, br3, ch3, fa3, un3, pl3, sc3, bo3, n3, S3, M3⟩ := s'
    exact c_tk_base rfl hb (Or.inr rfl)
  · intro _ hst
    rcases h8 with ⟨-, g1, g2⟩ | ⟨g, -⟩
    · exact ⟨g1, g2⟩
    · omega
  · have : zct k = [k] := by unfold zct; rw [if_neg (by omega)]
    rw [this]
    simpa using a2
  · intro hz
    exact h5 (by omega)
  · show n + 1 + un ≤ n + 1 + un
    omega
  · show n + 1 + un ≤ n + un + 1
    omega
/-- a fraction's line -/
theorem s_line {K : List zLv} {br pl : Int} {Z F I : List Int} {s : zRtu} (h : zel K br 1 Z [] F 0 pl s) (hI : zbal I) (hp : zuf pl F I) (hw : zwt s + 3 ≤ 360) : ∃ s' bo, zk1 47 s s' ∧ zen K br Z I [] 1 0 bo s' ∧ zwt s' ≤ zwt s + 3 := by
  obtain ⟨top, ch, fa, bo, n, S, M, rfl, h1, h2, h3, h4, h5⟩ := h
  obtain ⟨⟨b1, b2, b3⟩, h6, h7, h8⟩ := h4
  have hw2 : n + 0 + 3 ≤ 360 := hw
  have hn := zlen h3
  simp only [List.length_append] at hn
  obtain ⟨g1, g2⟩ := h5 rfl
  obtain ⟨n', M', Y, d1, d2, d3⟩ := c_divide (st := 1) (un := 0) rfl h3 g1 g2 hp (Or.inl rfl) (by omega)
  rw [if_pos rfl] at d3
  subst d3
  have hn' := zlen d2
  simp only [List.length_append, zlh_1, List.length_cons, List.length_nil] at hn'
  have hle := hp.le
  have hz0 : (zlh 0 Z ([] : List Int)).length = Z.length := rfl
  refine ⟨_, bo, c_tk_line rfl d1, ⟨2, top, ch, n', 0, n', S, M', ?_, h1, ⟨⟨b1, hI, rfl⟩, Or.inr rfl, h2, Or.inl rfl, fun _ => rfl, fun z => absurd rfl z⟩, by simpa [zct] using d2, fun _ => ⟨g1, ?_⟩, ?_⟩, ?_⟩
  · intro c' s' hc' hb
    obtain ⟨top3, st3, br3, ch3, fa3, un3, pl3, sc3, bo3, n3, S3, M3⟩ := s'
    exact c_tk_base rfl hb (Or.inr rfl)
  · simp only [zlh_1, List.length_append, List.length_cons, List.length_nil]; omega
  · show n' + 1 ≤ n' + 1
    omega
  · show n' + 1 ≤ n + 0 + 3
    omega
