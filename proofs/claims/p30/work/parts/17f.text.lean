/-! p30: the linear text of a row, as a function of its marks. A frame: the text so far, whether its last item is a fraction, what the row is (0 empty, 1 a letter, digit or root alone, 2 parentheses alone, 3 a base with scripts, 4 else) -/
abbrev ztF := List Int × Bool × Nat
def zlt (m : Int) : Bool := zle m || zdi m
def zopd (I : List Int) (c : Nat) : List Int := if c = 1 ∨ c = 3 then I else 40 :: (I ++ [41])
def zbas (I : List Int) (c : Nat) : List Int := if c = 1 then I else 40 :: (I ++ [41])
def zt1 (m : Int) (x : ztF) : ztF := (x.1 ++ [m], false, if zlt m = true ∧ x.2.2 = 0 then 1 else 4)
def zt2 (i j x : ztF) : ztF := (x.1 ++ (zopd i.1 i.2.2 ++ 47 :: zopd j.1 j.2.2), true, 4)
def zt3 (k : Int) (i x : ztF) : ztF :=
  if k = 2 ∨ k = 3 then (x.1 ++ ((if x.2.1 = true then [32] else []) ++ (if k = 2 then 94 else 95) :: zbas i.1 i.2.2), false, if x.2.2 = 1 ∨ x.2.2 = 2 ∨ x.2.2 = 3 then 3 else 4)
  else if k = 4 then (x.1 ++ 114 :: 40 :: (i.1 ++ [41]), false, if x.2.2 = 0 then 1 else 4)
  else (x.1 ++ 40 :: (i.1 ++ [41]), false, if x.2.2 = 0 then 2 else 4)
def zt0 : ztF := ([], false, 0)
def ztS (m : Int) (s : List ztF) : List ztF :=
  if 42 ≤ m then (match s with | [] => [] | x :: r => zt1 m x :: r)
  else if m ≤ 6 then zt0 :: s
  else if m = 11 then (match s with | j :: i :: x :: r => zt2 i j x :: r | _ => [])
  else (match s with | i :: x :: r => zt3 (m - 10) i x :: r | _ => [])
def ztR : List ztF → List Int → List ztF
  | s, [] => s
  | s, m :: t => ztR (ztS m s) t
theorem ztR_app : ∀ (A B : List Int) (s : List ztF), ztR s (A ++ B) = ztR (ztR s A) B
  | [], B, s => rfl
  | m :: A, B, s => by simp only [List.cons_append, ztR]; exact ztR_app A B _
def zto (T : List Int) (x : ztF) : ztF := match ztR [x] T with | y :: _ => y | [] => x
theorem ztR_sym {m : Int} {x : ztF} {s : List ztF} (hm : 42 ≤ m) (R : List Int) : ztR (x :: s) (m :: R) = ztR (zt1 m x :: s) R := by
  simp only [ztR, ztS, if_pos hm]
theorem ztS_op {m : Int} {s : List ztF} (h : 1 ≤ m ∧ m ≤ 6) : ztS m s = zt0 :: s := by
  unfold ztS; rw [if_neg (by omega), if_pos (by omega)]
theorem ztS_11 {i j x : ztF} {s : List ztF} : ztS 11 (j :: i :: x :: s) = zt2 i j x :: s := by
  unfold ztS; rw [if_neg (by omega), if_neg (by omega), if_pos rfl]
theorem ztS_k {k : Int} {i x : ztF} {s : List ztF} (h : 2 ≤ k ∧ k ≤ 5) : ztS (k + 10) (i :: x :: s) = zt3 k i x :: s := by
  unfold ztS; rw [if_neg (by omega), if_neg (by omega), if_neg (by omega), show k + 10 - 10 = k by omega]
/-- a row changes the uppermost frame alone -/
theorem ztE {T : List Int} (h : zbal T) : ∀ (x : ztF) (s : List ztF), ztR (x :: s) T = zto T x :: s := by
  refine zbal_ind2 (P := fun T => ∀ (x : ztF) (s : List ztF), ztR (x :: s) T = zto T x :: s) (fun x s => rfl) ?_ ?_ ?_ T.length T (Nat.le_refl _) h
  · intro m R hm hR ih x s
    unfold zto
    rw [ztR_sym hm.1.1, ztR_sym hm.1.1, ih, ih]
  · intro k I R hk hI hR ihI ihR x s
    unfold zto
    simp only [ztR]
    rw [ztS_op (by omega), ztR_app, ihI, ztS_op (by omega), ztR_app, ihI]
    simp only [ztR]
    rw [ztS_k hk, ztS_k hk, ihR, ihR]
  · intro I J R hI hJ hR ihI ihJ ihR x s
    unfold zto
    simp only [ztR]
    rw [ztS_op (by omega), ztR_app, ihI, ztS_op (by omega), ztR_app, ihI]
    simp only [ztR]
    rw [ztS_op (by omega), ztR_app, ihJ, ztS_op (by omega), ztR_app, ihJ]
    simp only [ztR]
    rw [ztS_11, ztS_11, ihR, ihR]
theorem zto_nil {x : ztF} : zto [] x = x := rfl
theorem zto_app {A B : List Int} (hA : zbal A) (hB : zbal B) (x : ztF) : zto (A ++ B) x = zto B (zto A x) := by
  have h1 := ztE (zbal_app hA hB) x []
  rw [ztR_app, ztE hA, ztE hB] at h1
  exact (List.cons.inj h1).1.symm
theorem zto_one {m : Int} {x : ztF} (hm : 42 ≤ m) : zto [m] x = zt1 m x := by
  unfold zto
  simp only [ztR, ztS, if_pos hm]
theorem zto_k {k : Int} {I : List Int} {x : ztF} (hk : 2 ≤ k ∧ k ≤ 5) (hI : zbal I) : zto (k :: (I ++ [k + 10])) x = zt3 k (zto I zt0) x := by
  unfold zto
  simp only [ztR]
  rw [ztS_op (by omega), ztR_app, ztE hI]
  simp only [ztR]
  rw [ztS_k hk]
  rfl
theorem zto_q {I J : List Int} {x : ztF} (hI : zbal I) (hJ : zbal J) : zto (1 :: (I ++ 6 :: (J ++ [11]))) x = zt2 (zto I zt0) (zto J zt0) x := by
  unfold zto
  simp only [ztR]
  rw [ztS_op (by omega), ztR_app, ztE hI]
  simp only [ztR]
  rw [ztS_op (by omega), ztR_app, ztE hJ]
  simp only [ztR]
  rw [ztS_11]
  rfl
/-- the text of a row behind others: what stands before is kept, and counts for a blank alone -/
def zvt (T : List Int) (fr : Bool) : List Int := (zto T ([], fr, 0)).1
def zvf (T : List Int) (fr : Bool) : Bool := (zto T ([], fr, 0)).2.1
def zcc (T : List Int) (c : Nat) : Nat := (zto T ([], false, c)).2.2
theorem zt_it {X : List Int} (hX : zit X) (W : List Int) (fr : Bool) (c : Nat) : zto X (W, fr, c) = (W ++ zvt X fr, zvf X fr, zcc X c) := by
  rcases hX with ⟨m, rfl, a, b⟩ | ⟨k, I, rfl, a, b, hI⟩ | ⟨I, J, rfl, hI, hJ⟩
  · unfold zvt zvf zcc
    rw [zto_one a.1, zto_one a.1, zto_one a.1]
    rfl
  · unfold zvt zvf zcc
    rw [zto_k ⟨a, b⟩ hI, zto_k ⟨a, b⟩ hI, zto_k ⟨a, b⟩ hI]
    unfold zt3
    split
    · rfl
    · split <;> rfl
  · unfold zvt zvf zcc
    rw [zto_q hI hJ, zto_q hI hJ, zto_q hI hJ]
    rfl
theorem zt_all {T : List Int} (hT : zbal T) (W : List Int) (fr : Bool) (c : Nat) : zto T (W, fr, c) = (W ++ zvt T fr, zvf T fr, zcc T c) := by
  refine zbal_ind (P := fun T => ∀ (W : List Int) (fr : Bool) (c : Nat), zto T (W, fr, c) = (W ++ zvt T fr, zvf T fr, zcc T c)) (fun W fr c => by unfold zvt zvf zcc; simp [zto_nil]) ?_ T.length T (Nat.le_refl _) hT W fr c
  intro X R hX hR ih W fr c
  have h1 : ∀ x, zto (X ++ R) x = zto R (zto X x) := zto_app (zit_bal hX) hR
  unfold zvt zvf zcc
  rw [h1, h1, h1, zt_it hX, zt_it hX, zt_it hX, ih, ih, ih]
  simp
theorem zvt_app {A B : List Int} (hA : zbal A) (hB : zbal B) (fr : Bool) : zvt (A ++ B) fr = zvt A fr ++ zvt B (zvf A fr) := by
  have h : zvt (A ++ B) fr = (zto (A ++ B) ([], fr, 0)).1 := rfl
  rw [h, zto_app hA hB, zt_all hA, zt_all hB]
  simp
theorem zvf_app {A B : List Int} (hA : zbal A) (hB : zbal B) (fr : Bool) : zvf (A ++ B) fr = zvf B (zvf A fr) := by
  have h : zvf (A ++ B) fr = (zto (A ++ B) ([], fr, 0)).2.1 := rfl
  rw [h, zto_app hA hB, zt_all hA, zt_all hB]
theorem zcc_app {A B : List Int} (hA : zbal A) (hB : zbal B) (c : Nat) : zcc (A ++ B) c = zcc B (zcc A c) := by
  have h : zcc (A ++ B) c = (zto (A ++ B) ([], false, c)).2.2 := rfl
  rw [h, zto_app hA hB, zt_all hA, zt_all hB]
/-- a whole row: its text, what it is -/
abbrev ztx (T : List Int) : List Int := zvt T false
abbrev zcl (T : List Int) : Nat := zcc T 0
theorem zto_0 {T : List Int} (hT : zbal T) : zto T zt0 = (ztx T, zvf T false, zcl T) := by
  have := zt_all hT [] false 0
  rw [List.nil_append] at this
  exact this
theorem zvt_nil {fr : Bool} : zvt [] fr = [] := rfl
theorem zvf_nil {fr : Bool} : zvf [] fr = fr := rfl
theorem zcc_nil {c : Nat} : zcc [] c = c := rfl
theorem zvt_one {m : Int} {fr : Bool} (hm : 42 ≤ m) : zvt [m] fr = [m] ∧ zvf [m] fr = false := by
  unfold zvt zvf; rw [zto_one hm]; exact ⟨rfl, rfl⟩
theorem zcc_one {m : Int} {c : Nat} (hm : 42 ≤ m) : zcc [m] c = if zlt m = true ∧ c = 0 then 1 else 4 := by
  unfold zcc; rw [zto_one hm]; rfl
theorem zvt_q {I J : List Int} {fr : Bool} (hI : zbal I) (hJ : zbal J) : zvt (1 :: (I ++ 6 :: (J ++ [11]))) fr = zopd (ztx I) (zcl I) ++ 47 :: zopd (ztx J) (zcl J) ∧ zvf (1 :: (I ++ 6 :: (J ++ [11]))) fr = true := by
  unfold zvt zvf; rw [zto_q hI hJ, zto_0 hI, zto_0 hJ]; exact ⟨rfl, rfl⟩
theorem zcc_q {I J : List Int} {c : Nat} (hI : zbal I) (hJ : zbal J) : zcc (1 :: (I ++ 6 :: (J ++ [11]))) c = 4 := by
  unfold zcc; rw [zto_q hI hJ]; rfl
theorem zvt_s {k : Int} {I : List Int} {fr : Bool} (hk : k = 2 ∨ k = 3) (hI : zbal I) : zvt (k :: (I ++ [k + 10])) fr = (if fr = true then [32] else []) ++ (if k = 2 then 94 else 95) :: zbas (ztx I) (zcl I) ∧ zvf (k :: (I ++ [k + 10])) fr = false := by
  unfold zvt zvf; rw [zto_k (by omega) hI, zto_0 hI]; unfold zt3; rw [if_pos hk]; exact ⟨rfl, rfl⟩
theorem zcc_s {k : Int} {I : List Int} {c : Nat} (hk : k = 2 ∨ k = 3) (hI : zbal I) : zcc (k :: (I ++ [k + 10])) c = if c = 1 ∨ c = 2 ∨ c = 3 then 3 else 4 := by
  unfold zcc; rw [zto_k (by omega) hI]; unfold zt3; rw [if_pos hk]
theorem zvt_4 {I : List Int} {fr : Bool} (hI : zbal I) : zvt (4 :: (I ++ [14])) fr = 114 :: 40 :: (ztx I ++ [41]) ∧ zvf (4 :: (I ++ [14])) fr = false := by
  unfold zvt zvf; rw [show (14 : Int) = 4 + 10 from rfl, zto_k (k := 4) (by omega) hI, zto_0 hI]; unfold zt3; rw [if_neg (by omega), if_pos rfl]; exact ⟨rfl, rfl⟩
theorem zcc_4 {I : List Int} {c : Nat} (hI : zbal I) : zcc (4 :: (I ++ [14])) c = if c = 0 then 1 else 4 := by
  unfold zcc; rw [show (14 : Int) = 4 + 10 from rfl, zto_k (k := 4) (by omega) hI]; unfold zt3; rw [if_neg (by omega), if_pos rfl]
theorem zvt_5 {I : List Int} {fr : Bool} (hI : zbal I) : zvt (5 :: (I ++ [15])) fr = 40 :: (ztx I ++ [41]) ∧ zvf (5 :: (I ++ [15])) fr = false := by
  unfold zvt zvf; rw [show (15 : Int) = 5 + 10 from rfl, zto_k (k := 5) (by omega) hI, zto_0 hI]; unfold zt3; rw [if_neg (by omega), if_neg (by omega)]; exact ⟨rfl, rfl⟩
theorem zcc_5 {I : List Int} {c : Nat} (hI : zbal I) : zcc (5 :: (I ++ [15])) c = if c = 0 then 2 else 4 := by
  unfold zcc; rw [show (15 : Int) = 5 + 10 from rfl, zto_k (k := 5) (by omega) hI]; unfold zt3; rw [if_neg (by omega), if_neg (by omega)]
/-- what a row can be -/
theorem zcc_it {X : List Int} (hX : zit X) (c : Nat) : (c = 4 → zcc X c = 4) ∧ 1 ≤ zcc X c ∧ zcc X c ≤ 4 := by
  rcases hX with ⟨m, rfl, a, b⟩ | ⟨k, I, rfl, a, b, hI⟩ | ⟨I, J, rfl, hI, hJ⟩
  · rw [zcc_one a.1]
    split
    · exact ⟨fun h => by omega, by omega, by omega⟩
    · exact ⟨fun _ => rfl, by omega, by omega⟩
  · have hk : (k = 2 ∨ k = 3) ∨ k = 4 ∨ k = 5 := by omega
    rcases hk with hk | rfl | rfl
    · rw [zcc_s hk hI]
      split
      · exact ⟨fun h => by omega, by omega, by omega⟩
      · exact ⟨fun _ => rfl, by omega, by omega⟩
    · have := zcc_4 (c := c) hI
      simp only [show (4 : Int) + 10 = 14 from rfl]
      rw [this]
      split
      · exact ⟨fun h => by omega, by omega, by omega⟩
      · exact ⟨fun _ => rfl, by omega, by omega⟩
    · have := zcc_5 (c := c) hI
      simp only [show (5 : Int) + 10 = 15 from rfl]
      rw [this]
      split
      · exact ⟨fun h => by omega, by omega, by omega⟩
      · exact ⟨fun _ => rfl, by omega, by omega⟩
  · rw [zcc_q hI hJ]
    exact ⟨fun _ => rfl, by omega, by omega⟩
theorem zcc_b {T : List Int} (hT : zbal T) (c : Nat) : (c = 4 → zcc T c = 4) ∧ (T ≠ [] → 1 ≤ zcc T c) ∧ (1 ≤ c → 1 ≤ zcc T c) := by
  refine zbal_ind (P := fun T => ∀ c : Nat, (c = 4 → zcc T c = 4) ∧ (T ≠ [] → 1 ≤ zcc T c) ∧ (1 ≤ c → 1 ≤ zcc T c)) (fun c => ⟨fun h => h, fun h => absurd rfl h, fun h => h⟩) ?_ T.length T (Nat.le_refl _) hT c
  intro X R hX hR ih c
  rw [zcc_app (zit_bal hX) hR]
  obtain ⟨h1, h2, h3⟩ := zcc_it hX c
  obtain ⟨i1, i2, i3⟩ := ih (zcc X c)
  exact ⟨fun h => i1 (h1 h), fun _ => i3 h2, fun _ => i3 h2⟩
