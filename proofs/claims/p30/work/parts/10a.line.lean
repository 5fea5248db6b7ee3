/-! lines of marks: the pushdown run, decompositions, items -/
def zle (x : Int) : Bool := decide ((97 ≤ x ∧ x ≤ 122) ∧ x ≠ 114)
def zdi (x : Int) : Bool := decide (48 ≤ x ∧ x ≤ 57)
def zmk (x : Int) : Bool := decide (x = 43 ∨ x = 45 ∨ x = 42 ∨ x = 61 ∨ x = 44 ∨ x = 46)
def zsy (x : Int) : Bool := zle x || zdi x || zmk x
theorem zsy_b {x : Int} (h : zsy x = true) : 42 ≤ x ∧ x ≤ 122 := by
  simp only [zsy, zle, zdi, zmk, Bool.or_eq_true, decide_eq_true_eq] at h; omega
theorem zsy_c {x : Int} (h : zsy x = true) : (42 ≤ x ∧ x ≤ 122) ∧ zsy x = true := ⟨zsy_b h, h⟩
def zop (m : Int) : Int := if 42 ≤ m then 0 else if 1 ≤ m ∧ m ≤ 5 then 1 else if 10 < m then -1 else 0
def zst (m : Int) (s : List Int) : Option (List Int) :=
  if (42 ≤ m ∧ m ≤ 122) ∧ zsy m = true then some s
  else if 1 ≤ m ∧ m ≤ 5 then some (m :: s)
  else match s with
    | [] => none
    | k :: r => if m = 6 ∧ k = 1 then some (6 :: r) else if (m = 11 ∧ k = 6) ∨ (12 ≤ m ∧ m ≤ 15 ∧ k = m - 10) then some r else none
def zrun : List Int → List Int → Option (List Int)
  | s, [] => some s
  | s, m :: t => (zst m s).bind (fun s' => zrun s' t)
abbrev zbal (S : List Int) : Prop := zrun [] S = some []
theorem zst_sym {m : Int} {s : List Int} (h : (42 ≤ m ∧ m ≤ 122) ∧ zsy m = true) : zst m s = some s := by
  unfold zst; rw [if_pos h]
theorem zst_opn {m : Int} {s : List Int} (h : 1 ≤ m ∧ m ≤ 5) : zst m s = some (m :: s) := by
  unfold zst; rw [if_neg (by omega), if_pos h]
theorem zst_mid {s : List Int} : zst 6 (1 :: s) = some (6 :: s) := by
  simp [zst]
theorem zst_cls {m k : Int} {s : List Int} (h : (m = 11 ∧ k = 6) ∨ (12 ≤ m ∧ m ≤ 15 ∧ k = m - 10)) : zst m (k :: s) = some s := by
  unfold zst
  rw [if_neg (by omega), if_neg (by omega)]
  show (if m = 6 ∧ k = 1 then _ else _) = _
  rw [if_neg (by omega), if_pos h]
theorem zst_cases {m : Int} {s s' : List Int} (h : zst m s = some s') : ((42 ≤ m ∧ m ≤ 122) ∧ zsy m = true ∧ s' = s) ∨ (1 ≤ m ∧ m ≤ 5 ∧ s' = m :: s) ∨ (m = 6 ∧ ∃ r, s = 1 :: r ∧ s' = 6 :: r) ∨ (∃ k, s = k :: s' ∧ ((m = 11 ∧ k = 6) ∨ (12 ≤ m ∧ m ≤ 15 ∧ k = m - 10))) := by
  unfold zst at h
  split at h
  · rename_i h1
    exact Or.inl ⟨h1.1, h1.2, (Option.some.inj h).symm⟩
  · split at h
    · rename_i h1 h2
      exact Or.inr (Or.inl ⟨h2.1, h2.2, (Option.some.inj h).symm⟩)
    · cases s with
      | nil => exact absurd h (by simp)
      | cons k r =>
        simp only at h
        split at h
        · rename_i h3
          obtain ⟨h3a, h3b⟩ := h3
          subst h3b
          exact Or.inr (Or.inr (Or.inl ⟨h3a, r, rfl, (Option.some.inj h).symm⟩))
        · split at h
          · rename_i h4
            exact Or.inr (Or.inr (Or.inr ⟨k, by rw [Option.some.inj h], h4⟩))
          · cases h
theorem zst_frame {m : Int} {s s' t : List Int} (h : zst m s = some s') : zst m (s ++ t) = some (s' ++ t) := by
  rcases zst_cases h with ⟨h1, h2, rfl⟩ | ⟨h1, h2, rfl⟩ | ⟨rfl, r, rfl, rfl⟩ | ⟨k, rfl, h2⟩
  · exact zst_sym ⟨h1, h2⟩
  · exact zst_opn ⟨h1, h2⟩
  · exact zst_mid
  · exact zst_cls h2
theorem zst_len {m : Int} {s s' : List Int} (h : zst m s = some s') : (s'.length : Int) = s.length + zop m := by
  rcases zst_cases h with ⟨h1, h2, rfl⟩ | ⟨h1, h2, rfl⟩ | ⟨rfl, r, rfl, rfl⟩ | ⟨k, rfl, h2⟩
  · simp only [zop]; rw [if_pos h1.1]; omega
  · simp only [zop, List.length_cons]; rw [if_neg (by omega), if_pos ⟨h1, h2⟩]; omega
  · simp [zop]
  · simp only [zop, List.length_cons]; rw [if_neg (by omega), if_neg (by omega), if_pos (by omega)]; omega
theorem zrun_cons {m : Int} {s s' t : List Int} (h : zst m s = some s') : zrun s (m :: t) = zrun s' t := by
  simp only [zrun, h, Option.bind_some]
theorem zrun_cons_inv {m : Int} {s r t : List Int} (h : zrun s (m :: t) = some r) : ∃ s', zst m s = some s' ∧ zrun s' t = some r := by
  simp only [zrun] at h
  cases hs : zst m s with
  | none => rw [hs] at h; cases h
  | some s' => rw [hs] at h; exact ⟨s', rfl, h⟩
theorem zrun_app : ∀ (A B s : List Int), zrun s (A ++ B) = (zrun s A).bind (fun s' => zrun s' B)
  | [], B, s => rfl
  | m :: A, B, s => by
    simp only [List.cons_append, zrun]
    cases zst m s with
    | none => rfl
    | some s' => simp only [Option.bind_some]; exact zrun_app A B s'
theorem zrun_app_s {A B s s' : List Int} (h : zrun s A = some s') : zrun s (A ++ B) = zrun s' B := by
  rw [zrun_app, h]; rfl
theorem zrun_app_inv {A B s r : List Int} (h : zrun s (A ++ B) = some r) : ∃ s', zrun s A = some s' ∧ zrun s' B = some r := by
  rw [zrun_app] at h
  cases hs : zrun s A with
  | none => rw [hs] at h; cases h
  | some s' => rw [hs] at h; exact ⟨s', rfl, h⟩
theorem zrun_frame : ∀ {A s s' : List Int} (t : List Int), zrun s A = some s' → zrun (s ++ t) A = some (s' ++ t)
  | [], s, s', t, h => by simp only [zrun] at h ⊢; rw [Option.some.inj h]
  | m :: A, s, s', t, h => by
    obtain ⟨s1, h1, h2⟩ := zrun_cons_inv h
    rw [zrun_cons (zst_frame h1)]
    exact zrun_frame t h2
theorem zbal_over {S : List Int} (t : List Int) (h : zbal S) : zrun t S = some t := zrun_frame (s := []) (s' := []) t h
theorem zbal_app {S T : List Int} (h : zbal S) (h2 : zbal T) : zbal (S ++ T) := by rw [zbal, zrun_app_s h]; exact h2
theorem zrun_snoc {A s s' s2 : List Int} {m : Int} (h : zrun s A = some s') (h2 : zst m s' = some s2) : zrun s (A ++ [m]) = some s2 := by
  rw [zrun_app_s h, zrun_cons h2]; rfl
theorem zrun_snoc_inv {A s s2 : List Int} {m : Int} (h : zrun s (A ++ [m]) = some s2) : ∃ s', zrun s A = some s' ∧ zst m s' = some s2 := by
  obtain ⟨s', h1, h2⟩ := zrun_app_inv h
  obtain ⟨s3, h3, h4⟩ := zrun_cons_inv h2
  simp only [zrun] at h4
  rw [Option.some.inj h4] at h3
  exact ⟨s', h1, h3⟩
/-- back from a place inside a structure: the mark that begins its row -/
theorem zdecB : ∀ (n : Nat) (A : List Int), A.length ≤ n → ∀ (k : Int) (s : List Int), zrun [] A = some (k :: s) → ∃ (A1 : List Int) (o : Int) (A2 s1 : List Int), A = A1 ++ o :: A2 ∧ zrun [] A1 = some s1 ∧ ((o = k ∧ 1 ≤ k ∧ k ≤ 5 ∧ s1 = s) ∨ (o = 6 ∧ k = 6 ∧ s1 = 1 :: s)) ∧ zbal A2
  | 0, A, hA, k, s, h => by
    have : A = [] := List.length_eq_zero_iff.mp (by omega)
    subst this
    simp [zrun] at h
  | n + 1, A, hA, k, s, h => by
    rcases List.eq_nil_or_concat A with rfl | ⟨A', m, rfl⟩
    · simp [zrun] at h
    · rw [List.concat_eq_append] at hA h ⊢
      rw [List.length_append] at hA
      have hA' : A'.length ≤ n := by simp at hA; omega
      obtain ⟨s0, h1, h2⟩ := zrun_snoc_inv h
      rcases zst_cases h2 with ⟨a, b, e⟩ | ⟨a, b, e⟩ | ⟨rfl, r, e1, e2⟩ | ⟨k2, rfl, h3⟩
      · subst e
        obtain ⟨A1, o, A2, s1, rfl, b1, b2, b3⟩ := zdecB n A' hA' k s h1
        refine ⟨A1, o, A2 ++ [m], s1, by simp, b1, b2, zrun_snoc b3 (zst_sym ⟨a, b⟩)⟩
      · simp only [List.cons.injEq] at e
        obtain ⟨rfl, rfl⟩ := e
        exact ⟨A', k, [], s, rfl, h1, Or.inl ⟨rfl, a, b, rfl⟩, rfl⟩
      · subst e1
        simp only [List.cons.injEq] at e2
        obtain ⟨rfl, rfl⟩ := e2
        exact ⟨A', 6, [], 1 :: s, rfl, h1, Or.inr ⟨rfl, rfl, rfl⟩, rfl⟩
      · obtain ⟨A1, o, A2, s1, rfl, b1, b2, b3⟩ := zdecB n A' hA' k2 (k :: s) h1
        have hl : A1.length ≤ n := by simp at hA'; omega
        rcases b2 with ⟨rfl, b4, b5, rfl⟩ | ⟨rfl, rfl, rfl⟩
        · obtain ⟨B1, o2, B2, s2, rfl, c1, c2, c3⟩ := zdecB n A1 hl k s b1
          refine ⟨B1, o2, B2 ++ o :: (A2 ++ [m]), s2, by simp, c1, c2, ?_⟩
          rw [zbal, zrun_app_s c3, zrun_cons (zst_opn ⟨b4, b5⟩)]
          exact zrun_snoc (zbal_over [o] b3) (zst_cls h3)
        · obtain ⟨C1, o2, C2, s2, rfl, c1, c2, c3⟩ := zdecB n A1 hl 1 (k :: s) b1
          have hl2 : C1.length ≤ n := by simp at hl; omega
          rcases c2 with ⟨rfl, -, -, rfl⟩ | ⟨-, d, -⟩
          · obtain ⟨B1, o3, B2, s3, rfl, d1, d2, d3⟩ := zdecB n C1 hl2 k s c1
            refine ⟨B1, o3, B2 ++ 1 :: (C2 ++ 6 :: (A2 ++ [m])), s3, by simp, d1, d2, ?_⟩
            rw [zbal, zrun_app_s d3, zrun_cons (zst_opn ⟨by decide, by decide⟩), zrun_app_s (zbal_over [1] c3), zrun_cons zst_mid]
            exact zrun_snoc (zbal_over [6] b3) (zst_cls h3)
          · exact absurd d (by decide)
/-- forward from a place inside a structure: the mark that ends its row -/
theorem zdecF : ∀ (n : Nat) (B : List Int), B.length ≤ n → ∀ (k : Int) (s r : List Int), zrun (k :: s) B = some r → r.length ≤ s.length → ∃ (B1 : List Int) (c : Int) (B2 : List Int), B = B1 ++ c :: B2 ∧ zbal B1 ∧ ((c = 6 ∧ k = 1 ∧ zrun (6 :: s) B2 = some r) ∨ (((c = 11 ∧ k = 6) ∨ (12 ≤ c ∧ c ≤ 15 ∧ k = c - 10)) ∧ zrun s B2 = some r))
  | 0, B, hB, k, s, r, h, hr => by
    have : B = [] := List.length_eq_zero_iff.mp (by omega)
    subst this
    simp only [zrun] at h
    rw [← Option.some.inj h] at hr
    simp only [List.length_cons] at hr
    omega
  | n + 1, [], hB, k, s, r, h, hr => by
    simp only [zrun] at h
    rw [← Option.some.inj h] at hr
    simp only [List.length_cons] at hr
    omega
  | n + 1, m :: t, hB, k, s, r, h, hr => by
    have ht : t.length ≤ n := by simp at hB; omega
    obtain ⟨s1, h1, h2⟩ := zrun_cons_inv h
    rcases zst_cases h1 with ⟨a, b, rfl⟩ | ⟨a, b, rfl⟩ | ⟨rfl, r2, e1, rfl⟩ | ⟨k2, e, h3⟩
    · obtain ⟨B1, c, B2, rfl, b1, b2⟩ := zdecF n t ht k s r h2 hr
      refine ⟨m :: B1, c, B2, rfl, ?_, b2⟩
      rw [zbal, zrun_cons (zst_sym ⟨a, b⟩)]; exact b1
    · obtain ⟨B1, c, B2, rfl, b1, b2⟩ := zdecF n t ht m (k :: s) r h2 (by simp only [List.length_cons]; omega)
      have hl : B2.length ≤ n := by simp at ht; omega
      rcases b2 with ⟨rfl, rfl, b3⟩ | ⟨b2, b3⟩
      · obtain ⟨C1, c2, C2, rfl, c3, c4⟩ := zdecF n B2 hl 6 (k :: s) r b3 (by simp only [List.length_cons]; omega)
        have hl2 : C2.length ≤ n := by simp at hl; omega
        rcases c4 with ⟨-, d, -⟩ | ⟨d, d2⟩
        · exact absurd d (by decide)
        · obtain ⟨D1, c5, D2, rfl, d3, d4⟩ := zdecF n C2 hl2 k s r d2 hr
          refine ⟨1 :: (B1 ++ 6 :: (C1 ++ c2 :: D1)), c5, D2, by simp, ?_, d4⟩
          rw [zbal, zrun_cons (zst_opn ⟨by decide, by decide⟩), zrun_app_s (zbal_over [1] b1), zrun_cons zst_mid, zrun_app_s (zbal_over [6] c3), zrun_cons (zst_cls d)]
          exact d3
      · obtain ⟨D1, c5, D2, rfl, d3, d4⟩ := zdecF n B2 hl k s r b3 hr
        refine ⟨m :: (B1 ++ c :: D1), c5, D2, by simp, ?_, d4⟩
        rw [zbal, zrun_cons (zst_opn ⟨a, b⟩), zrun_app_s (zbal_over [m] b1), zrun_cons (zst_cls b2)]
        exact d3
    · simp only [List.cons.injEq] at e1
      obtain ⟨rfl, rfl⟩ := e1
      exact ⟨[], 6, t, rfl, rfl, Or.inl ⟨rfl, rfl, h2⟩⟩
    · simp only [List.cons.injEq] at e
      obtain ⟨rfl, rfl⟩ := e
      exact ⟨[], m, t, rfl, rfl, Or.inr ⟨h3, h2⟩⟩
/-- an item -/
def zit (X : List Int) : Prop := (∃ m : Int, X = [m] ∧ (42 ≤ m ∧ m ≤ 122) ∧ zsy m = true) ∨ (∃ (k : Int) (I : List Int), X = k :: (I ++ [k + 10]) ∧ 2 ≤ k ∧ k ≤ 5 ∧ zbal I) ∨ (∃ I J : List Int, X = 1 :: (I ++ 6 :: (J ++ [11])) ∧ zbal I ∧ zbal J)
theorem zit_bal {X : List Int} (h : zit X) : zbal X := by
  rcases h with ⟨m, rfl, a, b⟩ | ⟨k, I, rfl, a, b, c⟩ | ⟨I, J, rfl, a, b⟩
  · rw [zbal, zrun_cons (zst_sym ⟨a, b⟩)]; rfl
  · rw [zbal, zrun_cons (zst_opn ⟨by omega, b⟩)]
    exact zrun_snoc (zbal_over [k] c) (zst_cls (Or.inr ⟨by omega, by omega, by omega⟩))
  · rw [zbal, zrun_cons (zst_opn ⟨by decide, by decide⟩), zrun_app_s (zbal_over [1] a), zrun_cons zst_mid]
    exact zrun_snoc (zbal_over [6] b) (zst_cls (Or.inl ⟨rfl, rfl⟩))
theorem zit_ne {X : List Int} (h : zit X) : 0 < X.length := by
  rcases h with ⟨m, rfl, a, b⟩ | ⟨k, I, rfl, a, b, c⟩ | ⟨I, J, rfl, a, b⟩ <;> simp
theorem zitF {S : List Int} (h : zbal S) (hn : S ≠ []) : ∃ X R, S = X ++ R ∧ zit X ∧ zbal R := by
  cases S with
  | nil => exact absurd rfl hn
  | cons m t =>
    obtain ⟨s1, h1, h2⟩ := zrun_cons_inv h
    rcases zst_cases h1 with ⟨a, b, rfl⟩ | ⟨a, b, rfl⟩ | ⟨rfl, r2, e1, rfl⟩ | ⟨k2, e, h3⟩
    · exact ⟨[m], t, rfl, Or.inl ⟨m, rfl, a, b⟩, h2⟩
    · obtain ⟨B1, c, B2, rfl, b1, b2⟩ := zdecF t.length t (Nat.le_refl _) m [] [] h2 (Nat.le_refl _)
      rcases b2 with ⟨rfl, rfl, b3⟩ | ⟨b2, b3⟩
      · obtain ⟨C1, c2, C2, rfl, c3, c4⟩ := zdecF B2.length B2 (Nat.le_refl _) 6 [] [] b3 (Nat.le_refl _)
        rcases c4 with ⟨-, d, -⟩ | ⟨d, d2⟩
        · exact absurd d (by decide)
        · obtain rfl : c2 = 11 := by omega
          exact ⟨1 :: (B1 ++ 6 :: (C1 ++ [11])), C2, by simp, Or.inr (Or.inr ⟨B1, C1, rfl, b1, c3⟩), d2⟩
      · obtain rfl : c = m + 10 := by omega
        exact ⟨m :: (B1 ++ [m + 10]), B2, by simp, Or.inr (Or.inl ⟨m, B1, rfl, by omega, b, b1⟩), b3⟩
    · cases e1
    · cases e
theorem zitB {S : List Int} (h : zbal S) (hn : S ≠ []) : ∃ X R, S = R ++ X ∧ zit X ∧ zbal R := by
  rcases List.eq_nil_or_concat S with rfl | ⟨t, m, rfl⟩
  · exact absurd rfl hn
  · rw [List.concat_eq_append] at h ⊢
    obtain ⟨s0, h1, h2⟩ := zrun_snoc_inv h
    rcases zst_cases h2 with ⟨a, b, e⟩ | ⟨a, b, e⟩ | ⟨rfl, r, e1, e2⟩ | ⟨k2, rfl, h3⟩
    · subst e
      exact ⟨[m], t, rfl, Or.inl ⟨m, rfl, a, b⟩, h1⟩
    · cases e
    · cases e2
    · obtain ⟨A1, o, A2, s1, rfl, b1, b2, b3⟩ := zdecB t.length t (Nat.le_refl _) k2 [] h1
      rcases b2 with ⟨rfl, b4, b5, rfl⟩ | ⟨rfl, rfl, rfl⟩
      · obtain rfl : m = o + 10 := by omega
        exact ⟨o :: (A2 ++ [o + 10]), A1, by simp, Or.inr (Or.inl ⟨o, A2, rfl, by omega, b5, b3⟩), b1⟩
      · obtain ⟨C1, o2, C2, s2, rfl, c1, c2, c3⟩ := zdecB A1.length A1 (Nat.le_refl _) 1 [] b1
        rcases c2 with ⟨rfl, -, -, rfl⟩ | ⟨-, d, -⟩
        · obtain rfl : m = 11 := by omega
          exact ⟨1 :: (C2 ++ 6 :: (A2 ++ [11])), C1, by simp, Or.inr (Or.inr ⟨C2, A2, rfl, c3, b3⟩), c1⟩
        · exact absurd d (by decide)
theorem zbal_ind {P : List Int → Prop} (h0 : P []) (h1 : ∀ X R : List Int, zit X → zbal R → P R → P (X ++ R)) : ∀ (n : Nat) (S : List Int), S.length ≤ n → zbal S → P S
  | 0, S, hS, _ => by
    have : S = [] := List.length_eq_zero_iff.mp (by omega)
    subst this
    exact h0
  | n + 1, S, hS, h => by
    by_cases hn : S = []
    · subst hn; exact h0
    · obtain ⟨X, R, rfl, hX, hR⟩ := zitF h hn
      have := zit_ne hX
      rw [List.length_append] at hS
      exact h1 X R hX hR (zbal_ind h0 h1 n R (by omega) hR)
/-- valid marks -/
def zv (m : Int) : Prop := (1 ≤ m ∧ m ≤ 6) ∨ (11 ≤ m ∧ m ≤ 15) ∨ (42 ≤ m ∧ m ≤ 122)
theorem zst_v {m : Int} {s s' : List Int} (h : zst m s = some s') : zv m := by
  rcases zst_cases h with ⟨h1, h2, rfl⟩ | ⟨h1, h2, rfl⟩ | ⟨rfl, r, rfl, rfl⟩ | ⟨k, rfl, h2⟩ <;> unfold zv <;> omega
theorem zrun_v : ∀ {A s s' : List Int}, zrun s A = some s' → ∀ m ∈ A, zv m
  | [], _, _, _, m, hm => absurd hm List.not_mem_nil
  | a :: A, s, s', h, m, hm => by
    obtain ⟨s1, h1, h2⟩ := zrun_cons_inv h
    rcases List.mem_cons.mp hm with rfl | hm
    · exact zst_v h1
    · exact zrun_v h2 m hm
/-! depth runs -/
def zdr : Int → List Int → Option Int
  | d, [] => some d
  | d, m :: t => if d + zop m < 0 then none else zdr (d + zop m) t
theorem zrun_dr : ∀ {A s s' : List Int}, zrun s A = some s' → zdr s.length A = some (s'.length : Int)
  | [], s, s', h => by simp only [zrun] at h; rw [Option.some.inj h]; rfl
  | m :: A, s, s', h => by
    obtain ⟨s1, h1, h2⟩ := zrun_cons_inv h
    have e := zst_len h1
    simp only [zdr]
    rw [← e, if_neg (by omega)]
    exact zrun_dr h2
theorem zdr_app : ∀ (A B : List Int) (d : Int), zdr d (A ++ B) = (zdr d A).bind (fun d' => zdr d' B)
  | [], B, d => rfl
  | m :: A, B, d => by
    simp only [List.cons_append, zdr]
    split
    · rfl
    · exact zdr_app A B _
theorem zdr_up : ∀ {A : List Int} {d d' : Int} (k : Int), 0 ≤ k → zdr d A = some d' → zdr (d + k) A = some (d' + k)
  | [], d, d', k, _, h => by simp only [zdr] at h ⊢; rw [Option.some.inj h]
  | m :: A, d, d', k, hk, h => by
    simp only [zdr] at h ⊢
    split at h
    · cases h
    · rw [if_neg (by omega), show d + k + zop m = d + zop m + k by omega]
      exact zdr_up k hk h
theorem zbal_dr {S : List Int} (h : zbal S) {d : Int} (hd : 0 ≤ d) : zdr d S = some d := by
  have := zdr_up d hd (zrun_dr h)
  simpa using this
