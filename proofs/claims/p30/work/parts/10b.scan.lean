/-! scans over lines, and what they come to on balanced stretches -/
def zre : Int → List Int → Nat
  | _, [] => 0
  | d, m :: t => if d = 0 ∧ (m = 6 ∨ 11 ≤ m ∧ m ≤ 15) then 0 else zre (d + zop m) t + 1
def zrs : Int → List Int → Nat
  | _, [] => 0
  | d, m :: t => if d = 0 ∧ (m = 6 ∨ 1 ≤ m ∧ m ≤ 5) then 0 else zrs (d - zop m) t + 1
def zie : Int → List Int → Nat
  | _, [] => 0
  | d, m :: t => if d + zop m ≤ 0 then 1 else zie (d + zop m) t + 1
def zis : Int → List Int → Nat
  | _, [] => 0
  | d, m :: t => if d - zop m ≤ 0 then 1 else zis (d - zop m) t + 1
def zss : Int → List Int → Nat
  | _, [] => 0
  | d, m :: t => if d = 1 ∧ m = 6 then 1 else zss (d + zop m) t + 1
def zsi (m : Int) : Bool := decide ((1 ≤ m ∧ m ≤ 5) ∨ 42 ≤ m)
def zcnt : List Int → Nat
  | [] => 0
  | m :: t => (if zsi m then 1 else 0) + zcnt t
def zni : Int → List Int → Nat
  | _, [] => 0
  | d, m :: t => (if d = 0 ∧ zsi m = true then 1 else 0) + zni (d + zop m) t
def zlv : List Int → Int
  | [] => 0
  | m :: t => zop m + zlv t
def zmx : Int → Int → List Int → Int
  | _, b, [] => b
  | d, b, m :: t => zmx (d + zop m) (mxI b (d + zop m)) t
theorem zop_op {m : Int} (h : 1 ≤ m ∧ m ≤ 5) : zop m = 1 := by unfold zop; rw [if_neg (by omega), if_pos h]
theorem zop_sy {m : Int} (h : 42 ≤ m) : zop m = 0 := by unfold zop; rw [if_pos h]
theorem zop_cl {m : Int} (h : 11 ≤ m ∧ m ≤ 15) : zop m = -1 := by unfold zop; rw [if_neg (by omega), if_neg (by omega), if_pos (by omega)]
theorem zop_6 : zop 6 = 0 := by decide
theorem zop_b (m : Int) : -1 ≤ zop m ∧ zop m ≤ 1 := by unfold zop; split; omega; split; omega; split <;> omega
/-! row ends -/
theorem zre_run : ∀ {S s s' : List Int} {d : Int} (t : List Int), 0 ≤ d → zrun s S = some s' → zre (d + s.length) (S ++ t) = S.length + zre (d + s'.length) t
  | [], s, s', d, t, hd, h => by simp only [zrun] at h; rw [Option.some.inj h]; simp
  | m :: S, s, s', d, t, hd, h => by
    obtain ⟨s1, h1, h2⟩ := zrun_cons_inv h
    have e := zst_len h1
    have ih := zre_run t hd h2
    simp only [List.cons_append, zre, List.length_cons]
    rw [if_neg, show d + (s.length : Int) + zop m = d + s1.length by omega, ih]
    · omega
    · rintro ⟨e1, e2⟩
      have hs : s = [] := List.length_eq_zero_iff.mp (by omega)
      subst hs
      rcases zst_cases h1 with ⟨a, b, rfl⟩ | ⟨a, b, rfl⟩ | ⟨rfl, r, c, rfl⟩ | ⟨k, c, h3⟩
      · omega
      · omega
      · cases c
      · cases c
theorem zre_bal {S : List Int} (t : List Int) (h : zbal S) : zre 0 (S ++ t) = S.length + zre 0 t := by
  have := zre_run t (Int.le_refl 0) h
  simpa using this
theorem zre_stop {c : Int} {t : List Int} (h : c = 6 ∨ 11 ≤ c ∧ c ≤ 15) : zre 0 (c :: t) = 0 := by
  exact if_pos ⟨rfl, h⟩
/-! row starts, over the reversed stretch -/
theorem zrs_run : ∀ {S s s' : List Int} {d : Int} (t : List Int), 0 ≤ d → zrun s S = some s' → zrs (d + s'.length) (S.reverse ++ t) = S.length + zrs (d + s.length) t
  | [], s, s', d, t, hd, h => by simp only [zrun] at h; rw [Option.some.inj h]; simp
  | m :: S, s, s', d, t, hd, h => by
    obtain ⟨s1, h1, h2⟩ := zrun_cons_inv h
    have e := zst_len h1
    have ih := zrs_run (m :: t) hd h2
    rw [List.reverse_cons, List.append_assoc, List.singleton_append, ih]
    simp only [zrs, List.length_cons]
    rw [if_neg, show d + (s1.length : Int) - zop m = d + s.length by omega]
    · omega
    · rintro ⟨e1, e2⟩
      have hs : s1 = [] := List.length_eq_zero_iff.mp (by omega)
      subst hs
      rcases zst_cases h1 with ⟨a, b, c⟩ | ⟨a, b, c⟩ | ⟨rfl, r, rfl, c⟩ | ⟨k, rfl, h3⟩
      · omega
      · cases c
      · cases c
      · omega
theorem zrs_bal {S : List Int} (t : List Int) (h : zbal S) : zrs 0 (S.reverse ++ t) = S.length + zrs 0 t := by
  have := zrs_run t (Int.le_refl 0) h
  simpa using this
theorem zrs_stop {c : Int} {t : List Int} (h : c = 6 ∨ 1 ≤ c ∧ c ≤ 5) : zrs 0 (c :: t) = 0 := by
  exact if_pos ⟨rfl, h⟩
/-! items -/
theorem zie_dr : ∀ {A : List Int} {d d' : Int} (t : List Int), 0 ≤ d → zdr d A = some d' → zie (d + 1) (A ++ t) = A.length + zie (d' + 1) t
  | [], d, d', t, hd, h => by simp only [zdr] at h; rw [Option.some.inj h]; simp
  | m :: A, d, d', t, hd, h => by
    simp only [zdr] at h
    split at h
    · cases h
    · have ih := zie_dr t (by omega) h
      simp only [List.cons_append, zie, List.length_cons]
      rw [if_neg (by omega), show d + 1 + zop m = d + zop m + 1 by omega, ih]
      omega
theorem zis_dr : ∀ {A : List Int} {d d' : Int} (t : List Int), 0 ≤ d → zdr d A = some d' → zis (d' + 1) (A.reverse ++ t) = A.length + zis (d + 1) t
  | [], d, d', t, hd, h => by simp only [zdr] at h; rw [Option.some.inj h]; simp
  | m :: A, d, d', t, hd, h => by
    simp only [zdr] at h
    split at h
    · cases h
    · have ih := zis_dr (m :: t) (by omega) h
      rw [List.reverse_cons, List.append_assoc, List.singleton_append, ih]
      simp only [zis, List.length_cons]
      rw [if_neg (by omega), show d + zop m + 1 - zop m = d + 1 by omega]
      omega
theorem zni_dr : ∀ {A : List Int} {d d' : Int} (t : List Int), 0 ≤ d → zdr d A = some d' → zni (d + 1) (A ++ t) = zni (d' + 1) t
  | [], d, d', t, hd, h => by simp only [zdr] at h; rw [Option.some.inj h]; simp
  | m :: A, d, d', t, hd, h => by
    simp only [zdr] at h
    split at h
    · cases h
    · have ih := zni_dr t (by omega) h
      simp only [List.cons_append, zni]
      rw [if_neg (by omega), show d + 1 + zop m = d + zop m + 1 by omega, ih]
      omega
/-- what an item looks like to a scan that counts depth -/
theorem zit_form {X : List Int} (h : zit X) : (∃ m : Int, X = [m] ∧ 42 ≤ m ∧ m ≤ 122) ∨ ∃ (o c : Int) (Y : List Int), X = o :: (Y ++ [c]) ∧ 1 ≤ o ∧ o ≤ 5 ∧ c = o + 10 ∧ zdr 0 Y = some 0 := by
  rcases h with h | ⟨k, I, rfl, a, b, c⟩ | ⟨I, J, rfl, a, b⟩
  · exact Or.inl (h.imp fun m z => ⟨z.1, z.2.1⟩)
  · exact Or.inr ⟨k, k + 10, I, rfl, by omega, b, rfl, zbal_dr c (Int.le_refl 0)⟩
  · refine Or.inr ⟨1, 11, I ++ 6 :: J, by simp, by omega, by omega, by omega, ?_⟩
    rw [zdr_app, zbal_dr a (Int.le_refl 0), Option.bind_some]
    simp only [zdr, zop_6]
    rw [if_neg (by omega)]
    exact zbal_dr b (Int.le_refl 0)
theorem zie_it {X : List Int} (t : List Int) (h : zit X) : zie 0 (X ++ t) = X.length := by
  rcases zit_form h with ⟨m, rfl, a, b⟩ | ⟨o, c, Y, rfl, a, b, rfl, hY⟩
  · simp [zie, zop_sy a]
  · have e := zie_dr ((o + 10) :: t) (Int.le_refl 0) hY
    simp only [List.cons_append, List.append_assoc, List.nil_append, zie, zop_op ⟨a, b⟩, List.length_cons, List.length_append, List.length_nil]
    rw [if_neg (by omega), e]
    simp only [zie, zop_cl (m := o + 10) (by omega)]
    rw [if_pos (by omega)]
theorem zis_it {X : List Int} (t : List Int) (h : zit X) : zis 0 (X.reverse ++ t) = X.length := by
  rcases zit_form h with ⟨m, rfl, a, b⟩ | ⟨o, c, Y, rfl, a, b, rfl, hY⟩
  · simp [zis, zop_sy a]
  · have e := zis_dr (o :: t) (Int.le_refl 0) hY
    simp only [List.reverse_cons, List.reverse_append, List.reverse_nil, List.nil_append, List.cons_append, List.append_assoc, zis, zop_cl (m := o + 10) (by omega), List.length_cons, List.length_append, List.length_nil]
    rw [if_neg (by omega), show (0 : Int) - -1 = 0 + 1 by omega, e]
    simp only [zis, zop_op ⟨a, b⟩]
    rw [if_pos (by omega)]
theorem zni_it {X : List Int} (t : List Int) (h : zit X) : zni 0 (X ++ t) = 1 + zni 0 t := by
  rcases zit_form h with ⟨m, rfl, a, b⟩ | ⟨o, c, Y, rfl, a, b, rfl, hY⟩
  · simp [zni, zop_sy a, zsi, a]
  · have e := zni_dr ((o + 10) :: t) (Int.le_refl 0) hY
    simp only [List.cons_append, List.append_assoc, List.nil_append, zni, zop_op ⟨a, b⟩]
    rw [e]
    simp only [zni, zop_cl (m := o + 10) (by omega)]
    rw [if_pos ⟨trivial, by simp [zsi]; omega⟩, if_neg (by omega)]
    simp
theorem zni_app {S : List Int} (t : List Int) (h : zbal S) : zni 0 (S ++ t) = zni 0 S + zni 0 t := by
  refine zbal_ind (P := fun S => zni 0 (S ++ t) = zni 0 S + zni 0 t) (by simp [zni]) (fun X R hX hR ih => ?_) S.length S (Nat.le_refl _) h
  rw [List.append_assoc, zni_it _ hX, ih, zni_it _ hX]; omega
theorem zcnt_app : ∀ (A B : List Int), zcnt (A ++ B) = zcnt A + zcnt B
  | [], B => by simp [zcnt]
  | m :: A, B => by simp only [List.cons_append, zcnt, zcnt_app A B]; omega
theorem zlv_app : ∀ (A B : List Int), zlv (A ++ B) = zlv A + zlv B
  | [], B => by simp [zlv]
  | m :: A, B => by simp only [List.cons_append, zlv, zlv_app A B]; omega
theorem zlv_run : ∀ {A s s' : List Int}, zrun s A = some s' → zlv A = s'.length - s.length
  | [], s, s', h => by simp only [zrun] at h; rw [Option.some.inj h]; simp [zlv]
  | m :: A, s, s', h => by
    obtain ⟨s1, h1, h2⟩ := zrun_cons_inv h
    have e := zst_len h1
    have := zlv_run h2
    simp only [zlv]; omega
theorem zlv_bal {S : List Int} (h : zbal S) : zlv S = 0 := by have := zlv_run h; simpa using this
theorem zmx_app : ∀ (A B : List Int) (d b : Int), zmx d b (A ++ B) = zmx (d + zlv A) (zmx d b A) B
  | [], B, d, b => by simp [zmx, zlv]
  | m :: A, B, d, b => by
    simp only [List.cons_append, zmx, zlv, zmx_app A B]
    rw [show d + zop m + zlv A = d + (zop m + zlv A) by omega]
theorem mx_t {a b : Int} (h : a < b) : mxI a b = b := if_pos h
theorem mx_f {a b : Int} (h : ¬ a < b) : mxI a b = a := if_neg h
theorem mx_s (a b : Int) : (a ≤ mxI a b ∧ b ≤ mxI a b) ∧ (mxI a b = a ∨ mxI a b = b) := by
  by_cases h : a < b
  · rw [mx_t h]; omega
  · rw [mx_f h]; omega
theorem zmx_ge : ∀ (A : List Int) (d b : Int), b ≤ zmx d b A
  | [], d, b => Int.le_refl b
  | m :: A, d, b => by
    have h1 := zmx_ge A (d + zop m) (mxI b (d + zop m))
    have h2 := mx_s b (d + zop m)
    simp only [zmx]; omega
theorem zmx_mono : ∀ (A : List Int) (d b b' : Int), b ≤ b' → zmx d b A ≤ zmx d b' A
  | [], d, b, b', h => h
  | m :: A, d, b, b', h => by
    simp only [zmx]
    refine zmx_mono A _ _ _ ?_
    have h1 := mx_s b (d + zop m)
    have h2 := mx_s b' (d + zop m)
    omega
theorem zmx_max : ∀ (A : List Int) (d b b' : Int), zmx d (mxI b b') A = mxI (zmx d b A) (zmx d b' A)
  | [], d, b, b' => rfl
  | m :: A, d, b, b' => by
    simp only [zmx]
    rw [← zmx_max A]
    congr 1
    have h1 := mx_s b (d + zop m)
    have h2 := mx_s b' (d + zop m)
    have h3 := mx_s b b'
    have h4 := mx_s (mxI b b') (d + zop m)
    have h5 := mx_s (mxI b (d + zop m)) (mxI b' (d + zop m))
    omega
theorem zmx_shift : ∀ (A : List Int) (d b k : Int), zmx (d + k) (b + k) A = zmx d b A + k
  | [], d, b, k => rfl
  | m :: A, d, b, k => by
    simp only [zmx]
    rw [← zmx_shift A, show d + k + zop m = d + zop m + k by omega]
    congr 1
    have h1 := mx_s b (d + zop m)
    have h2 := mx_s (b + k) (d + zop m + k)
    omega
theorem zmx_le : ∀ (A : List Int) (d b : Int), zmx d b A ≤ b + A.length ∨ zmx d b A ≤ d + A.length
  | [], d, b => Or.inl (by simp [zmx])
  | m :: A, d, b => by
    have h := zop_b m
    have h1 := mx_s b (d + zop m)
    have := zmx_le A (d + zop m) (mxI b (d + zop m))
    simp only [zmx, List.length_cons]
    omega
theorem zlv_b : ∀ (A : List Int), -(A.length : Int) ≤ zlv A ∧ zlv A ≤ A.length
  | [] => by simp [zlv]
  | m :: A => by have := zlv_b A; have := zop_b m; simp only [zlv, List.length_cons]; omega
theorem zcnt_b : ∀ (A : List Int), zcnt A ≤ A.length
  | [] => by simp [zcnt]
  | m :: A => by have := zcnt_b A; simp only [zcnt, List.length_cons]; split <;> omega
theorem zni_b : ∀ (A : List Int) (d : Int), zni d A ≤ A.length
  | [], d => by simp [zni]
  | m :: A, d => by have := zni_b A (d + zop m); simp only [zni, List.length_cons]; split <;> omega
theorem zre_b : ∀ (A : List Int) (d : Int), zre d A ≤ A.length
  | [], d => by simp [zre]
  | m :: A, d => by have := zre_b A (d + zop m); simp only [zre, List.length_cons]; split <;> omega
theorem zrs_b : ∀ (A : List Int) (d : Int), zrs d A ≤ A.length
  | [], d => by simp [zrs]
  | m :: A, d => by have := zrs_b A (d - zop m); simp only [zrs, List.length_cons]; split <;> omega
theorem zie_b : ∀ (A : List Int) (d : Int), zie d A ≤ A.length
  | [], d => by simp [zie]
  | m :: A, d => by have := zie_b A (d + zop m); simp only [zie, List.length_cons]; split <;> omega
theorem zis_b : ∀ (A : List Int) (d : Int), zis d A ≤ A.length
  | [], d => by simp [zis]
  | m :: A, d => by have := zis_b A (d - zop m); simp only [zis, List.length_cons]; split <;> omega
theorem zbal_ind2 {P : List Int → Prop} (h0 : P []) (h1 : ∀ (m : Int) (R : List Int), ((42 ≤ m ∧ m ≤ 122) ∧ zsy m = true) → zbal R → P R → P (m :: R)) (h2 : ∀ (k : Int) (I R : List Int), 2 ≤ k ∧ k ≤ 5 → zbal I → zbal R → P I → P R → P (k :: (I ++ (k + 10) :: R))) (h3 : ∀ I J R : List Int, zbal I → zbal J → zbal R → P I → P J → P R → P (1 :: (I ++ 6 :: (J ++ 11 :: R)))) : ∀ (n : Nat) (S : List Int), S.length ≤ n → zbal S → P S
  | 0, S, hS, _ => by
    have : S = [] := List.length_eq_zero_iff.mp (by omega)
    subst this
    exact h0
  | n + 1, S, hS, h => by
    by_cases hn : S = []
    · subst hn; exact h0
    · obtain ⟨X, R, rfl, hX, hR⟩ := zitF h hn
      have hl := zit_ne hX
      rw [List.length_append] at hS
      have iR := zbal_ind2 h0 h1 h2 h3 n R (by omega) hR
      rcases hX with ⟨m, rfl, a, b⟩ | ⟨k, I, rfl, a, b, c⟩ | ⟨I, J, rfl, a, b⟩
      · exact h1 m R ⟨a, b⟩ hR iR
      · have e := h2 k I R ⟨a, b⟩ c hR (zbal_ind2 h0 h1 h2 h3 n I (by simp at hS; omega) c) iR
        simpa using e
      · have e := h3 I J R a b hR (zbal_ind2 h0 h1 h2 h3 n I (by simp at hS; omega) a) (zbal_ind2 h0 h1 h2 h3 n J (by simp at hS; omega) b) iR
        simpa using e
theorem zlen3 {S : List Int} (h : zbal S) : S.length ≤ 3 * zcnt S := by
  refine zbal_ind2 (P := fun S => S.length ≤ 3 * zcnt S) (by simp [zcnt]) ?_ ?_ ?_ S.length S (Nat.le_refl _) h
  · intro m R hm hR ih
    simp only [List.length_cons, zcnt]
    rw [if_pos (by simp [zsi]; omega)]; omega
  · intro k I R hk hI hR ihI ihR
    simp only [List.length_cons, List.length_append, zcnt, zcnt_app]
    rw [if_pos (by simp [zsi]; omega)]; omega
  · intro I J R hI hJ hR ihI ihJ ihR
    simp only [List.length_cons, List.length_append, zcnt, zcnt_app]
    have : zsi 1 = true := by decide
    rw [if_pos this]; omega
