/-! the class's lines: changes -/
theorem zg_app (A B : List Int) (i : Nat) : (A ++ B).getD i 0 = if i < A.length then A.getD i 0 else B.getD (i - A.length) 0 := by
  simp only [List.getD_eq_getElem?_getD, List.getElem?_append]
  split <;> rfl
theorem zg_cons (m : Int) (B : List Int) (i : Nat) : (m :: B).getD i 0 = if i = 0 then m else B.getD (i - 1) 0 := by
  cases i with
  | zero => rfl
  | succ i => simp
theorem zC_ins {F : Nat → Int} {X Y : List Int} {m : Int} (h : zC F (X ++ Y)) : zC (va_up (va_cpy F F X.length (X.length + 1) Y.length) X.length m) (X ++ m :: Y) := by
  rw [zC_iff] at h ⊢
  intro i hi
  simp only [List.length_append, List.length_cons] at hi h
  simp only [va_up, va_cpy]
  rw [zg_app, zg_cons]
  by_cases h1 : i = X.length
  · subst h1; simp
  · rw [if_neg h1]
    by_cases h2 : i < X.length
    · rw [if_neg (by omega), if_pos h2, h i (by omega), zg_app, if_pos h2]
    · rw [if_pos (by omega), if_neg h2, if_neg (by omega), h _ (by omega), zg_app, if_neg (by omega)]
      congr 1; omega
theorem zC_del {F : Nat → Int} {X Y Z : List Int} (h : zC F (X ++ (Y ++ Z))) : zC (va_cpy F F (X.length + Y.length) X.length Z.length) (X ++ Z) := by
  rw [zC_iff] at h ⊢
  intro i hi
  simp only [List.length_append] at hi h
  simp only [va_cpy]
  rw [zg_app]
  by_cases h2 : i < X.length
  · rw [if_neg (by omega), if_pos h2, h i (by omega), zg_app, if_pos h2]
  · rw [if_pos (by omega), if_neg h2, h _ (by omega), zg_app, if_neg (by omega), zg_app, if_neg (by omega)]
    congr 1; omega
theorem zC_insAll {F G : Nat → Int} {X Y Z : List Int} (h : zC F (X ++ Z)) (hG : zC G Y) : zC (va_cpy G (va_cpy F F X.length (X.length + Y.length) Z.length) 0 X.length Y.length) (X ++ (Y ++ Z)) := by
  rw [zC_iff] at h hG ⊢
  intro i hi
  simp only [List.length_append] at hi h
  simp only [va_cpy]
  rw [zg_app, zg_app]
  by_cases h2 : i < X.length
  · rw [if_neg (by omega), if_neg (by omega), if_pos h2, h i (by omega), zg_app, if_pos h2]
  · by_cases h3 : i < X.length + Y.length
    · rw [if_pos (by omega), if_neg h2, if_pos (by omega), hG _ (by omega)]
      congr 1; omega
    · rw [if_neg (by omega), if_pos (by omega), if_neg h2, if_neg (by omega), h _ (by omega), zg_app, if_neg (by omega)]
      congr 1; omega
theorem zC_take {F G : Nat → Int} {X Y Z : List Int} (h : zC F (X ++ (Y ++ Z))) : zC (va_cpy F G X.length 0 Y.length) Y := by
  rw [zC_iff] at h ⊢
  intro i hi
  simp only [List.length_append] at h
  simp only [va_cpy]
  rw [if_pos (by omega), h _ (by omega), zg_app, if_neg (by omega), zg_app, if_pos (by omega)]
  congr 1; omega
theorem zC_add {F : Nat → Int} {X : List Int} {m : Int} (h : zC F X) : zC (va_up F X.length m) (X ++ [m]) := by
  rw [zC_iff] at h ⊢
  intro i hi
  simp only [List.length_append, List.length_cons, List.length_nil] at hi
  simp only [va_up]
  rw [zg_app]
  by_cases h2 : i < X.length
  · rw [if_neg (by omega), if_pos h2, h i h2]
  · have : i = X.length := by omega
    subst this
    simp
theorem zC_set {F : Nat → Int} {X Y : List Int} {m m' : Int} (h : zC F (X ++ m :: Y)) : zC (va_up F X.length m') (X ++ m' :: Y) := by
  rw [zC_iff] at h ⊢
  intro i hi
  simp only [List.length_append, List.length_cons] at hi h
  simp only [va_up]
  rw [zg_app, zg_cons]
  by_cases h1 : i = X.length
  · subst h1; simp
  · rw [if_neg h1, h i (by omega), zg_app, zg_cons]
    by_cases h2 : i < X.length
    · rw [if_pos h2, if_pos h2]
    · rw [if_neg h2, if_neg h2, if_neg (by omega), if_neg (by omega)]
section zcz
variable {N : Nat} {n : Int} {F : Nat → Int}
theorem zCx.mk' {L : List Int} (h1 : n = (L.length : Int)) (h2 : L.length ≤ N) (h3 : N ≤ 1000) (h4 : zC F L) (h5 : ∀ m ∈ L, zv m) : zCx N n F L := ⟨⟨h1, h2, h3⟩, h4, h5⟩
theorem c_insert {X Y : List Int} (H : zCx N n F (X ++ Y)) {x m : Int} (hx : x = (X.length : Int)) (hm : zv m) (hN : X.length + Y.length < N) : ∃ G, f_X3_insert N n F x m = some (n + 1, G) ∧ zCx N (n + 1) G (X ++ m :: Y) := by
  obtain ⟨⟨h1, h2, h3⟩, h4, h5⟩ := H
  rw [List.length_append] at h1
  refine ⟨_, ?_, ⟨by simp; omega, by simp; omega, h3⟩, zC_ins h4, ?_⟩
  · have e1 : x.toNat = X.length := by omega
    have e2 : (x + 1).toNat = X.length + 1 := by omega
    have e3 : (n - x).toNat = Y.length := by omega
    unfold f_X3_insert
    simp (disch := omega) only [z_lt_t, z_lt_f, z_jn, z_gC, z_in, e1, e2, e3]
  · intro z hz
    rcases List.mem_append.mp hz with hz | hz
    · exact h5 z (List.mem_append_left _ hz)
    · rcases List.mem_cons.mp hz with rfl | hz
      · exact hm
      · exact h5 z (List.mem_append_right _ hz)
theorem c_remove {X Y Z : List Int} (H : zCx N n F (X ++ (Y ++ Z))) {x y : Int} (hx : x = (X.length : Int)) (hy : y = (X.length : Int) + Y.length) : ∃ G, f_X3_remove N n F x y = some (n - Y.length, G) ∧ zCx N (n - Y.length) G (X ++ Z) := by
  obtain ⟨⟨h1, h2, h3⟩, h4, h5⟩ := H
  simp only [List.length_append] at h1 h2
  refine ⟨_, ?_, ⟨by simp; omega, by simp; omega, h3⟩, zC_del h4, ?_⟩
  · have e1 : x.toNat = X.length := by omega
    have e2 : y.toNat = X.length + Y.length := by omega
    have e3 : (n - y).toNat = Z.length := by omega
    have e4 : n - (y - x) = n - Y.length := by omega
    unfold f_X3_remove
    simp (disch := omega) only [z_lt_t, z_lt_f, z_jn, z_gC, e1, e2, e3, e4]
  · intro z hz
    rcases List.mem_append.mp hz with hz | hz
    · exact h5 z (List.mem_append_left _ hz)
    · exact h5 z (List.mem_append_right _ (List.mem_append_right _ hz))
theorem c_insertAll {N2 : Nat} {n2 : Int} {G : Nat → Int} {X Y Z : List Int} (H : zCx N n F (X ++ Z)) (HG : zCx N2 n2 G Y) {x : Int} (hx : x = (X.length : Int)) (hN : X.length + Y.length + Z.length ≤ N) : ∃ G', f_X3_insertAll N N2 n F n2 G x = some (n + n2, G') ∧ zCx N (n + n2) G' (X ++ (Y ++ Z)) := by
  obtain ⟨⟨h1, h2, h3⟩, h4, h5⟩ := H
  obtain ⟨⟨g1, g2, g3⟩, g4, g5⟩ := HG
  simp only [List.length_append] at h1 h2
  refine ⟨_, ?_, ⟨by simp; omega, by simp; omega, h3⟩, zC_insAll h4 g4, ?_⟩
  · have e1 : x.toNat = X.length := by omega
    have e2 : (x + n2).toNat = X.length + Y.length := by omega
    have e3 : (n - x).toNat = Z.length := by omega
    have e4 : n2.toNat = Y.length := by omega
    have e5 : (0 : Int).toNat = 0 := rfl
    unfold f_X3_insertAll
    simp (disch := omega) only [z_lt_t, z_lt_f, z_eq_t, z_eq_f, z_jn, z_gC, e1, e2, e3, e4, e5]
  · intro z hz
    rcases List.mem_append.mp hz with hz | hz
    · exact h5 z (List.mem_append_left _ hz)
    · rcases List.mem_append.mp hz with hz | hz
      · exact g5 z hz
      · exact h5 z (List.mem_append_right _ hz)
/-- take: another line's stretch -/
theorem c_take {N2 : Nat} {n2 : Int} {G : Nat → Int} {X Y Z : List Int} (HG : zCx N2 n2 G (X ++ (Y ++ Z))) {x y : Int} (hx : x = (X.length : Int)) (hy : y = (X.length : Int) + Y.length) (hN : Y.length ≤ N) (hN2 : N ≤ 1000) : ∃ G', f_X3_take N N2 n F G x y = some ((Y.length : Int), G') ∧ zCx N (Y.length : Int) G' Y := by
  obtain ⟨⟨g1, g2, g3⟩, g4, g5⟩ := HG
  simp only [List.length_append] at g1 g2
  refine ⟨va_cpy G F X.length 0 Y.length, ?_, ⟨rfl, hN, hN2⟩, zC_take g4, ?_⟩
  · have e1 : x.toNat = X.length := by omega
    have e3 : (y - x).toNat = Y.length := by omega
    have e4 : y - x = (Y.length : Int) := by omega
    have e5 : (0 : Int).toNat = 0 := rfl
    have e6 : ((Y.length : Int)).toNat = Y.length := by omega
    unfold f_X3_take
    simp (disch := omega) only [e4, z_lt_t, z_lt_f, z_jn, z_gC, e1, e3, e5, e6]
  · intro z hz
    exact g5 z (List.mem_append_right _ (List.mem_append_left _ hz))
theorem c_add {X : List Int} (H : zCx N n F X) {m : Int} (hm : zv m) (hN : X.length < N) : ∃ G, f_X3_add N n F m = some (n + 1, G) ∧ zCx N (n + 1) G (X ++ [m]) := by
  obtain ⟨⟨h1, h2, h3⟩, h4, h5⟩ := H
  refine ⟨_, ?_, ⟨by simp; omega, by simp; omega, h3⟩, zC_add h4, ?_⟩
  · have e1 : n.toNat = X.length := by omega
    unfold f_X3_add
    simp (disch := omega) only [z_lt_t, z_lt_f, z_jn, z_in, e1]
  · intro z hz
    rcases List.mem_append.mp hz with hz | hz
    · exact h5 z hz
    · rcases List.mem_cons.mp hz with rfl | hz
      · exact hm
      · cases hz
/-- exchange of symbols -/
def zxc (c d : Int) : List Int → List Int
  | [] => []
  | m :: t => (if m = c then d else m) :: zxc c d t
def zxn (c : Int) : List Int → Nat
  | [] => 0
  | m :: t => (if m = c then 1 else 0) + zxn c t
theorem zxc_len (c d : Int) : ∀ L, (zxc c d L).length = L.length
  | [] => rfl
  | m :: t => by simp [zxc, zxc_len c d t]
theorem zxn_b (c : Int) : ∀ L, zxn c L ≤ L.length
  | [] => by simp [zxn]
  | m :: t => by have := zxn_b c t; simp only [zxn, List.length_cons]; split <;> omega
theorem zxc_run {c d : Int} (hc : (42 ≤ c ∧ c ≤ 122) ∧ zsy c = true) (hd : (42 ≤ d ∧ d ≤ 122) ∧ zsy d = true) : ∀ {L s s' : List Int}, zrun s L = some s' → zrun s (zxc c d L) = some s'
  | [], _, _, h => h
  | m :: t, s, s', h => by
    obtain ⟨s1, h1, h2⟩ := zrun_cons_inv h
    simp only [zxc]
    split
    · rename_i e
      subst e
      rw [zst_sym hc] at h1
      obtain rfl := Option.some.inj h1
      rw [zrun_cons (zst_sym hd)]
      exact zxc_run hc hd h2
    · rw [zrun_cons h1]
      exact zxc_run hc hd h2
theorem zxc_app (c d : Int) : ∀ (A B : List Int), zxc c d (A ++ B) = zxc c d A ++ zxc c d B
  | [], B => rfl
  | m :: A, B => by simp [zxc, zxc_app c d A B]
theorem zxc_cnt {c d : Int} (hc : 42 ≤ c) (hd : 42 ≤ d) : ∀ L, zcnt (zxc c d L) = zcnt L
  | [] => rfl
  | m :: t => by
    simp only [zxc, zcnt, zxc_cnt hc hd t]
    split
    · rename_i e
      subst e
      have h1 : zsi m = true := by simp [zsi]; omega
      have h2 : zsi d = true := by simp [zsi]; omega
      rw [h1, h2]
    · rfl
theorem zxc_mx {c d : Int} (hc : 42 ≤ c) (hd : 42 ≤ d) : ∀ L e b, zmx e b (zxc c d L) = zmx e b L
  | [], e, b => rfl
  | m :: t, e, b => by
    simp only [zxc, zmx]
    have : zop (if m = c then d else m) = zop m := by
      split
      · rename_i e; subst e; rw [zop_sy hc, zop_sy hd]
      · rfl
    rw [this, zxc_mx hc hd t]
theorem c_xc_loop {c d : Int} (hc : 42 ≤ c ∧ c ≤ 122) (hd : 42 ≤ d ∧ d ≤ 122) {e : (Nat → Int) × Int × Int → Option (Int × (Nat → Int))} : ∀ (T A : List Int) (fu : Nat) (F : Nat → Int) (z y : Int), zCx N n F (A ++ T) → T.length < fu → y = (A.length : Int) → (0 ≤ z ∧ z ≤ A.length) → ∃ G, f_X3_exchange_5 N n c d e fu F z y = e (G, z + zxn c T, n) ∧ zCx N n G (A ++ zxc c d T)
  | _, _, 0, _, _, _, _, hf, _, _ => by omega
  | [], A, fu + 1, F, z, y, H, hf, hy, hz => by
    have hn : n = y := by rw [H.1.1]; simp; omega
    have h3 := H.1
    subst hn
    refine ⟨F, ?_, by simpa [zxc] using H⟩
    simp (disch := omega) only [f_X3_exchange_5, z_lt_f, zxn]
    simp
  | m :: T, A, fu + 1, F, z, y, H, hf, hy, hz => by
    obtain ⟨hm, hv, hb⟩ := H.at rfl hy
    have hv2 := zv_rc hv
    simp only [List.length_cons] at hf
    have hF : F y.toNat = m := by rw [show y.toNat = A.length by omega]; exact H.2.1 A m T rfl
    by_cases h0 : m = c
    · have H2 : zCx N n (va_up F y.toNat d) ((A ++ [d]) ++ T) := by
        obtain ⟨⟨h1, h2, h3⟩, h4, h5⟩ := H
        refine ⟨⟨by simpa using h1, by simpa using h2, h3⟩, ?_, ?_⟩
        · rw [show y.toNat = A.length by omega]
          simpa using zC_set (m' := d) h4
        · intro w hw
          simp only [List.mem_append, List.mem_cons, List.not_mem_nil, or_false] at hw h5
          rcases hw with (hw | rfl) | hw
          · exact h5 w (Or.inl hw)
          · unfold zv; omega
          · exact h5 w (Or.inr (Or.inr hw))
      obtain ⟨G, e1, e2⟩ := c_xc_loop hc hd (e := e) T (A ++ [d]) fu (va_up F y.toNat d) (z + 1) (y + 1) H2 (by omega) (by simp; omega) (by simp; omega)
      refine ⟨G, ?_, by simpa [zxc, h0] using e2⟩
      simp (disch := omega) only [f_X3_exchange_5, z_lt_t, z_in, z_jn, hF, z_eq_t, z_eq_f, e1, zxn, if_pos]
      rw [show z + 1 + (zxn c T : Int) = z + ((1 + zxn c T : Nat) : Int) by omega]
    · obtain ⟨G, e1, e2⟩ := c_xc_loop hc hd (e := e) T (A ++ [m]) fu F z (y + 1) (by simpa using H) (by omega) (by simp; omega) (by simp; omega)
      refine ⟨G, ?_, by simpa [zxc, h0] using e2⟩
      simp (disch := omega) only [f_X3_exchange_5, z_lt_t, z_in, z_jn, hF, z_eq_t, z_eq_f, e1, zxn, if_neg]
      simp
theorem c_exchange {c d : Int} (hc : 42 ≤ c ∧ c ≤ 122) (hd : 42 ≤ d ∧ d ≤ 122) {L : List Int} (H : zCx N n F L) : ∃ G, f_X3_exchange N n F c d = some ((zxn c L : Int), G) ∧ zCx N n G (zxc c d L) := by
  have h1 := H.1
  obtain ⟨G, e1, e2⟩ := c_xc_loop hc hd (e := fun (z3 : (Nat → Int) × Int × Int) => some (z3.2.1, z3.1)) L [] fuel F 0 0 (by simpa using H) (by unfold fuel; omega) rfl (by simp)
  refine ⟨G, ?_, by simpa using e2⟩
  unfold f_X3_exchange
  rw [e1]
  simp
end zcz
