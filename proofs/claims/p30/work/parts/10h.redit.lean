/-! the reference's pages: changes -/
theorem zR_set {F : Nat → Int} {X Y : List Int} {m m' : Int} (h : zR F (X ++ m :: Y)) : zR (va_up F X.length (zr m')) (X ++ m' :: Y) := by
  rw [zR_iff] at h ⊢
  intro i hi
  simp only [List.length_append, List.length_cons] at hi h
  simp only [va_up]
  rw [zg_app, zg_cons]
  by_cases h1 : i = X.length
  · subst h1; simp
  · rw [if_neg h1, h i (by omega), zg_app, zg_cons]
    by_cases h2 : i < X.length
    · rw [if_pos h2, if_pos h2]
    · rw [if_neg h2, if_neg h2, if_neg (by omega), if_neg (by omega)]
theorem zR_out {F : Nat → Int} {L : List Int} {k : Nat} {v : Int} (h : zR F L) (hk : L.length ≤ k) : zR (va_up F k v) L := by
  rw [zR_iff] at h ⊢
  intro i hi
  simp only [va_up]
  rw [if_neg (by omega)]
  exact h i hi
theorem zR_pre {F : Nat → Int} {A B : List Int} (h : zR F (A ++ B)) : zR F A := by
  intro X m T e
  exact h X m (T ++ B) (by rw [e]; simp)
theorem zup_ne {F : Nat → Int} {k j : Nat} {v : Int} (h : j ≠ k) : va_up F k v j = F j := if_neg h
theorem zup_eq {F : Nat → Int} {k : Nat} {v : Int} : va_up F k v k = v := if_pos rfl
section zrz
variable {N : Nat}
theorem r_rm_loop (hN : 184 ≤ N ∧ N ≤ 3000) {e : (Nat → Int) × Int → Option (Nat → Int)} {x1 x2 n : Int} : ∀ (Z P G : List Int) (fu : Nat) (F : Nat → Int) (y : Int), zR F (P ++ (G ++ Z)) → F 180 = n → n = (P.length : Int) + G.length + Z.length → n ≤ 180 → Z.length < fu → y = (P.length : Int) + G.length → x2 - x1 = G.length → ∃ F', f_X8_remove_2 N x1 x2 e fu F y = e (F', n) ∧ zR F' (P ++ Z) ∧ ∀ j, 180 ≤ j → F' j = F j
  | _, _, _, 0, _, _, _, _, _, _, hf, _, _ => by omega
  | [], P, G, fu + 1, F, y, h, h180, hn, hn2, hf, hy, hx => by
    simp only [List.length_nil] at hn
    have h1 : F (180 : Int).toNat = n := h180
    refine ⟨F, ?_, ?_, fun _ _ => rfl⟩
    · simp (disch := omega) only [f_X8_remove_2, z_in, h1, z_lt_f]
      rw [show y = n by omega]
    · simpa using zR_pre h
  | m :: Z, P, G, fu + 1, F, y, h, h180, hn, hn2, hf, hy, hx => by
    simp only [List.length_cons] at hn hf
    have h1 : F (180 : Int).toNat = n := h180
    have hm : F y.toNat = zr m := by
      rw [show y.toNat = (P ++ G).length by simp; omega]
      exact h (P ++ G) m Z (by simp)
    have key : ∃ G2 : List Int, G2.length = G.length ∧ zR (va_up F P.length (zr m)) ((P ++ [m]) ++ (G2 ++ Z)) := by
      cases G with
      | nil => exact ⟨[], rfl, by simpa using zR_set (m' := m) (by simpa using h)⟩
      | cons g G =>
        refine ⟨G ++ [m], by simp, ?_⟩
        have := zR_set (X := P) (m := g) (m' := m) (Y := G ++ m :: Z) (by simpa using h)
        simpa using this
    obtain ⟨G2, hg, hG⟩ := key
    have e1 : (x1 + y - x2).toNat = P.length := by omega
    obtain ⟨F', a1, a2, a3⟩ := r_rm_loop hN (e := e) (x1 := x1) (x2 := x2) Z (P ++ [m]) G2 fu (va_up F P.length (zr m)) (y + 1) hG (by rw [zup_ne (by omega)]; exact h180) (by simp; omega) hn2 (by omega) (by simp; omega) (by omega)
    refine ⟨F', ?_, by simpa using a2, fun j hj => by rw [a3 j hj, zup_ne (by omega)]⟩
    simp (disch := omega) only [f_X8_remove_2, z_in, h1, z_lt_t, hm, e1, a1]
theorem r_remove {F : Nat → Int} {X Y Z : List Int} (H : zRy N F (X ++ (Y ++ Z))) {x y : Int} (hx : x = (X.length : Int)) (hy : y = (X.length : Int) + Y.length) : ∃ G, f_X8_remove N F x y = some G ∧ zRy N G (X ++ Z) ∧ G 181 = F 181 ∧ G 182 = F 182 := by
  obtain ⟨⟨⟨h1, h2⟩, h3, h4, h5⟩, h6, h7, h8⟩ := H
  simp only [List.length_append] at h1 h5 h6 h7
  obtain ⟨F', a1, a2, a3⟩ := r_rm_loop (N := N) ⟨h8, h2⟩ (e := fun (z1 : (Nat → Int) × Int) => gIn 180 N (gIn 180 N (some (va_up z1.1 (180 : Int).toNat ((z1.1 (180 : Int).toNat) - (y - x)))))) (x1 := x) (x2 := y) (n := F 180) Z X Y fuel F y h3 rfl (by omega) (by omega) (by unfold fuel; omega) hy (by omega)
  have e180 : (180 : Int).toNat = 180 := rfl
  refine ⟨va_up F' 180 (F 180 - (y - x)), ?_, ⟨⟨⟨by simp; omega, h2⟩, zR_out a2 (by simp; omega), ?_, by simp; omega⟩, ?_, by simp; omega, h8⟩, ?_, ?_⟩
  · unfold f_X8_remove
    rw [a1]
    simp (disch := omega) only [z_in, e180, a3 180 (Nat.le_refl _)]
  · intro z hz
    rcases List.mem_append.mp hz with hz | hz
    · exact h4 z (List.mem_append_left _ hz)
    · exact h4 z (List.mem_append_right _ (List.mem_append_right _ hz))
  · rw [zup_eq]; simp; omega
  · rw [zup_ne (by omega), a3 181 (by omega)]
  · rw [zup_ne (by omega), a3 182 (by omega)]
theorem r_pt_loop (hN : 184 ≤ N ∧ N ≤ 3000) {e : (Nat → Int) × Int → Option (Nat → Int)} (X : List Int) : ∀ (R Q : List Int) (fu : Nat) (F : Nat → Int) (y : Int), zR F (X ++ R.reverse) → zR (fun i => F (X.length + R.length + 1 + i)) Q → X.length + R.length + Q.length < 180 → R.length < fu → y = (X.length : Int) + R.length → ∃ F', f_X8_put_6 N X.length e fu F y = e (F', X.length) ∧ zR F' X ∧ zR (fun i => F' (X.length + 1 + i)) (R.reverse ++ Q) ∧ ∀ j, 180 ≤ j → F' j = F j
  | _, _, 0, _, _, _, _, _, hf, _ => by omega
  | [], Q, fu + 1, F, y, h, hq, hl, hf, hy => by
    simp only [List.length_nil] at hy hl hq
    refine ⟨F, ?_, by simpa using h, by simpa using hq, fun _ _ => rfl⟩
    simp (disch := omega) only [f_X8_put_6, z_lt_f]
    rw [show y = (X.length : Int) by omega]
  | m :: R, Q, fu + 1, F, y, h, hq, hl, hf, hy => by
    simp only [List.length_cons] at hy hl hq hf
    have hm : F (y - 1).toNat = zr m := by
      have := h (X ++ R.reverse) m [] (by simp)
      rw [← this]; congr 1; simp; omega
    have e1 : y.toNat = X.length + R.length + 1 := by omega
    have h' : zR F (X ++ R.reverse) := zR_pre (B := [m]) (by simpa using h)
    obtain ⟨F', a1, a2, a3, a4⟩ := r_pt_loop hN (e := e) X R (m :: Q) fu (va_up F (X.length + R.length + 1) (zr m)) (y + (-1)) (zR_out h' (by simp)) (by
      rw [zR_iff] at hq ⊢
      intro i hi
      simp only [va_up]
      rw [zg_cons]
      by_cases hi0 : i = 0
      · subst hi0; simp
      · rw [if_neg (by omega), if_neg hi0, ← hq (i - 1) (by simp at hi; omega)]
        congr 1; omega) (by simp; omega) (by omega) (by omega)
    refine ⟨F', ?_, a2, by simpa using a3, fun j hj => by rw [a4 j hj, zup_ne (by omega)]⟩
    simp (disch := omega) only [f_X8_put_6, z_in, z_lt_t, hm, e1, a1]
theorem r_put {F : Nat → Int} {X Y : List Int} (H : zRy N F (X ++ Y)) {x m z : Int} (hx : x = (X.length : Int)) (hm : zv m) (hz : z = zr m) (hl : X.length + Y.length < 180) : ∃ G, f_X8_put N F x z = some G ∧ zRy N G (X ++ m :: Y) ∧ G 181 = F 181 ∧ G 182 = F 182 := by
  obtain ⟨⟨⟨h1, h2⟩, h3, h4, h5⟩, h6, h7, h8⟩ := H
  simp only [List.length_append] at h1 h5 h6 h7
  subst hx
  subst hz
  obtain ⟨F', a1, a2, a3, a4⟩ := r_pt_loop (N := N) ⟨h8, h2⟩ (e := (fun (z1 : (Nat → Int) × Int) => gIn (X.length : Int) N (gIn 180 N (gIn 180 N (some (va_up (va_up z1.1 (X.length : Int).toNat (zr m)) (180 : Int).toNat (((va_up z1.1 (X.length : Int).toNat (zr m)) (180 : Int).toNat) + 1))))))) X Y.reverse [] fuel F (F 180) (by simpa using h3) (by intro A b T e; simp at e) (by simp; omega) (by unfold fuel; simp; omega) (by simp; omega)
  have e180 : (180 : Int).toNat = 180 := rfl
  have eX : (X.length : Int).toNat = X.length := by omega
  refine ⟨va_up (va_up F' X.length (zr m)) 180 (F 180 + 1), ?_, ⟨⟨⟨by simp; omega, h2⟩, zR_out ?_ (by simp; omega), ?_, by simp; omega⟩, ?_, by simp; omega, h8⟩, ?_, ?_⟩
  · unfold f_X8_put
    rw [show F (180 : Int).toNat = F 180 from rfl, a1]
    simp (disch := omega) only [z_in, e180, eX, zup_ne, a4 180 (Nat.le_refl _)]
  · rw [List.reverse_reverse, List.append_nil] at a3
    rw [zR_iff] at a2 a3 ⊢
    intro i hi
    simp only [List.length_append, List.length_cons] at hi
    simp only [va_up]
    rw [zg_app, zg_cons]
    by_cases e1 : i = X.length
    · subst e1; simp
    · rw [if_neg e1]
      by_cases e2 : i < X.length
      · rw [if_pos e2]; exact a2 i e2
      · rw [if_neg e2, if_neg (by omega), ← a3 (i - X.length - 1) (by omega)]
        congr 1; omega
  · intro w hw
    rcases List.mem_append.mp hw with hw | hw
    · exact h4 w (List.mem_append_left _ hw)
    · rcases List.mem_cons.mp hw with rfl | hw
      · exact hm
      · exact h4 w (List.mem_append_right _ hw)
  · rw [zup_eq]; simp; omega
  · rw [zup_ne (by omega), zup_ne (by omega), a4 181 (by omega)]
  · rw [zup_ne (by omega), zup_ne (by omega), a4 182 (by omega)]
/-- writes behind the size cell leave the page -/
theorem zRy.up {F : Nat → Int} {L : List Int} (H : zRy N F L) {k : Nat} {v : Int} (hk : 181 ≤ k) : zRy N (va_up F k v) L := by
  obtain ⟨⟨h1, h3, h4, h5⟩, h6, h7, h8⟩ := H
  exact ⟨⟨h1, zR_out h3 (by omega), h4, h5⟩, by rw [zup_ne (by omega)]; exact h6, h7, h8⟩
theorem r_cp_loop {N2 : Nat} {F : Nat → Int} {x1 x3 : Int} (h1 : 0 ≤ x1 ∧ x1 + 184 ≤ N ∧ N ≤ 3000) (h3 : 0 ≤ x3 ∧ x3 + 184 ≤ N2 ∧ N2 ≤ 3000) (F2 : Nat → Int) : ∀ (r fu : Nat) (y : Int), y = 184 - (r : Int) → r ≤ 184 → r < fu → f_X8_copyPage_3 N N2 F x1 x3 (fun (z1 : (Nat → Int) × Int) => some z1.1) fu (va_cpy F F2 x1.toNat x3.toNat (184 - r)) y = some (va_cpy F F2 x1.toNat x3.toNat 184)
  | _, 0, _, _, _, hf => by omega
  | 0, fu + 1, y, hy, hr, hf => by
    simp (disch := omega) only [f_X8_copyPage_3, z_lt_f, Nat.sub_zero]
  | r + 1, fu + 1, y, hy, hr, hf => by
    have ih := r_cp_loop (F := F) h1 h3 F2 r fu (y + 1) (by omega) (by omega) (by omega)
    have e1 : va_up (va_cpy F F2 x1.toNat x3.toNat (184 - (r + 1))) (x3 + y).toNat (F (x1 + y).toNat) = va_cpy F F2 x1.toNat x3.toNat (184 - r) := by
      funext j
      simp only [va_up, va_cpy]
      by_cases hj : j = (x3 + y).toNat
      · subst hj
        rw [if_pos rfl, if_pos (by omega)]
        congr 1; omega
      · rw [if_neg hj]
        by_cases hj2 : x3.toNat ≤ j ∧ j < x3.toNat + (184 - (r + 1))
        · rw [if_pos hj2, if_pos (by omega)]
        · rw [if_neg hj2, if_neg (by omega)]
    simp (disch := omega) only [f_X8_copyPage_3, z_lt_t, z_in, e1, ih]
theorem r_copyPage {N2 : Nat} {F F2 : Nat → Int} {x1 x3 : Int} (h1 : 0 ≤ x1 ∧ x1 + 184 ≤ N ∧ N ≤ 3000) (h3 : 0 ≤ x3 ∧ x3 + 184 ≤ N2 ∧ N2 ≤ 3000) : f_X8_copyPage N N2 F F2 x1 x3 = some (va_cpy F F2 x1.toNat x3.toNat 184) := by
  have := r_cp_loop (F := F) h1 h3 F2 184 fuel 0 rfl (Nat.le_refl _) (by unfold fuel; omega)
  unfold f_X8_copyPage
  rw [show (F2 : Nat → Int) = va_cpy F F2 x1.toNat x3.toNat (184 - 184) from by
    funext j
    simp only [va_cpy]
    rw [if_neg (by omega)]]
  rw [this]
  congr 1
  funext j
  simp only [va_cpy]
  split
  · rfl
  · rw [if_neg (by omega)]
end zrz
