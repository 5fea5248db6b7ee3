/-! the reader: brackets, in the class -/
theorem c_push {t x : Int} {S : Nat → Int} (p : Nat) (ht : t = (p : Int)) (hp : p < 720) : f_X5_push t S x = some (t + 1, va_up S p x) := by
  subst ht
  unfold f_X5_push
  simp (disch := omega) only [z_jn, z_lt_f, z_lt_t, z_in, Int.toNat_natCast]
theorem c_pop {t : Int} {S : Nat → Int} (p : Nat) (ht : t = (p : Int) + 1) (hp : p < 720) : f_X5_pop t S = some (S p, t - 1) := by
  have e : (t - 1).toNat = p := by omega
  unfold f_X5_pop
  simp (disch := omega) only [z_jn, z_lt_f, z_lt_t, z_in, e]
theorem c_isItem {sc k : Int} (hs : 0 ≤ sc ∧ sc ≤ 3) (hk : k = 4 ∨ k = 5) : f_X5_isItem sc k = some (if k = 4 ∨ sc = 0 then 1 else 0) := by
  unfold f_X5_isItem
  by_cases h1 : k = 4
  · rw [if_pos (Or.inl h1)]
    simp (disch := omega) only [z_jn, z_eq_t, z_gB]
  · by_cases h2 : sc = 0
    · rw [if_pos (Or.inr h2)]
      simp (disch := omega) only [z_jn, z_eq_t, z_eq_f, z_gB]
    · rw [if_neg (by omega)]
      simp (disch := omega) only [z_jn, z_eq_f, z_gB]
/-- the kind of a bracket is said, where it makes an item of its own -/
theorem c_openMark {n sc k : Int} {M : Nat → Int} {C : List Int} (H : zCx 360 n M C) (hl : C.length + 1 ≤ 360) (hk : k = 4 ∨ k = 5) : ∃ n' M', (((k = 4 ∨ sc = 0) ∧ f_X3_add 360 n M k = some (n', M')) ∨ (¬ (k = 4 ∨ sc = 0) ∧ n' = n ∧ M' = M)) ∧ zCx 360 n' M' (C ++ zom sc k) := by
  by_cases h : k = 4 ∨ sc = 0
  · obtain ⟨M', a1, a2⟩ := c_add H (m := k) (by unfold zv; omega) (by omega)
    exact ⟨n + 1, M', Or.inl ⟨h, a1⟩, by unfold zom; rw [if_pos h]; exact a2⟩
  · exact ⟨n, M, Or.inr ⟨h, rfl, rfl⟩, by unfold zom; rw [if_neg h, List.append_nil]; exact H⟩
def zp6 (S : Nat → Int) (p : Nat) (a b c d e f : Int) : Nat → Int := va_up (va_up (va_up (va_up (va_up (va_up S p a) (p + 1) b) (p + 2) c) (p + 3) d) (p + 4) e) (p + 5) f
theorem c_open {top st br ch fa un pl sc bo n k : Int} {S M : Nat → Int} {K : List zLv} {G N F : List Int} (hw : zwl G N F un sc bo) (hK : K.length ≤ 119) (ht : top = 6 * (K.length : Int)) (hS : zksC S K) (H : zCx 360 n M (zpre K br ++ (zlh un G N ++ (F ++ zct sc)))) (hl : (zpre K br ++ (zlh un G N ++ (F ++ zct sc))).length + 1 ≤ 360) (hp : sc = 0 ∨ bo = 1 → ch = ((zpre K br).length : Int) + G.length ∧ fa = ((zpre K br).length : Int) + (zlh un G N).length) (hk : k = 4 ∨ k = 5) : ∃ n' S' M', f_X5_opensBracket top st br ch fa un pl sc bo n S M k = some (1, top + 6, 0, k, n', n', 0, 0, 0, 0, n', S', M') ∧ zCx 360 n' M' (zpre ((br, G, N, F, un, sc, bo) :: K) k) ∧ zksC S' ((br, G, N, F, un, sc, bo) :: K) := by
  obtain ⟨-, hu, hb, hs, -, -⟩ := hw
  obtain ⟨n', M', a1, a2⟩ := c_openMark (sc := sc) H hl hk
  have i1 := c_isItem (sc := sc) (k := k) (by omega) hk
  have p0 := c_push (S := S) (x := br) (t := top) (6 * K.length) (by omega) (by omega)
  have p1 := c_push (S := va_up S (6 * K.length) br) (x := ch) (t := top + 1) (6 * K.length + 1) (by omega) (by omega)
  have p2 := c_push (S := va_up (va_up S (6 * K.length) br) (6 * K.length + 1) ch) (x := fa) (t := top + 1 + 1) (6 * K.length + 2) (by omega) (by omega)
  have p3 := c_push (S := va_up (va_up (va_up S (6 * K.length) br) (6 * K.length + 1) ch) (6 * K.length + 2) fa) (x := un) (t := top + 1 + 1 + 1) (6 * K.length + 3) (by omega) (by omega)
  have p4 := c_push (S := va_up (va_up (va_up (va_up S (6 * K.length) br) (6 * K.length + 1) ch) (6 * K.length + 2) fa) (6 * K.length + 3) un) (x := sc) (t := top + 1 + 1 + 1 + 1) (6 * K.length + 4) (by omega) (by omega)
  have p5 := c_push (S := va_up (va_up (va_up (va_up (va_up S (6 * K.length) br) (6 * K.length + 1) ch) (6 * K.length + 2) fa) (6 * K.length + 3) un) (6 * K.length + 4) sc) (x := bo) (t := top + 1 + 1 + 1 + 1 + 1) (6 * K.length + 5) (by omega) (by omega)
  refine ⟨n', zp6 S (6 * K.length) br ch fa un sc bo, M', ?_, by simpa [zpre] using a2, ⟨⟨?_, ?_, ?_, ?_⟩, fun h => ⟨?_, ?_⟩, hS.cg fun j hj => ?_⟩⟩ <;> unfold zp6
  · have fin : ∀ (z : Int × (Nat → Int)), (bd (f_X5_push top S br) (fun r5 => bd (f_X5_push r5.1 r5.2 ch) (fun r6 => bd (f_X5_push r6.1 r6.2 fa) (fun r7 => jn (fun (z9 : Int) => bd (f_X5_push r7.1 r7.2 z9) (fun r10 => bd (f_X5_push r10.1 r10.2 sc) (fun r11 => jn (fun (z13 : Int) => bd (f_X5_push r11.1 r11.2 z13) (fun r14 => bd (f_X5_beginText st ch fa un pl sc bo z.1) (fun r15 => gB 1 (some ((1 : Int), r14.1, r15.1, k, r15.2.1, r15.2.2.1, r15.2.2.2.1, r15.2.2.2.2.1, r15.2.2.2.2.2.1, r15.2.2.2.2.2.2, z.1, r14.2, z.2))))) (fun k12 => cEq bo 0 (k12 0) (k12 1))))) (fun k8 => cEq un 0 (k8 0) (k8 1)))))) = some (1, top + 1 + 1 + 1 + 1 + 1 + 1, 0, k, z.1, z.1, 0, 0, 0, 0, z.1, va_up (va_up (va_up (va_up (va_up (va_up S (6 * K.length) br) (6 * K.length + 1) ch) (6 * K.length + 2) fa) (6 * K.length + 3) un) (6 * K.length + 4) sc) (6 * K.length + 5) bo, z.2) := by
      intro z
      unfold f_X5_beginText
      rcases hu with hu | hu <;> rcases hb with hb | hb <;> subst hu hb <;> simp (disch := omega) only [p0, p1, p2, p3, p4, p5, z_bd, z_jn, z_eq_t, z_eq_f, z_gB]
    unfold f_X5_opensBracket
    rw [z_lt_f (by omega), i1, z_bd, z_jn]
    rw [show top + 6 = top + 1 + 1 + 1 + 1 + 1 + 1 by omega]
    rcases a1 with ⟨h, a1⟩ | ⟨h, e1, e2⟩
    · rw [if_pos h, z_eq_f (by omega), a1, z_bd]
      exact fin (n', M')
    · subst e1 e2
      rw [if_neg h, z_eq_t (by omega)]
      exact fin (n', M')
  · simp (disch := omega) only [zup_ne, zup_eq]
  · simp (disch := omega) only [zup_ne, zup_eq]
  · simp (disch := omega) only [zup_ne, zup_eq]
  · simp (disch := omega) only [zup_ne, zup_eq]
  · simp (disch := omega) only [zup_ne, zup_eq]; exact (hp h).1
  · simp (disch := omega) only [zup_ne, zup_eq]; exact (hp h).2
  · simp (disch := omega) only [zup_ne]
theorem c_endBase {st pl sc bo n x : Int} {M : Nat → Int} {C : List Int} (H : zCx 360 n M C) (hs : sc = 0 ∨ sc = 2 ∨ sc = 3) (hb : bo = 0 ∨ bo = 1) (hx : x = 0 ∨ x = 1) (hl : C.length + 1 ≤ 360) : ∃ n' M', f_X5_endBase st pl sc bo n M x = some (if sc = 0 then 1 else bo, if sc = 0 then x else 0, 0, n', M') ∧ zCx 360 n' M' (C ++ (if sc = 0 then [] else [10 + sc])) := by
  by_cases h : sc = 0
  · subst h
    refine ⟨n, M, ?_, by rw [if_pos rfl, List.append_nil]; exact H⟩
    unfold f_X5_endBase
    rw [if_pos rfl, if_pos rfl]
    simp (disch := omega) only [z_eq_t, z_gB]
  · obtain ⟨M', a1, a2⟩ := c_add H (m := 10 + sc) (by unfold zv; omega) (by omega)
    refine ⟨n + 1, M', ?_, by rw [if_neg h]; exact a2⟩
    unfold f_X5_endBase
    rw [if_neg h, if_neg h]
    rcases hb with hb | hb <;> subst hb <;> simp (disch := omega) only [z_eq_f, z_eq_t, z_gB, a1, z_bd, z_jn]
