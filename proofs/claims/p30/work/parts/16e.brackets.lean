/-! the reader: a bracket is closed, in the class -/
def zcm (sc br : Int) : List Int := if br = 4 ∨ sc = 0 then [10 + br] else []
def zcs (sc : Int) : List Int := if sc = 0 then [] else [10 + sc]
theorem c_closeMark {n sc k : Int} {M : Nat → Int} {C : List Int} (H : zCx 360 n M C) (hl : C.length + 1 ≤ 360) (hk : k = 4 ∨ k = 5) : ∃ n' M', (((k = 4 ∨ sc = 0) ∧ f_X3_add 360 n M (10 + k) = some (n', M')) ∨ (¬ (k = 4 ∨ sc = 0) ∧ n' = n ∧ M' = M)) ∧ zCx 360 n' M' (C ++ zcm sc k) := by
  by_cases h : k = 4 ∨ sc = 0
  · obtain ⟨M', a1, a2⟩ := c_add H (m := 10 + k) (by unfold zv; omega) (by omega)
    exact ⟨n + 1, M', Or.inl ⟨h, a1⟩, by unfold zcm; rw [if_pos h]; exact a2⟩
  · exact ⟨n, M, Or.inr ⟨h, rfl, rfl⟩, by unfold zcm; rw [if_neg h, List.append_nil]; exact H⟩
theorem zcm_len {sc k : Int} : (zcm sc k).length ≤ 1 := by
  unfold zcm; split <;> simp
theorem c_closeB {top st br ch fa un0 pl sc0 bo0 n b un sc bo : Int} {S M : Nat → Int} {K : List zLv} {G N F C : List Int} (hw : zwl G N F un sc bo) (hK : K.length ≤ 118) (ht : top = 6 * (K.length : Int) + 6) (hS : zksC S ((b, G, N, F, un, sc, bo) :: K)) (H : zCx 360 n M C) (hl : C.length + 2 ≤ 360) (hk : br = 4 ∨ br = 5) : ∃ ch' fa' n' M', f_X5_closesBracket top st br ch fa un0 pl sc0 bo0 n S M = some (1, top - 6, if sc = 0 then 1 else bo, b, ch', fa', un, if sc = 0 then (if br = 5 then 1 else 0) else 0, 0, bo, n', M') ∧ zCx 360 n' M' (C ++ (zcm sc br ++ zcs sc)) ∧ (sc = 0 ∨ bo = 1 → ch' = ((zpre K b).length : Int) + G.length ∧ fa' = ((zpre K b).length : Int) + (zlh un G N).length) := by
  obtain ⟨-, hu, hb, hs, -, -⟩ := hw
  obtain ⟨⟨s0, s3, s4, s5⟩, s1, -⟩ := hS
  have hz := zcm_len (sc := sc) (k := br)
  obtain ⟨n1, M1, a1, a2⟩ := c_closeMark (sc := sc) H (by omega) hk
  obtain ⟨n2, M2, e1, e2⟩ := c_endBase (st := st) (pl := pl) (x := if br = 5 then 1 else 0) (bo := bo) a2 hs hb (by split <;> omega) (by simp; omega)
  have i1 := c_isItem (sc := sc) (k := br) (by omega) hk
  have p5 := c_pop (S := S) (t := top) (6 * K.length + 5) (by omega) (by omega)
  have p4 := c_pop (S := S) (t := top - 1) (6 * K.length + 4) (by omega) (by omega)
  have p3 := c_pop (S := S) (t := top - 1 - 1) (6 * K.length + 3) (by omega) (by omega)
  have p2 := c_pop (S := S) (t := top - 1 - 1 - 1) (6 * K.length + 2) (by omega) (by omega)
  have p1 := c_pop (S := S) (t := top - 1 - 1 - 1 - 1) (6 * K.length + 1) (by omega) (by omega)
  have p0 := c_pop (S := S) (t := top - 1 - 1 - 1 - 1 - 1) (6 * K.length) (by omega) (by omega)
  rw [s5] at p5
  rw [s4] at p4
  rw [s3] at p3
  rw [s0] at p0
  refine ⟨S (6 * K.length + 1), S (6 * K.length + 2), n2, M2, ?_, by simpa [zcs] using e2, s1⟩
  unfold f_X5_closesBracket
  rw [show top - 6 = top - 1 - 1 - 1 - 1 - 1 - 1 by omega]
  rcases a1 with ⟨h, a1⟩ | ⟨h, g1, g2⟩
  · rw [if_pos h] at i1
    by_cases h5 : br = 5
    · rw [if_pos h5] at e1 ⊢
      rcases hu with hu | hu <;> rcases hb with hb | hb <;> subst hu hb <;> simp (disch := omega) only [p0, p1, p2, p3, p4, p5, z_bd, z_jn, z_eq_t, z_eq_f, z_gB, i1, a1, e1]
    · rw [if_neg h5] at e1 ⊢
      rcases hu with hu | hu <;> rcases hb with hb | hb <;> subst hu hb <;> simp (disch := omega) only [p0, p1, p2, p3, p4, p5, z_bd, z_jn, z_eq_t, z_eq_f, z_gB, i1, a1, e1]
  · rw [if_neg h] at i1
    subst g1 g2
    by_cases h5 : br = 5
    · rw [if_pos h5] at e1 ⊢
      rcases hu with hu | hu <;> rcases hb with hb | hb <;> subst hu hb <;> simp (disch := omega) only [p0, p1, p2, p3, p4, p5, z_bd, z_jn, z_eq_t, z_eq_f, z_gB, i1, e1]
    · exfalso; omega
