/-! the reader: one sign more, in the class -/
section zst5
variable {top st br ch fa un pl sc bo n c un1 pl1 n1 n2 st3 pl3 sc3 n3 ok top3 br3 ch3 fa3 un3 bo3 : Int} {S M M1 M2 M3 S3 : Nat → Int}
theorem c_isld (hm : zld c) : (f_X7_isLetter c = some 1) ∨ (f_X7_isLetter c = some 0 ∧ f_X7_isDigit c = some 1) := by
  have hr : -2147483648 ≤ c ∧ c ≤ 2147483647 := by unfold zld at hm; omega
  rcases hm with hm | hm
  · left; rw [c_le hr]; unfold zle; rw [decide_eq_true hm]; rfl
  · right
    constructor
    · rw [c_le hr]; unfold zle; rw [decide_eq_false (by omega)]; rfl
    · rw [c_di hr]; unfold zdi; rw [decide_eq_true hm]; rfl
theorem c_nold (h : ¬ zld c) (hr : 0 ≤ c ∧ c ≤ 255) : f_X7_isLetter c = some 0 ∧ f_X7_isDigit c = some 0 := by
  unfold zld at h
  constructor
  · rw [c_le (by omega)]; unfold zle; rw [decide_eq_false (by omega)]; rfl
  · rw [c_di (by omega)]; unfold zdi; rw [decide_eq_false (by omega)]; rfl
theorem c_noop (hr : 0 ≤ c ∧ c ≤ 255) (h : ¬ (c = 43 ∨ c = 45 ∨ c = 42 ∨ c = 61 ∨ c = 44 ∨ c = 46)) : f_X7_isOperator c = some 0 := by
  rw [c_mk (by omega)]; unfold zmk; rw [decide_eq_false h]; rfl
theorem c_bs_item (hm : zld c) (had : f_X3_add 360 n M c = some (n2, M2)) (heb : f_X5_endBase st pl sc bo n2 M2 0 = some (st3, pl3, sc3, n3, M3)) : f_X5_takesBase top st br ch fa un pl sc bo n S M c = some (1, top, st3, br, ch, fa, un, pl3, sc3, bo, n3, S, M3) := by
  unfold f_X5_takesBase
  rcases c_isld hm with l1 | ⟨l1, l2⟩
  · simp (disch := omega) only [l1, z_bd, z_jn, z_eq_f, had, heb, z_gB]
  · simp (disch := omega) only [l1, l2, z_bd, z_jn, z_eq_f, z_eq_t, had, heb, z_gB]
theorem c_bs_r : f_X5_takesBase top st br ch fa un pl sc bo n S M 114 = some (1, top, 3, br, ch, fa, un, pl, sc, bo, n, S, M) := by
  have l1 : f_X7_isLetter 114 = some 0 := by decide
  have l2 : f_X7_isDigit 114 = some 0 := by decide
  unfold f_X5_takesBase
  simp (disch := omega) only [l1, l2, z_bd, z_jn, z_eq_f, z_eq_t, z_gB]
theorem c_bs_open (hob : f_X5_opensBracket top st br ch fa un pl sc bo n S M 5 = some (1, top3, st3, br3, ch3, fa3, un3, pl3, sc3, bo3, n3, S3, M3)) : f_X5_takesBase top st br ch fa un pl sc bo n S M 40 = some (1, top3, st3, br3, ch3, fa3, un3, pl3, sc3, bo3, n3, S3, M3) := by
  have l1 : f_X7_isLetter 40 = some 0 := by decide
  have l2 : f_X7_isDigit 40 = some 0 := by decide
  unfold f_X5_takesBase
  simp (disch := omega) only [l1, l2, z_bd, z_jn, z_eq_f, z_eq_t, z_gB, hob]
theorem c_bs_no (hr : 0 ≤ c ∧ c ≤ 255) (hm : ¬ zld c) (h2 : c ≠ 40 ∧ c ≠ 114) : f_X5_takesBase top st br ch fa un pl sc bo n S M c = some (0, top, st, br, ch, fa, un, pl, sc, bo, n, S, M) := by
  obtain ⟨l1, l2⟩ := c_nold hm hr
  unfold f_X5_takesBase
  simp (disch := omega) only [l1, l2, z_bd, z_jn, z_eq_f, z_eq_t, z_gB]
theorem c_tk_base (hst : st = 2) (hb : f_X5_takesBase top 2 br ch fa un pl sc bo n S M c = some (ok, top3, st3, br3, ch3, fa3, un3, pl3, sc3, bo3, n3, S3, M3)) (hok : ok = 0 ∨ ok = 1) : f_X5_takes top st br ch fa un pl sc bo n S M c = some (ok, top3, st3, br3, ch3, fa3, un3, pl3, sc3, bo3, n3, S3, M3) := by
  subst hst
  unfold f_X5_takes
  rcases hok with h | h <;> subst h <;> simp (disch := omega) only [z_eq_t, hb, z_bd, z_gB]
theorem c_tk_r (hst : st = 3) (hob : f_X5_opensBracket top 3 br ch fa un pl sc bo n S M 4 = some (1, top3, st3, br3, ch3, fa3, un3, pl3, sc3, bo3, n3, S3, M3)) : f_X5_takes top st br ch fa un pl sc bo n S M 40 = some (1, top3, st3, br3, ch3, fa3, un3, pl3, sc3, bo3, n3, S3, M3) := by
  subst hst
  unfold f_X5_takes
  simp (disch := omega) only [z_eq_t, z_eq_f, hob, z_bd, z_jn, z_gB]
theorem c_tk_rno (hst : st = 3) (hr : 0 ≤ c ∧ c ≤ 255) (hc : c ≠ 40) : f_X5_takes top st br ch fa un pl sc bo n S M c = some (0, top, st, br, ch, fa, un, pl, sc, bo, n, S, M) := by
  subst hst
  unfold f_X5_takes
  simp (disch := omega) only [z_eq_t, z_eq_f, z_bd, z_jn, z_gB]
theorem c_tk_blank (hst : st = 0 ∨ st = 1) (hef : f_X5_endFactor st fa un pl n M = some (un1, pl1, n1, M1)) : f_X5_takes top st br ch fa un pl sc bo n S M 32 = some (1, top, 0, br, ch, fa, un1, pl1, sc, bo, n1, S, M1) := by
  unfold f_X5_takes f_X5_takesElement
  simp (disch := omega) only [z_eq_t, z_eq_f, z_bd, z_jn, z_gB, hef]
theorem c_tk_mark (hst : st = 0 ∨ st = 1) (hm : c = 43 ∨ c = 45 ∨ c = 42 ∨ c = 61 ∨ c = 44 ∨ c = 46) (hef : f_X5_endFactor st fa un pl n M = some (un1, pl1, n1, M1)) (had : f_X3_add 360 n1 M1 c = some (n2, M2)) : f_X5_takes top st br ch fa un pl sc bo n S M c = some (1, top, 0, br, ch, fa, un1, pl1, sc, bo, n2, S, M2) := by
  have l1 : f_X7_isOperator c = some 1 := by rcases hm with h | h | h | h | h | h <;> subst h <;> decide
  unfold f_X5_takes f_X5_takesElement
  simp (disch := omega) only [z_eq_t, z_eq_f, z_bd, z_jn, z_gB, hef, l1, had]
theorem c_tk_shut (hst : st = 0 ∨ st = 1) (hef : f_X5_endFactor st fa un pl n M = some (un1, pl1, n1, M1)) (hcb : f_X5_closesBracket top 0 br ch fa un1 pl1 sc bo n1 S M1 = some (ok, top3, st3, br3, ch3, fa3, un3, pl3, sc3, bo3, n3, M3)) (hok : ok = 0 ∨ ok = 1) : f_X5_takes top st br ch fa un pl sc bo n S M 41 = some (ok, top3, st3, br3, ch3, fa3, un3, pl3, sc3, bo3, n3, S, M3) := by
  have l1 : f_X7_isOperator 41 = some 0 := by decide
  unfold f_X5_takes f_X5_takesElement
  rcases hok with h | h <;> subst h <;> simp (disch := omega) only [z_eq_t, z_eq_f, z_bd, z_jn, z_gB, hef, l1, hcb]
theorem c_shut_no : f_X5_closesBracket top st 0 ch fa un pl sc bo n S M = some (0, top, st, 0, ch, fa, un, pl, sc, bo, n, M) := by
  unfold f_X5_closesBracket
  simp (disch := omega) only [z_eq_t, z_gB]
theorem c_tk_elem (hst : st = 0 ∨ st = 1) (hr : 0 ≤ c ∧ c ≤ 255) (hc : c ≠ 32 ∧ c ≠ 41 ∧ c ≠ 94 ∧ c ≠ 95 ∧ c ≠ 47) (hm : ¬ (c = 43 ∨ c = 45 ∨ c = 42 ∨ c = 61 ∨ c = 44 ∨ c = 46)) (hef : f_X5_endFactor st fa un pl n M = some (un1, pl1, n1, M1)) (hb : f_X5_takesBase top 0 br n1 n1 un1 pl1 sc bo n1 S M1 c = some (ok, top3, st3, br3, ch3, fa3, un3, pl3, sc3, bo3, n3, S3, M3)) (hok : ok = 0 ∨ ok = 1) : f_X5_takes top st br ch fa un pl sc bo n S M c = some (ok, top3, st3, br3, ch3, fa3, un3, pl3, sc3, bo3, n3, S3, M3) := by
  have l1 := c_noop hr hm
  unfold f_X5_takes f_X5_takesElement
  rcases hok with h | h <;> subst h <;> simp (disch := omega) only [z_eq_t, z_eq_f, z_bd, z_jn, z_gB, hef, l1, hb]
theorem c_tk_script {k : Int} (hst : st = 0 ∨ st = 1) (hk : (c = 94 ∧ k = 2) ∨ (c = 95 ∧ k = 3)) (had : f_X3_add 360 n M k = some (n2, M2)) : f_X5_takes top st br ch fa un pl sc bo n S M c = some (1, top, 2, br, ch, fa, un, pl, k, st, n2, S, M2) := by
  unfold f_X5_takes f_X5_beginScript
  rcases hst with h | h <;> subst h <;> rcases hk with ⟨h1, h2⟩ | ⟨h1, h2⟩ <;> subst h1 h2 <;> simp (disch := omega) only [z_eq_t, z_eq_f, z_bd, z_jn, z_gB, had]
theorem c_tk_line (hst : st = 1) (hd : f_X5_takesDivision st ch fa un pl n M = some (1, st3, fa3, un3, pl3, n3, M3)) : f_X5_takes top st br ch fa un pl sc bo n S M 47 = some (1, top, st3, br, ch, fa3, un3, pl3, sc, bo, n3, S, M3) := by
  unfold f_X5_takes
  simp (disch := omega) only [z_eq_t, z_eq_f, z_bd, z_jn, z_gB, hd]
theorem c_tk_lineno (hst : st = 0) : f_X5_takes top st br ch fa un pl sc bo n S M 47 = some (0, top, st, br, ch, fa, un, pl, sc, bo, n, S, M) := by
  subst hst
  unfold f_X5_takes f_X5_takesDivision
  simp (disch := omega) only [z_eq_t, z_eq_f, z_bd, z_jn, z_gB]
end zst5
