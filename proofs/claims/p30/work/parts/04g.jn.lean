/-! joins, loops' fuel -/
def jn {α ρ : Type} (k : α → Option ρ) (body : (α → Option ρ) → Option ρ) : Option ρ := body k
theorem jn_use {α ρ : Type} {k : α → Option ρ} {body : (α → Option ρ) → Option ρ} {r : ρ} {P : α → Prop} {G : Prop} (h : jn k body = some r) (hk : ∀ x, k x = some r → P x) (main : ∀ k' : α → Option ρ, (∀ x, k' x = some r → P x) → body k' = some r → G) : G := main k hk h
def fuel : Nat := 4000
theorem q_14 {a : Int} (h : 0 ≤ a ∧ a < ((14 : Nat) : Int) ∧ a ≤ 2147483647) : a = 0 ∨ a = 1 ∨ a = 2 ∨ a = 3 ∨ a = 4 ∨ a = 5 ∨ a = 6 ∨ a = 7 ∨ a = 8 ∨ a = 9 ∨ a = 10 ∨ a = 11 ∨ a = 12 ∨ a = 13 := by omega
section QN
variable {D : va_G} {cs : q_CS} {κ : q_X} {cc : ByteArray} {n cl sl : Nat} {own : String} {rm : Room} {ws : va_W} {lv : List (Nat × Value)} {pc : Nat} {st : List Value}
theorem j_ifnull {x : Nat} {off : Int} (ok : q_ok D cs κ cc n own rm) (hdg : decode cc pc = .ok (.ifnull off, 3)) (k : q_J D κ n cl sl ws lv (pc + 3) st) : q_J D κ n cl sl ws lv pc (.ref x :: st) := by
  obtain ⟨p, l, e, R, s, m, args, below, meth, c, A, Q⟩ := κ
  obtain ⟨hx, hb, hml, hown, hE, hA, hR⟩ := ok
  intro H locs ls hP hD hS hl
  exact lv_ifnull hx hb hdg (k H locs ls hP hD hS hl)
end QN
