/-! joins, loops' fuel -/
def jn {α ρ : Type} (k : α → Option ρ) (body : (α → Option ρ) → Option ρ) : Option ρ := body k
theorem jn_use {α ρ : Type} {k : α → Option ρ} {body : (α → Option ρ) → Option ρ} {r : ρ} {P : α → Prop} {G : Prop} (h : jn k body = some r) (hk : ∀ x, k x = some r → P x) (main : ∀ k' : α → Option ρ, (∀ x, k' x = some r → P x) → body k' = some r → G) : G := main k hk h
def fuel : Nat := 4000
