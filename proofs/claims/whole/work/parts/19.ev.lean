abbrev pm_D (v : Option pm_V) (M' : pm_M) : Option pm_V → pm_M → Prop := fun v1 M1 => v1 = v ∧ M1 = M'
/-- the method answers v and leaves M' -/
def pm_Ev (mi : pm_MI) (as : List pm_V) (M : pm_M) (v : Option pm_V) (M' : pm_M) : Prop := pm_Sem mi as M (pm_D v M')
theorem pm_G_ite {mi : pm_MI} {c : Prop} [Decidable c] {a b : Nat} {ls : pm_L} {st : List pm_V} {M : pm_M} {Q : Option pm_V → pm_M → Prop} (h1 : c → pm_G mi a ls st M Q) (h2 : ¬ c → pm_G mi b ls st M Q) : pm_G mi (if c then a else b) ls st M Q := by
  by_cases h : c
  · rw [if_pos h]; exact h1 h
  · rw [if_neg h]; exact h2 h
