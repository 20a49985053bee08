/-! the memory at the start -/
def zb_I : jb_Mi := fun a j => if (a = 4 ∨ a = 14 ∨ a = 24) ∧ j = 11 then 1 else if a = 80 ∧ j = 148 then 1 else if a = 80 ∧ 18 ≤ j ∧ j < 42 then (-1) else 0
def zb_init (M : jb_Mi) : Prop := ∀ a, 1 ≤ a → a ≤ 112 → M a = zb_I a
