/-! the reference's whole numbers: copied, compared, bit by bit, divided -/
def Kl (l s l' s' : Nat → Int32) (rs : List Nat) : Prop := (∀ x, x ∉ rs → s' x = s x) ∧ ∀ x, (∀ r ∈ rs, ¬ (440 * r ≤ x ∧ x < 440 * r + 440)) → l' x = l x
theorem Kl.trans {l s l' s' l'' s'' : Nat → Int32} {rs : List Nat} (h : Kl l s l' s' rs) (h' : Kl l' s' l'' s'' rs) : Kl l s l'' s'' rs := ⟨fun x hx => (h'.1 x hx).trans (h.1 x hx), fun x hx => (h'.2 x hx).trans (h.2 x hx)⟩
theorem Kl.rfl {l s : Nat → Int32} {rs : List Nat} : Kl l s l s rs := ⟨fun _ _ => Eq.refl _, fun _ _ => Eq.refl _⟩
section GC
variable {I : Nat → Nat → Int32} {J : Nat → Nat → Int64} {R : Nat → Nat → Option Nat} {l s v : Nat → Int32}
end GC
