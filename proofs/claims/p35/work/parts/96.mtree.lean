/-! the reference's trees -/
def FrK (S : Nat → Nat → Prop) (I I' : Nat → Nat → Int32) : Prop := ∀ a k, ¬ S a k → I' a k = I a k
theorem FrK_rfl {S : Nat → Nat → Prop} {I : Nat → Nat → Int32} : FrK S I I := fun _ _ _ => rfl
theorem FrK_tr {S : Nat → Nat → Prop} {I I' I'' : Nat → Nat → Int32} (h : FrK S I I') (h' : FrK S I' I'') : FrK S I I'' := fun a k hx => (h' a k hx).trans (h a k hx)
theorem FrK_mono {S T : Nat → Nat → Prop} {I I' : Nat → Nat → Int32} (h : FrK S I I') (hs : ∀ a k, S a k → T a k) : FrK T I I' := fun a k hx => h a k (fun q => hx (hs a k q))
theorem FrK_up {S : Nat → Nat → Prop} {I I' : Nat → Nat → Int32} {a k : Nat} {v : Int32} (h : FrK S I I') (ha : S a k) : FrK S I (up I' a k v) := fun x j hx => (up_n (by
  by_cases q : x = a
  · right
    intro z
    rw [q, z] at hx
    exact hx ha
  · exact Or.inl q)).trans (h x j hx)
section MTY
variable {I : Nat → Nat → Int32} {J : Nat → Nat → Int64} {R : Nat → Nat → Option Nat} {b n : Nat} {nd : Nat → Nd} {sp : Nat → Nat} {β : Type}
end MTY
