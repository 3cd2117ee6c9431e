/-! call: answer, the reference and both -/
section AP
variable {I : Nat → Nat → Int32} {J : Nat → Nat → Int64} {R : Nat → Nat → Option Nat} {t : GT} {s : GS} {b : GB} {n : GN} {f : GF} {v : GV} {q : Nat → GV} {p p' : GT} {r : GR} {h : GH} {β : Type}
def ansT (fr : Nat) (l : List Nat) : GT := (l.length, fun k => if k < fr then (Int32.ofNat (tF l k)) else (Int32.ofNat (tF l (fr + l.length - 1 - k))))
end AP
