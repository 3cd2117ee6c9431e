/-! calls: step, simplify -/
section OST
variable {I : Nat → Nat → Int32} {J : Nat → Nat → Int64} {R : Nat → Nat → Option Nat} {t : GT} {s : GS} {b : GB} {n : GN} {f : GF} {v : GV} {q : Nat → GV} {p : GT} {r : GR} {h : GH} {β : Type}
/-- the tree with a number -/
def shT (s : GS) (k : Nat) : Tt := (s.2.1 k, s.2.2.1 k, s.2.2.2 k)
/-- what steps leave on the class's side -/
def StC (J : Nat → Nat → Int64) (R : Nat → Nat → Option Nat) (Z : List (Nat × Nat) × Tt) (e : Int32) (I : Nat → Nat → Int32) (t : GT) (s : GS) (b : GB) (n : GN) (f : GF) (v : GV) (q : Nat → GV) (p : GT) (h : GH) (y : (Int32 ⊕ String) × xM) : Prop := ∃ I', (∀ a k, 4561 ≤ a → I' a k = I a k) ∧ ((Z.1.length = 0 ∧ y = (.inl e, mg (4562 + zn J) I' J R) ∧ InvC I' t s b n f v q p (trG Z.1) h) ∨ (Z.1.length ≠ 0 ∧ y = (.inl (Int32.ofNat (s.1)), mg (4562 + zn J) I' J R) ∧ InvC I' t (sPush s Z.2.1 Z.2.2.1 Z.2.2.2) b n f v q p (trG Z.1) (hShelf h)))
/-- the class, behind its steps -/
theorem C_stepTail {k M : Nat} {e : Int32} (hR : RA R) (hC : InvC I t s b n f v q p r h) (hO : OKH s b f h) (hk : k < s.1) (h30 : s.1 < 30) (hM : M ≤ 80) : QK ((f_X11_takeSteps (mg (4562 + zn J) I J R) 0 (70 + 8 * k) (Int32.ofNat (M))).bind (fun p5 => (if p5.1 = (0 : Int32) then some ((Sum.inl e : Int32 ⊕ String), p5.2) else (gR p5.2 0 11 2).bind (fun x6 => (gR p5.2 0 11 12).bind (fun x7 => (if xk p5.2 x6 1 = true then (f_X1_shelve p5.2 x6 x7).bind (fun p8 => some ((Sum.inl p8.1 : Int32 ⊕ String), p8.2)) else none)))))) (StC J R (stN b M (shT s k)) e I t s b n f v q p h) := by
  have hT : TtO b (shT s k) := tro_of hC hO hk
  have hOb := (OKH_top hO).1
  have ct := hC.2.1.2.2 k hk
  have n80 := (CT_n ct).2
  refine q_bind (C_takeSteps (T := shT s k) hR hOb hC.2.2.1 (by omega) ct hT hM) ?_
  rintro _ ⟨I1, rfl, f1, t1, A1⟩
  obtain ⟨z1, z2, z3⟩ := stN_O hOb M (shT s k) hT n80
  have l80 : (stN b M (shT s k)).1.length ≤ 80 := by
    have : (shT s k).1 ≤ 80 := n80
    omega
  have hC1 : InvC I1 t s b n f v q p (trG (stN b M (shT s k)).1) h := C_traced hC (fun x hx y0 y1 y2 => by
    funext j
    exact f1 x j (by unfold DC at hx; unfold Sts St; omega)) (fun j hj => f1 0 j (by unfold Sts St; omega)) (TrS_CTr t1 l80)
  have k1 : ∀ a k, 4561 ≤ a → I1 a k = I a k := fun a k ha => f1 a k (by unfold Sts St; omega)
  dsimp only
  by_cases q0 : (stN b M (shT s k)).1.length = 0
  · rw [if_pos (show (Int32.ofNat ((stN b M (shT s k)).1.length)) = (0 : Int32) by rw [q0]; rfl)]
    exact q_ok ⟨I1, k1, Or.inl ⟨q0, rfl, hC1⟩⟩
  · rw [if_neg (show ¬ (Int32.ofNat ((stN b M (shT s k)).1.length)) = (0 : Int32) from i32_ne (b := 0) (by omega) (by omega) q0), gr_0_2 hR, gr_0_12 hR, if_pos ok_11]
    refine q_bind (C_shelve hR hC1 A1 h30 (by omega)) ?_
    rintro _ ⟨I2, rfl, hC2, f2⟩
    exact q_ok ⟨I2, fun a k ha => by rw [f2 a (by omega), k1 a k ha], Or.inr ⟨q0, rfl, hC2⟩⟩
end OST
