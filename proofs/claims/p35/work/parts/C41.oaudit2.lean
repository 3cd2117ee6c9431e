/-! calls: audit, the end -/
section OA2
variable {I : Nat → Nat → Int32} {J : Nat → Nat → Int64} {R : Nat → Nat → Option Nat} {t : GT} {s : GS} {b : GB} {n : GN} {f : GF} {v : GV} {q : Nat → GV} {p : GT} {r : GR} {h : GH} {k : Nat}
noncomputable def auT (b : GB) (n : GN) (f : GF) (s : GS) (T : Tt) (x : Nat) : Int32 := if x = 0 then auP b T else if x = 1 then 1 else if x = 2 then saT b n f s T else auD b n f s T
theorem auT_0 (b : GB) (n : GN) (f : GF) (s : GS) (T : Tt) : auT b n f s T 0 = auP b T := by
  unfold auT
  rw [if_pos rfl]
theorem auT_1 (b : GB) (n : GN) (f : GF) (s : GS) (T : Tt) : auT b n f s T 1 = 1 := by
  unfold auT
  rw [if_neg (by first | decide | omega), if_pos rfl]
theorem auT_2 (b : GB) (n : GN) (f : GF) (s : GS) (T : Tt) : auT b n f s T 2 = saT b n f s T := by
  unfold auT
  rw [if_neg (by first | decide | omega), if_neg (by first | decide | omega), if_pos rfl]
theorem auT_3 (b : GB) (n : GN) (f : GF) (s : GS) (T : Tt) : auT b n f s T 3 = auD b n f s T := by
  unfold auT
  rw [if_neg (by first | decide | omega), if_neg (by first | decide | omega), if_neg (by first | decide | omega)]
theorem C_audit (hR : RA R) (hC : InvC I t s b n f v q p r h) (hE : EnvOK b n f s) (hO : TbOK b) (hk : k < s.1) (hT : TtO b (shT s k)) {x : Nat} (hx : x ≤ 3) : QK (f_X11_audit (mg (4562 + zn J) I J R) 0 (Int32.ofNat (x)) (Int32.ofNat (k))) (AudC J I (auT b n f s (shT s k) x)) := by
  rcases (by omega : x = 0 ∨ x = 1 ∨ x = 2 ∨ x = 3) with rfl | rfl | rfl | rfl
  · have e0 : (Int32.ofNat (0)) = (0 : Int32) := rfl
    rw [e0, auT_0]
    exact C_audit0 hR hC hO hk hT
  · have e0 : (Int32.ofNat (1)) = (1 : Int32) := rfl
    rw [e0, auT_1]
    exact C_audit1 hR hC hE hk hT
  · have e0 : (Int32.ofNat (2)) = (2 : Int32) := rfl
    rw [e0, auT_2]
    exact C_audit2 hR hC hE hk hT
  · have e0 : (Int32.ofNat (3)) = (3 : Int32) := rfl
    rw [e0, auT_3]
    exact C_audit3 hR hC hE hk hT
end OA2
