/-! what the machine asks the desk -/
section DK
variable {I : Nat → Nat → Int32} {J : Nat → Nat → Int64} {R : Nat → Nat → Option Nat} {β : Type} {b : GB} {f : GF} {s : GS}
theorem C_meaning {p fx : Nat} {m : Nat} {F : Int32 → Option β} (hR : RA R) (hC : CTb I b) (hp : p < 16) (hf : fx ≤ 2) (h0 : (b (fx * 16 + p)).1 ≠ 0) (hm : (b (fx * 16 + p)).2.2 = (Int32.ofNat (m))) : (f_X1_meaning (mg (4562 + zn J) I J R) 11 (Int32.ofNat (sgc p)) (Int32.ofNat (fx))).bind F = F (Int32.ofNat (m)) := by
  have h := sgc_ok p hp
  have e := hC.2 (fx * 16 + p) (by omega)
  have e1 : I 13 (fx * 16 + p) = (b (fx * 16 + p)).1 := congrArg (fun q => q.1) e
  have e2 : I 15 (fx * 16 + p) = (b (fx * 16 + p)).2.2 := congrArg (fun q => q.2.2) e
  unfold f_X1_meaning f_X1_meaning_j30
  rw [if_pos ok_11, c_slot1 hR hC.1 h.1 h.2 hp hf, Option.bind_some, if_neg (show ¬ (Int32.ofNat (fx * 16 + p)) < (0 : Int32) from fun y => absurd ((i32_lt (m := 0) (by omega) (by omega)).mp y) (Nat.not_lt_zero _)), gr_11_1 hR, ga_13 (by omega), e1, if_neg h0, gr_11_3 hR, ga_15 (by omega), e2, hm]
  rfl
theorem C_treeOf {k : Nat} {F : Option Nat → Option β} (hR : RA R) (H : CSh I s) (hk : k < s.1) : (f_X1_treeOf (mg (4562 + zn J) I J R) 11 (Int32.ofNat (k))).bind F = F (some (70 + 8 * k)) := by
  have h30 := H.1
  unfold f_X1_treeOf f_X1_treeOf_j28
  rw [if_neg (show ¬ (Int32.ofNat (k)) < (0 : Int32) from fun y => absurd ((i32_lt (m := 0) (by omega) (by omega)).mp y) (Nat.not_lt_zero _)), gi_11, H.2.1, if_neg (show ¬ (Int32.ofNat (s.1)) ≤ (Int32.ofNat (k)) from fun y => absurd ((i32_le (by omega) (by omega)).mp y) (by omega)), if_pos (show (Int32.ofNat (k)) < (30 : Int32) from (i32_lt (m := 30) (by omega) (by omega)).mpr (by omega)), gr_11_4 hR, g_shelf hR (by omega)]
  rfl
theorem C_treeOf0 {F : Option Nat → Option β} : (f_X1_treeOf (mg (4562 + zn J) I J R) 11 (-1)).bind F = F none := by
  unfold f_X1_treeOf f_X1_treeOf_j18 f_X1_treeOf_j28
  rw [if_pos (by first | decide | omega)]
  rfl
theorem C_condOf {l k : Nat} {F : Option Nat → Option β} (hR : RA R) (hF : CFn I f) (hS : CSh I s) (hO : FnOK s.1 s.2.1 (f l)) (hl : l < 26) (hk : k < casN f l) : (f_X1_conditionOf (mg (4562 + zn J) I J R) 11 (Int32.ofNat (l)) (Int32.ofNat (k))).bind F = F (match cndN f l k with
    | none => none
    | some t => some (70 + 8 * t)) := by
  obtain ⟨-, e1, c4, fk⟩ := fn_c hO hS.1
  have hk' : k < (f l 1).toNatClampNeg := hk
  obtain ⟨ck, -⟩ := fk k hk'
  have row := hF l (2 + k) hl (by omega)
  unfold f_X1_conditionOf f_X1_conditionOf_j31
  rw [if_neg (show ¬ (Int32.ofNat (k)) < (0 : Int32) from fun y => absurd ((i32_lt (m := 0) (by omega) (by omega)).mp y) (Nat.not_lt_zero _)), if_pos ok_11, c_cases hR hF hl, e1, if_pos (show (Int32.ofNat (k)) < (Int32.ofNat ((f l 1).toNatClampNeg)) from (i32_lt (by omega) (by omega)).mpr hk'), gr_11_8 hR, g_fun hR hl, show (2 : Int32) + (Int32.ofNat (k)) = (Int32.ofNat (2 + k)) from n_add 2 k, ga_fn ⟨hl, by omega⟩, row, if_pos ok_11]
  rcases ck with z | ⟨z, z1, z2, z3⟩
  · have ec : cndN f l k = none := if_pos z
    rw [ec, z, C_treeOf0]
    rfl
  · have ec : cndN f l k = some (f l (2 + k)).toNatClampNeg := if_neg z
    rw [ec, z1, i32_nat (by have := hS.1; omega), C_treeOf hR hS z2]
    rfl
theorem C_valOf {l k : Nat} {F : Option Nat → Option β} (hR : RA R) (hF : CFn I f) (hS : CSh I s) (hO : FnOK s.1 s.2.1 (f l)) (hl : l < 26) (hk : k < casN f l) : (f_X1_valueOf (mg (4562 + zn J) I J R) 11 (Int32.ofNat (l)) (Int32.ofNat (k))).bind F = F (some (70 + 8 * valN f l k)) := by
  obtain ⟨-, e1, c4, fk⟩ := fn_c hO hS.1
  have hk' : k < (f l 1).toNatClampNeg := hk
  obtain ⟨-, z1, z2, z3⟩ := fk k hk'
  have row := hF l (6 + k) hl (by omega)
  unfold f_X1_valueOf f_X1_valueOf_j32
  rw [if_neg (show ¬ (Int32.ofNat (k)) < (0 : Int32) from fun y => absurd ((i32_lt (m := 0) (by omega) (by omega)).mp y) (Nat.not_lt_zero _)), if_pos ok_11, c_cases hR hF hl, e1, if_pos (show (Int32.ofNat (k)) < (Int32.ofNat ((f l 1).toNatClampNeg)) from (i32_lt (by omega) (by omega)).mpr hk'), gr_11_8 hR, g_fun hR hl, show (6 : Int32) + (Int32.ofNat (k)) = (Int32.ofNat (6 + k)) from n_add 6 k, ga_fn ⟨hl, by omega⟩, row, if_pos ok_11]
  unfold valN
  rw [z1, i32_nat (by have := hS.1; omega), C_treeOf hR hS z2]
  rfl
end DK
