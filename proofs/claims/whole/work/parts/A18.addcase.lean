/-! calls: addCase -/
section OM
variable {I : Nat → Nat → Int32} {J : Nat → Nat → Int64} {R : Nat → Nat → Option Nat} {t : GT} {s : GS} {b : GB} {n : GN} {f : GF} {v w : GV} {q : Nat → GV} {p : GT} {r : GR} {h : GH} {β : Type}
theorem l_addCase {w x y z : Int32} {I1 : Nat → Nat → Int32} (h : f_X11_addCase (mg 4625 I J R) 0 x y z = some (.inl w, mg 4625 I1 J R)) : f_L_addCase (mg 4625 I J R) 0 x y z 4624 = some (0, mg 4625 I1 (oJ J w.toInt64) R) := by
  unfold f_L_addCase
  rw [if_pos ok_0, h, Option.bind_some, q_let, Sum.elim_inl, owJ0]
  rfl
/-- the condition: none, or a tree -/
def cdOK (s : GS) (x : Int32) : Prop := x = -1 ∨ ∃ k, k < s.1 ∧ x = (Int32.ofNat (k))
def cdS (s : GS) (x : Int32) : Prop := x = -1 ∨ ∃ k, k < s.1 ∧ x = (Int32.ofNat (k)) ∧ s.2.1 k ≤ 30
theorem C_addOK {l c j : Nat} {x : Int32} (hR : RA R) (H : InvC I t s b n f v q p r h) (hl : l < 26) (e : f l 1 = (Int32.ofNat (c))) (hc : c < 4) : QK (f_X1_addToFunction (mg 4625 I J R) 11 (Int32.ofNat (l)) x (Int32.ofNat (j))) (fun y => ∃ I', y = mg 4625 I' J R ∧ InvC I' t s b n (upF f l (rCase (f l) c x (Int32.ofNat (j)))) v q p r (hFun h f l) ∧ ∀ x, 4561 ≤ x → I' x = I x) := by
  unfold f_X1_addToFunction
  rw [if_pos ok_11, c_cases hR H.2.2.2.2.1 hl, e, if_neg (i32_nlt0 (by omega)), if_pos (show (Int32.ofNat (c)) < (4 : Int32) from (i32_lt (m := 4) (by omega) (by omega)).mpr hc), if_pos ok_11]
  obtain ⟨_, e0, I1, rfl, hC1, hF1⟩ := C_noteFunction (J := J) hR H hl
  rw [e0, Option.bind_some, gr_11_8 hR, g_fun hR hl, show (2 : Int32) + (Int32.ofNat (c)) = (Int32.ofNat (2 + c)) from n_add 2 c, show (6 : Int32) + (Int32.ofNat (c)) = (Int32.ofNat (6 + c)) from n_add 6 c, gw_fn ⟨hl, by omega⟩, gr_11_8 hR, g_fun hR hl, gw_fn ⟨hl, by omega⟩, gr_11_8 hR, g_fun hR hl, show (Int32.ofNat (c)) + 1 = (Int32.ofNat (c + 1)) from n_add c 1, show (1 : Int32) = (Int32.ofNat (1)) from rfl, gw_fn ⟨hl, by omega⟩]
  refine q_ok ⟨_, rfl, C_fnSet hC1 hl (fun x hx => by rw [up_r hx, up_r hx, up_r hx]) (fun k hk => ?_), fun x hx => by rw [up_r (by omega), up_r (by omega), up_r (by omega), hF1 x (by omega)]⟩
  by_cases k1 : k = 1
  · rw [k1, up_s, rc_1]
  · rw [up_n (by omega)]
    by_cases k6 : k = 6 + c
    · rw [k6, up_s, rc_v rfl]
    · rw [up_n (by omega)]
      by_cases k2 : k = 2 + c
      · rw [k2, up_s, rc_c rfl]
      · rw [up_n (by omega), rc_o ⟨k1, k2, k6⟩]
        exact hC1.2.2.2.2.1 l k hl hk
theorem M_addOK {l c j : Nat} {x : Int32} (hR : RA R) (H : InvM I t s b n f v q p r h) (hC : CSh I s) (h20 : h.1 ≤ 20) (hf : h.2.1 < 20) (hl : l < 26) (e : f l 1 = (Int32.ofNat (c))) (hc : c < 4) (hx : cdS s x) (hj : j < s.1 ∧ s.2.1 j ≤ 30) (h0 : I 4561 0 = 0) : QK ((f_X12_noteFunction (mg 4625 I J R) 4561 (Int32.ofNat (l))).bind (fun p10 => (if xk p10 4561 12 = true then (f_X12_layCase p10 4561 (Int32.ofNat (l)) (0 : Int32) x).bind (fun p11 => (if xk p11 4561 12 = true then (f_X12_layCase p11 4561 (Int32.ofNat (l)) (1 : Int32) (Int32.ofNat (j))).bind (fun p12 => (gR p12 4561 12 12).bind (fun x13 => (aI p12 x13 14 (Int32.ofNat (l))).bind (fun x14 => (wI p12 x13 (Int32.ofNat (l)) (x14 + (1 : Int32))).bind (fun σ15 => (gR σ15 4561 12 12).bind (fun x16 => (aI σ15 x16 14 (Int32.ofNat (l))).bind (fun x17 => some (x17, σ15))))))) else none)) else none))) (fun y => ∃ I', y = ((Int32.ofNat (c + 1)), mg 4625 I' J R) ∧ InvM I' t s b n (upF f l (rCase (f l) c x (Int32.ofNat (j)))) v q p r (hFun h f l) ∧ (∀ a k, a < 4561 → I' a k = I a k) ∧ I' 4561 0 = 0) := by
  refine q_bind (M_noteFunction hR H hC h20 hf hl) ?_
  rintro _ ⟨I4, rfl, hM4, k1, k2⟩
  have hC4 : CSh I4 s := CSh_keep hC (fun x hx => funext (fun k => k1 x k (by omega)))
  have h30 := hC.1
  have fm := hM4.2.2.2.2.1 l hl
  have e2 : I4 4572 l = (Int32.ofNat (c)) := fm.2.1.trans e
  rw [if_pos ok_4561]
  have lay0 : QK (f_X12_layCase (mg 4625 I4 J R) 4561 (Int32.ofNat (l)) (0 : Int32) x) (fun r => ∃ I', r = mg 4625 I' J R ∧ FrK (Slc (8 * l + 2 * c)) I4 I' ∧ ((x = -1 ∧ I' 4573 (8 * l + 2 * c) = 0) ∨ ∃ k, k < s.1 ∧ x = (Int32.ofNat (k)) ∧ s.2.1 k ≤ 30 ∧ I' 4573 (8 * l + 2 * c) = (Int32.ofNat (s.2.1 k)) ∧ MT I' (2400 + 30 * (8 * l + 2 * c)) (s.2.1 k) (s.2.2.1 k) (s.2.2.2 k))) := by
    rcases hx with rfl | ⟨k, hk, rfl, hk2⟩
    · refine q_mono (M_layCase0 (w := 0) hR hl hc (by omega) e2) ?_
      rintro _ ⟨I', rfl, a1, a2⟩
      exact ⟨I', rfl, a1, Or.inl ⟨rfl, a2⟩⟩
    · obtain ⟨m1, m2⟩ := hM4.2.1.2 k hk
      refine q_mono (M_layCase1 (w := 0) hR hl hc (by omega) e2 (by omega) m1 hk2 m2) ?_
      rintro _ ⟨I', rfl, a1, a2, a3⟩
      exact ⟨I', rfl, a1, Or.inr ⟨k, hk, rfl, hk2, a2, a3⟩⟩
  refine q_bind lay0 ?_
  rintro _ ⟨I5, rfl, hF5, hx5⟩
  rw [if_pos ok_4561]
  have n5 : ∀ a y, ¬ (a = 4573 ∧ y = 8 * l + 2 * c) → ¬ (4565 ≤ a ∧ a ≤ 4569 ∧ 2400 + 30 * (8 * l + 2 * c) ≤ y ∧ y < 2430 + 30 * (8 * l + 2 * c)) → I5 a y = I4 a y := fun a y z1 z2 => hF5 a y (fun w => by unfold Slc at w; omega)
  obtain ⟨m1, m2⟩ := hM4.2.1.2 j hj.1
  have m3 : MT I5 (80 * j) (s.2.1 j) (s.2.2.1 j) (s.2.2.2 j) := MT_keep m2 (fun a k g1 g2 g3 g4 => n5 a k (by omega) (by omega))
  refine q_bind (M_layCase1 (w := 1) hR hl hc (by omega) (by rw [n5 _ _ (by omega) (by omega)]; exact e2) (by omega) (by rw [n5 _ _ (by omega) (by omega)]; exact m1) hj.2 m3) ?_
  rintro _ ⟨I6, rfl, hF6, y1, y2⟩
  have n6 : ∀ a y, ¬ (a = 4573 ∧ y = 8 * l + 2 * c + 1) → ¬ (4565 ≤ a ∧ a ≤ 4569 ∧ 2400 + 30 * (8 * l + 2 * c + 1) ≤ y ∧ y < 2430 + 30 * (8 * l + 2 * c + 1)) → I6 a y = I5 a y := fun a y z1 z2 => hF6 a y (fun w => by unfold Slc at w; omega)
  have e6 : I6 4572 l = (Int32.ofNat (c)) := by rw [n6 _ _ (by omega) (by omega), n5 _ _ (by omega) (by omega)]; exact e2
  rw [gr_4561_12 hR, ga_4572 hl, e6, show (Int32.ofNat (c)) + 1 = (Int32.ofNat (c + 1)) from n_add c 1, gw_4572 hl, gr_4561_12 hR, ga_4572 hl, up_s]
  have go : ∀ a y, ¬ (a = 4572 ∧ y = l) → ¬ (a = 4573 ∧ 8 * l + 2 * c ≤ y ∧ y < 8 * l + 2 * c + 2) → ¬ (4565 ≤ a ∧ a ≤ 4569 ∧ 2400 + 30 * (8 * l + 2 * c) ≤ y ∧ y < 2460 + 30 * (8 * l + 2 * c)) → (up I6 4572 l (Int32.ofNat (c + 1))) a y = I4 a y := fun a y z1 z2 z3 => by
    rw [up_n (by omega), n6 a y (by omega) (by omega), n5 a y (by omega) (by omega)]
  refine q_ok ⟨_, rfl, M_fnSet hM4 hC4 hl (fun a k _ g1 g2 g3 => go a k (by omega) (by omega) (by omega)) ?_, fun a k ha => ?_, ?_⟩
  · have ex := FM_case (I' := up I6 4572 l (Int32.ofNat (c + 1))) (sz' := fun k => (up I6 4572 l (Int32.ofNat (c + 1))) 4573 (8 * l + k)) (c := c) (j := j) (x := x) fm e hc (fun a k g1 g2 g3 g4 g5 => go a k (by omega) (by omega) (by omega)) (fun k g1 g2 => go _ _ (by omega) (by omega) (by omega)) ?_ hj ⟨?_, ?_⟩
    · rw [up_s, go 4571 l (by omega) (by omega) (by omega)]
      exact ex
    · rcases hx5 with ⟨a1, a2⟩ | ⟨k, a1, a2, a3, a4, a5⟩
      · refine Or.inl ⟨a1, ?_⟩
        show up I6 4572 l (Int32.ofNat (c + 1)) 4573 (8 * l + 2 * c) = 0
        rw [up_n (by omega), n6 _ _ (by omega) (by omega), a2]
      · refine Or.inr ⟨k, a1, a2, a3, ?_, ?_⟩
        · show up I6 4572 l (Int32.ofNat (c + 1)) 4573 (8 * l + 2 * c) = _
          rw [up_n (by omega), n6 _ _ (by omega) (by omega), a4]
        · rw [show 2400 + 240 * l + 30 * (2 * c) = 2400 + 30 * (8 * l + 2 * c) by omega]
          exact MT_keep a5 (fun a y g1 g2 g3 g4 => by rw [up_n (by omega), n6 _ _ (by omega) (by omega)])
    · show up I6 4572 l (Int32.ofNat (c + 1)) 4573 (8 * l + (2 * c + 1)) = _
      rw [up_n (by omega), ← Nat.add_assoc, y1]
    · rw [show 2400 + 240 * l + 30 * (2 * c + 1) = 2400 + 30 * (8 * l + 2 * c + 1) by omega]
      exact MT_keep y2 (fun a y g1 g2 g3 g4 => by rw [up_n (by omega)])
  · rw [go a k (by omega) (by omega) (by omega), k1 a k ha]
  · rw [go _ _ (by omega) (by omega) (by omega), k2, h0]
end OM
