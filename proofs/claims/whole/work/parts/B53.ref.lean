/-! the reference's run: frames and what is within -/
def RSt (I : Nat → Nat → Int32) (h t c d w : Nat) : Prop := I 4561 61 = (Int32.ofNat (h)) ∧ I 4561 56 = (Int32.ofNat (t)) ∧ I 4561 62 = (Int32.ofNat (c)) ∧ I 4561 63 = (Int32.ofNat (d)) ∧ I 4561 60 = (Int32.ofNat (w))
def RTk (I : Nat → Nat → Int32) (j : Nat) (node stage z : Int32) : Prop := I 4600 j = node ∧ I 4601 j = stage ∧ I 4602 j = z
/-- what of a frame is only there in a call: its own place within, its function, its case, the one that holds, how many hold -/
def RTo (I : Nat → Nat → Int32) (j : Nat) (own fn cs hd lf : Int32) : Prop := I 4603 j = own ∧ I 4604 j = fn ∧ I 4605 j = cs ∧ I 4606 j = hd ∧ I 4607 j = lf
def Fx (h t w : Nat) : Nat → Nat → Prop := fun x k => x = 4562 ∨ x = 4563 ∨ (x = 4561 ∧ (k = 56 ∨ k = 60 ∨ k = 61 ∨ k = 62 ∨ k = 63)) ∨ (x = 4564 ∧ ((28 * (60 + h) ≤ k ∧ k < 28000) ∨ (28 * (1000 + 3 * w) ≤ k ∧ k < 70000) ∨ (100800 ≤ k ∧ k < 100968))) ∨ ((4600 ≤ x ∧ x ≤ 4607) ∧ t ≤ k) ∨ ((4608 ≤ x ∧ x ≤ 4610) ∧ w ≤ k)
theorem Fx_mono {h t w h' t' w' : Nat} {I I' : Nat → Nat → Int32} (H : FrK (Fx h t w) I I') (h1 : h' ≤ h) (h2 : t' ≤ t) (h3 : w' ≤ w) : FrK (Fx h' t' w') I I' := FrK_mono H (fun x k y => by unfold Fx at y ⊢; omega)
theorem Fx_R3 {h t w : Nat} {S : Nat → Prop} {I I' : Nat → Nat → Int32} (h3 : R3 I I') (hk : Kvs S (I 4564) (I' 4564)) (hS : ∀ a, S a → (60 + h ≤ a ∧ a < 1000) ∨ (1000 + 3 * w ≤ a ∧ a < 2500) ∨ (3600 ≤ a ∧ a < 3606)) : FrK (Fx h t w) I I' := fun x k hx => by
  by_cases q : x = 4564
  · subst q
    refine hk k (fun y => hx ?_)
    have := hS _ y
    unfold Fx
    omega
  · exact congrFun (h3.1 x (fun y => by
      rcases y with y | y | y
      · exact hx (Or.inl y)
      · exact hx (Or.inr (Or.inl y))
      · exact q y)) k
theorem MV_m {I I' : Nat → Nat → Int32} {h t w i : Nat} {v : GV} (H : MV I i v) (hF : FrK (Fx h t w) I I') (hi : i < 60 + h ∨ (1000 ≤ i ∧ i < 1000 + 3 * w)) (hh : h ≤ 900) (hw : w ≤ 480) : MV I' i v := MV_keep H (fun k h1 h2 => hF 4564 k (by unfold Fx; omega))
theorem MT_m {I I' : Nat → Nat → Int32} {h t w a nn : Nat} {nd : Nat → Nd} {sp : Nat → Nat} (H : MT I a nn nd sp) (hF : FrK (Fx h t w) I I') : MT I' a nn nd sp := MT_keep H (fun x k h1 h2 h3 h4 => hF x k (by unfold Fx; omega))
theorem MV_Vv {I : Nat → Nat → Int32} {i : Nat} {v : GV} (h : MV I i v) : Vv (I 4564) i v.1 v.2 := h
def MEnv (I : Nat → Nat → Int32) (b : GB) (n : GN) (f : GF) (s : GS) : Prop := MTb I b ∧ MNm I n ∧ MFn I s f ∧ EnvOK b n f s
theorem MEnv_keep {I I' : Nat → Nat → Int32} {b : GB} {n : GN} {f : GF} {s : GS} {h t w : Nat} (H : MEnv I b n f s) (hF : FrK (Fx h t w) I I') : MEnv I' b n f s :=
  ⟨MTb_keep H.1 (fun a k y => hF a k (by unfold Fx; omega)), MNm_keep H.2.1 (fun a k y => hF a k (by unfold Fx; omega)), MFn_keep H.2.2.1 (fun a k y => hF a k (by unfold Fx; omega)), H.2.2.2⟩
theorem RTk_keep {I I' : Nat → Nat → Int32} {h t w : Nat} {node stage z : Int32} (hK : RTk I t node stage z) (hF : FrK (Fx h (t + 1) w) I I') : RTk I' t node stage z := by
  obtain ⟨z1, z2, z3⟩ := hK
  have e : ∀ x, 4600 ≤ x ∧ x ≤ 4607 → I' x t = I x t := fun x hx => hF x t (by unfold Fx; omega)
  exact ⟨by rw [e 4600 (by omega)]; exact z1, by rw [e 4601 (by omega)]; exact z2, by rw [e 4602 (by omega)]; exact z3⟩
theorem RTo_keep {I I' : Nat → Nat → Int32} {h t w : Nat} {own fn cs hd lf : Int32} (hK : RTo I t own fn cs hd lf) (hF : FrK (Fx h (t + 1) w) I I') : RTo I' t own fn cs hd lf := by
  obtain ⟨z1, z2, z3, z4, z5⟩ := hK
  have e : ∀ x, 4600 ≤ x ∧ x ≤ 4607 → I' x t = I x t := fun x hx => hF x t (by unfold Fx; omega)
  exact ⟨by rw [e 4603 (by omega)]; exact z1, by rw [e 4604 (by omega)]; exact z2, by rw [e 4605 (by omega)]; exact z3, by rw [e 4606 (by omega)]; exact z4, by rw [e 4607 (by omega)]; exact z5⟩
/-- the first value that a place within has, and the chain of what is around it -/
def MCh (I : Nat → Nat → Int32) : Nat → Ch → Int32 → Prop
  | _, [], z => z = -1
  | w, e :: r, z => ∃ k, k < w ∧ z = (Int32.ofNat (k)) ∧ ((e.1 = 0 ∧ 1 ≤ e.2.length ∧ e.2.length ≤ 3 ∧ I 4609 k = (Int32.ofNat (e.2.length)) ∧ r = [] ∧ ∀ j v, e.2[j]? = some v → MV I (1000 + 3 * k + j) v) ∨ (97 ≤ e.1 ∧ e.1 < 123 ∧ I 4609 k = 0 ∧ I 4608 k = (Int32.ofNat (e.1)) ∧ (∃ v, e.2 = [v] ∧ MV I (1000 + 3 * k) v) ∧ MCh I k r (I 4610 k)))
theorem MCh_keep {I I' : Nat → Nat → Int32} {h t w : Nat} (hh : h ≤ 900) (hw : w ≤ 480) : ∀ (ch : Ch) (s2 : Nat) (z : Int32), MCh I s2 ch z → s2 ≤ w → FrK (Fx h t w) I I' → MCh I' s2 ch z := by
  intro ch
  induction ch with
  | nil => intro s2 z H _ _; exact H
  | cons e r ih =>
    intro s2 z H hs hF
    obtain ⟨k, h1, h2, h3⟩ := H
    have cell : ∀ x, 4608 ≤ x → x ≤ 4610 → I' x k = I x k := fun x g1 g2 => hF x k (by unfold Fx; omega)
    refine ⟨k, h1, h2, ?_⟩
    rw [cell 4608 (by omega) (by omega), cell 4609 (by omega) (by omega), cell 4610 (by omega) (by omega)]
    rcases h3 with ⟨a1, a2, a3, a4, a5, a6⟩ | ⟨a1, a2, a3, a4, ⟨v, a5, a6⟩, a7⟩
    · refine Or.inl ⟨a1, a2, a3, a4, a5, fun j v hj => MV_m (a6 j v hj) hF ?_ hh hw⟩
      have := (List.getElem?_eq_some_iff.mp hj).1
      omega
    · exact Or.inr ⟨a1, a2, a3, a4, ⟨v, a5, MV_m a6 hF (by omega) hh hw⟩, ih k _ a7 (by omega) hF⟩
theorem MCh_w {I : Nat → Nat → Int32} : ∀ (ch : Ch) (s1 s2 : Nat) (z : Int32), MCh I s1 ch z → s1 ≤ s2 → MCh I s2 ch z := by
  intro ch s1 s2 z H hs
  cases ch with
  | nil => exact H
  | cons e r =>
    obtain ⟨k, h1, h2⟩ := H
    exact ⟨k, by omega, h2⟩
section RF
variable {I : Nat → Nat → Int32} {J : Nat → Nat → Int64} {R : Nat → Nat → Option Nat} {β : Type} {h t c d w : Nat} {n : GN}
theorem M_enter {node z : Int32} (hR : RA R) (hS : RSt I h t c d w) (ht : t < 800) : QK (f_X12_enter (mg 4625 I J R) 4561 node z) (fun r => ∃ I', r = mg 4625 I' J R ∧ FrK (Fx h t w) I I' ∧ RSt I' h (t + 1) c d w ∧ RTk I' t node 0 z) := by
  obtain ⟨s1, s2, s3, s4, s5⟩ := hS
  unfold f_X12_enter
  rw [gr_4561_48 hR, gi_4561, s2, gw_4600 ht, gr_4561_49 hR, gi_4561, up_n (by omega), s2, gw_4601 ht, gr_4561_50 hR, gi_4561, up_n (by omega), up_n (by omega), s2, gw_4602 ht, gi_4561, up_n (by omega), up_n (by omega), up_n (by omega), s2, gs_4561, show (Int32.ofNat (t)) + (1 : Int32) = (Int32.ofNat (t + 1)) from n_add t 1]
  refine q_ok ⟨_, rfl, fun x j y => ?_, ⟨?_, ?_, ?_, ?_, ?_⟩, ?_, ?_, ?_⟩
  · unfold Fx at y
    rw [up_n (by omega), up_n (by omega), up_n (by omega), up_n (by omega)]
  · rw [up_n (by omega), up_n (by omega), up_n (by omega), up_n (by omega)]; exact s1
  · rw [up_s]
  · rw [up_n (by omega), up_n (by omega), up_n (by omega), up_n (by omega)]; exact s3
  · rw [up_n (by omega), up_n (by omega), up_n (by omega), up_n (by omega)]; exact s4
  · rw [up_n (by omega), up_n (by omega), up_n (by omega), up_n (by omega)]; exact s5
  · rw [up_n (by omega), up_n (by omega), up_n (by omega), up_s]
  · rw [up_n (by omega), up_n (by omega), up_s]
  · rw [up_n (by omega), up_s]
theorem M_top {F : Int32 → Option β} (hS : RSt I (h + 1) t c d w) : (f_X12_top (mg 4625 I J R) 4561).bind F = F (Int32.ofNat (60 + h)) := by
  unfold f_X12_top
  rw [gi_4561, hS.1, show (60 : Int32) + (Int32.ofNat (h + 1)) - (1 : Int32) = (Int32.ofNat (60 + h)) by
    rw [show (60 : Int32) + (Int32.ofNat (h + 1)) = (Int32.ofNat (60 + (h + 1))) from n_add 60 (h + 1), show (1 : Int32) = (Int32.ofNat (1)) from rfl, n_sub (by omega)]
    congr 1]
  rfl
theorem M_count (hS : RSt I h t c d w) (hc : c < 200) : QK (f_X12_count (mg 4625 I J R) 4561) (fun r => ∃ I', r = (0, mg 4625 I' J R) ∧ FrK (Fx h t w) I I' ∧ RSt I' h t (c + 1) d w ∧ ∀ x k, x ≠ 4561 → I' x k = I x k) := by
  obtain ⟨s1, s2, s3, s4, s5⟩ := hS
  unfold f_X12_count
  rw [gi_4561, s3, if_neg (show ¬ (Int32.ofNat (c)) = (200 : Int32) from i32_ne (b := 200) (by omega) (by omega) (by omega)), gi_4561, s3, gs_4561, show (Int32.ofNat (c)) + (1 : Int32) = (Int32.ofNat (c + 1)) from n_add c 1]
  refine q_ok ⟨_, rfl, fun x k y => ?_, ⟨?_, ?_, ?_, ?_, ?_⟩, fun x k y => ?_⟩
  · unfold Fx at y
    rw [up_n (by omega)]
  · rw [up_n (by omega)]; exact s1
  · rw [up_n (by omega)]; exact s2
  · rw [up_s]
  · rw [up_n (by omega)]; exact s4
  · rw [up_n (by omega)]; exact s5
  · rw [up_n (by omega)]
theorem M_count9 (hS : RSt I h t c d w) (hc : c = 200) : f_X12_count (mg 4625 I J R) 4561 = some (9, mg 4625 I J R) := by
  obtain ⟨s1, s2, s3, s4, s5⟩ := hS
  unfold f_X12_count
  rw [gi_4561, s3, if_pos (show (Int32.ofNat (c)) = (200 : Int32) by rw [hc]; rfl)]
/-- a name is looked up -/
theorem M_lookLoop {x : Nat} (hR : RA R) (hx : 97 ≤ x ∧ x < 123) : ∀ (ch : Ch) (z : Int32) (s2 : Nat), MCh I s2 ch z → s2 ≤ 480 → ∀ F, ch.length + 2 ≤ F → QK (xloop (f_X12_look_s2 (mg 4625 I J R)) F (4561, (Int32.ofNat (x)), z)) (fun r => (lkC x ch = none ∧ ((r = .inr (4561, (Int32.ofNat (x)), -1)) ∨ ∃ k, k < 480 ∧ r = .inr (4561, (Int32.ofNat (x)), (Int32.ofNat (k))) ∧ ∃ m, 1 ≤ m ∧ m ≤ 3 ∧ I 4609 k = (Int32.ofNat (m)) ∧ (x < 120 ∨ 120 + m ≤ x))) ∨ ∃ v k, lkC x ch = some v ∧ k < 480 ∧ r = .inr (4561, (Int32.ofNat (x)), (Int32.ofNat (k))) ∧ ((I 4609 k = 0 ∧ MV I (1000 + 3 * k) v) ∨ ∃ m, 1 ≤ m ∧ m ≤ 3 ∧ I 4609 k = (Int32.ofNat (m)) ∧ 120 ≤ x ∧ x < 120 + m ∧ MV I (1000 + 3 * k + (x - 120)) v)) := by
  intro ch
  induction ch with
  | nil =>
    intro z s2 H _ F hF
    have H : z = -1 := H
    have st : f_X12_look_s2 (mg 4625 I J R) (4561, (Int32.ofNat (x)), z) = some (.inr (.inl (4561, (Int32.ofNat (x)), z))) := by
      unfold f_X12_look_s2
      dsimp only
      rw [q_let, q_let, q_let, H, if_pos (by decide)]
    exact ⟨_, xl_e (by omega) st, Or.inl ⟨rfl, Or.inl (by rw [H])⟩⟩
  | cons e r ih =>
    intro z s2 H hs F hF
    obtain ⟨k, h1, h2, h3⟩ := H
    rw [List.length_cons] at hF
    rcases h3 with ⟨a1, a2, a3, a4, a5, a6⟩ | ⟨a1, a2, a3, a4, ⟨v, a5, a6⟩, a7⟩
    · have st : f_X12_look_s2 (mg 4625 I J R) (4561, (Int32.ofNat (x)), z) = some (.inr (.inl (4561, (Int32.ofNat (x)), z))) := by
        unfold f_X12_look_s2
        dsimp only
        rw [q_let, q_let, q_let, h2, if_neg (i32_nlt0 (by omega)), gr_4561_58 hR, ga_4609 (by omega), a4, if_neg (show ¬ (Int32.ofNat (e.2.length)) = (0 : Int32) from i32_ne (b := 0) (by omega) (by omega) (by omega))]
      refine ⟨_, xl_e (by omega) st, ?_⟩
      rw [h2]
      by_cases q : 120 ≤ x ∧ x < 120 + e.2.length
      · have q2 : x - 120 < e.2.length := by omega
        have el : e.2[x - 120]? = some e.2[x - 120] := List.getElem?_eq_getElem q2
        have lk : lkC x (e :: r) = some e.2[x - 120] := by
          show (if e.1 = 0 then (if 120 ≤ x then e.2[x - 120]? else none) else _) = _
          rw [if_pos a1, if_pos q.1, el]
        exact Or.inr ⟨_, k, lk, by omega, rfl, Or.inr ⟨_, a2, a3, a4, q.1, q.2, a6 _ _ el⟩⟩
      · have lk : lkC x (e :: r) = none := by
          show (if e.1 = 0 then (if 120 ≤ x then e.2[x - 120]? else none) else _) = _
          rw [if_pos a1]
          by_cases q2 : 120 ≤ x
          · rw [if_pos q2, List.getElem?_eq_none (by omega)]
          · rw [if_neg q2]
        exact Or.inl ⟨lk, Or.inr ⟨k, by omega, rfl, _, a2, a3, a4, by omega⟩⟩
    · have e0 : ¬ e.1 = 0 := by omega
      have ee : (I 4608 k = (Int32.ofNat (x))) ↔ e.1 = x := by
        rw [a4]
        exact i32_eq (by omega) (by omega)
      by_cases q : e.1 = x
      · have lk : lkC x (e :: r) = some v := by
          show (if e.1 = 0 then _ else if e.1 = x then e.2.head? else _) = _
          rw [if_neg e0, if_pos q, a5]
          rfl
        have st : f_X12_look_s2 (mg 4625 I J R) (4561, (Int32.ofNat (x)), z) = some (.inr (.inl (4561, (Int32.ofNat (x)), z))) := by
          unfold f_X12_look_s2
          dsimp only
          rw [q_let, q_let, q_let, h2, if_neg (i32_nlt0 (by omega)), gr_4561_58 hR, ga_4609 (by omega), a3, if_pos rfl, gr_4561_57 hR, ga_4608 (by omega), if_pos (ee.mpr q)]
        refine ⟨_, xl_e (by omega) st, Or.inr ⟨v, k, lk, by omega, by rw [h2], Or.inl ⟨a3, a6⟩⟩⟩
      · have lk : lkC x (e :: r) = lkC x r := by
          show (if e.1 = 0 then _ else if e.1 = x then e.2.head? else _) = _
          rw [if_neg e0, if_neg q]
        have st : f_X12_look_s2 (mg 4625 I J R) (4561, (Int32.ofNat (x)), z) = some (.inr (.inr (4561, (Int32.ofNat (x)), I 4610 k))) := by
          unfold f_X12_look_s2
          dsimp only
          rw [q_let, q_let, q_let, h2, if_neg (i32_nlt0 (by omega)), gr_4561_58 hR, ga_4609 (by omega), a3, if_pos rfl, gr_4561_57 hR, ga_4608 (by omega), if_neg (fun y => q (ee.mp y)), gr_4561_59 hR, ga_4610 (by omega)]
        rw [xl_s (by omega) st, lk]
        exact ih (I 4610 k) k a7 (by omega) (F - 1) (by omega)
theorem MCh_len {I : Nat → Nat → Int32} : ∀ (ch : Ch) (s2 : Nat) (z : Int32), MCh I s2 ch z → ch.length ≤ s2 := by
  intro ch
  induction ch with
  | nil => intro s2 z _; exact Nat.zero_le _
  | cons e r ih =>
    intro s2 z H
    obtain ⟨k, h1, h2, h3⟩ := H
    rw [List.length_cons]
    rcases h3 with ⟨a1, a2, a3, a4, a5, a6⟩ | ⟨a1, a2, a3, a4, a5, a7⟩
    · rw [a5]
      show 0 + 1 ≤ s2
      omega
    · have := ih k _ a7
      omega
theorem M_look {x : Nat} {ch : Ch} {z : Int32} (hR : RA R) (hN : MNm I n) (hx : 97 ≤ x ∧ x < 123) (hw : w ≤ 480) (hC : MCh I w ch z) : QK (f_X12_look (mg 4625 I J R) 4561 (Int32.ofNat (x)) z) (fun r => match lkN n ch x with
    | none => r = -1
    | some v => ∃ j, r = (Int32.ofNat (j)) ∧ (j < 26 ∨ (1000 ≤ j ∧ j < 2500)) ∧ MV I j v) := by
  unfold f_X12_look
  refine q_bind (M_lookLoop hR hx ch z w hC hw xF (by have := MCh_len ch w z hC; unfold xF; omega)) ?_
  obtain ⟨n1, n2⟩ := hN (x - 97) (by omega)
  have j97 : lkC x ch = none → QK (f_X12_look_j97 (mg 4625 I J R) 4561 (Int32.ofNat (x))) (fun r => match lkN n ch x with
    | none => r = -1
    | some v => ∃ j, r = (Int32.ofNat (j)) ∧ (j < 26 ∨ (1000 ≤ j ∧ j < 2500)) ∧ MV I j v) := fun lk => by
    unfold lkN f_X12_look_j97 f_X12_look_j117
    rw [lk, show (Int32.ofNat (x)) - (97 : Int32) = (Int32.ofNat (x - 97)) from n_sub (b := 97) (by omega), gr_4561_47 hR, ga_4599 (by omega), n1]
    dsimp only
    by_cases q : n.1 (x - 97) = 0
    · rw [if_pos q, if_pos q]
      exact q_ok rfl
    · rw [if_neg q, if_neg q]
      exact q_ok ⟨x - 97, rfl, by omega, n2⟩
  rintro _ (⟨l0, rfl | ⟨k, hk, rfl, m, m1, m3, em, hm⟩⟩ | ⟨v, k, l1, hk, rfl, ⟨e0, hv⟩ | ⟨m, m1, m3, em, x1, x2, hv⟩⟩)
  · simp only [Sum.elim_inr]
    unfold f_X12_look_j35 f_X12_look_j56
    rw [if_pos (by decide), if_pos (by decide)]
    exact j97 l0
  · simp only [Sum.elim_inr]
    unfold f_X12_look_j35 f_X12_look_j56
    rw [if_neg (i32_nlt0 (by omega)), gr_4561_58 hR, ga_4609 (by omega), em, if_neg (show ¬ (Int32.ofNat (m)) = (0 : Int32) from i32_ne (b := 0) (by omega) (by omega) (by omega)), if_neg (i32_nlt0 (by omega))]
    by_cases q : 120 ≤ x ∧ x ≤ 122
    · rw [show f_X12_in (mg 4625 I J R) (Int32.ofNat (x)) 120 122 = some 1 from m_in1 ((i32_le (k := 120) (by omega) (by omega)).mpr q.1) ((i32_le (m := 122) (by omega) (by omega)).mpr q.2), Option.bind_some, if_neg (by decide), gr_4561_58 hR, ga_4609 (by omega), em, show (Int32.ofNat (x)) - (120 : Int32) = (Int32.ofNat (x - 120)) from n_sub (b := 120) (by omega), if_pos ((i32_le (by omega) (by omega)).mpr (by omega))]
      exact j97 l0
    · rw [show f_X12_in (mg 4625 I J R) (Int32.ofNat (x)) 120 122 = some 0 from m_in0 (fun y => q ⟨(i32_le (k := 120) (by omega) (by omega)).mp y.1, (i32_le (m := 122) (by omega) (by omega)).mp y.2⟩), Option.bind_some, if_pos rfl]
      exact j97 l0
  · simp only [Sum.elim_inr]
    unfold f_X12_look_j35
    unfold lkN
    rw [l1, if_neg (i32_nlt0 (by omega)), gr_4561_58 hR, ga_4609 (by omega), e0, if_pos rfl, show (3 : Int32) * (Int32.ofNat (k)) = (Int32.ofNat (3 * k)) from n_mul 3 k, show (1000 : Int32) + (Int32.ofNat (3 * k)) = (Int32.ofNat (1000 + 3 * k)) from n_add 1000 (3 * k)]
    exact q_ok ⟨_, rfl, by omega, hv⟩
  · simp only [Sum.elim_inr]
    unfold f_X12_look_j35 f_X12_look_j56
    unfold lkN
    rw [l1, if_neg (i32_nlt0 (by omega)), gr_4561_58 hR, ga_4609 (by omega), em, if_neg (show ¬ (Int32.ofNat (m)) = (0 : Int32) from i32_ne (b := 0) (by omega) (by omega) (by omega)), if_neg (i32_nlt0 (by omega)), show f_X12_in (mg 4625 I J R) (Int32.ofNat (x)) 120 122 = some 1 from m_in1 ((i32_le (k := 120) (by omega) (by omega)).mpr x1) ((i32_le (m := 122) (by omega) (by omega)).mpr (by omega)), Option.bind_some, if_neg (by decide), gr_4561_58 hR, ga_4609 (by omega), em, show (Int32.ofNat (x)) - (120 : Int32) = (Int32.ofNat (x - 120)) from n_sub (b := 120) (by omega), if_neg (show ¬ (Int32.ofNat (m)) ≤ (Int32.ofNat (x - 120)) from fun y => absurd ((i32_le (by omega) (by omega)).mp y) (by omega)), show (3 : Int32) * (Int32.ofNat (k)) = (Int32.ofNat (3 * k)) from n_mul 3 k, show (1000 : Int32) + (Int32.ofNat (3 * k)) = (Int32.ofNat (1000 + 3 * k)) from n_add 1000 (3 * k), n_add, show (Int32.ofNat (1000 + 3 * k + x)) - (120 : Int32) = (Int32.ofNat (1000 + 3 * k + x - 120)) from n_sub (b := 120) (by omega)]
    refine q_ok ⟨_, rfl, by omega, ?_⟩
    rw [show 1000 + 3 * k + x - 120 = 1000 + 3 * k + (x - 120) by omega]
    exact hv
end RF
