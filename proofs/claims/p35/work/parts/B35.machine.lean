/-! the class's machine: tasks and scopes -/
def uR (R : Nat → Nat → Option Nat) (k : Nat) (v : Option Nat) : Nat → Nat → Option Nat := va_up R 575 (va_up (R 575) k v)
theorem uR_o {R : Nat → Nat → Option Nat} {k x j : Nat} {v : Option Nat} (h : x ≠ 575 ∨ j ≠ k) : uR R k v x j = R x j := by
  unfold uR va_up
  by_cases q : x = 575
  · rw [if_pos q, if_neg (h.resolve_left (fun y => y q)), q]
  · rw [if_neg q]
theorem uR_s {R : Nat → Nat → Option Nat} {k : Nat} {v : Option Nat} : uR R k v 575 k = v := by
  unfold uR va_up
  rw [if_pos rfl, if_pos rfl]
def FR (t : Nat) (R R' : Nat → Nat → Option Nat) : Prop := ∀ x j, x ≠ 575 ∨ j < t → R' x j = R x j
theorem FR_rfl {t : Nat} {R : Nat → Nat → Option Nat} : FR t R R := fun _ _ _ => rfl
theorem FR_tr {t : Nat} {R R' R'' : Nat → Nat → Option Nat} (h : FR t R R') (h' : FR t R' R'') : FR t R R'' := fun x j y => (h' x j y).trans (h x j y)
theorem FR_mono {t u : Nat} {R R' : Nat → Nat → Option Nat} (h : FR t R R') (hu : u ≤ t) : FR u R R' := fun x j y => h x j (by omega)
theorem RR_575 (k : Nat) : RR 575 k = none := by
  unfold RR
  simp
theorem FR_RA {t : Nat} {R R' : Nat → Nat → Option Nat} (h : FR t R R') (hR : RA R) : RA R' := fun x hx k hk => by
  by_cases q : x = 575
  · exact Or.inl (by rw [q]; exact RR_575 k)
  · rw [h x k (Or.inl q)]
    exact hR x hx k hk
/-- what a machine may change that works above these heights -/
def Fm (h t sc : Nat) : Nat → Nat → Prop := fun x k => (2 ≤ x ∧ x < 10) ∨ (x = 567 ∧ (k = 3 ∨ k = 4 ∨ k = 12 ∨ k = 13 ∨ k = 18)) ∨ (569 ≤ x ∧ x < 574) ∨ ((x = 574 ∨ (576 ≤ x ∧ x ≤ 579)) ∧ t ≤ k) ∨ ((580 ≤ x ∧ x ≤ 583) ∧ sc ≤ k) ∨ (584 + 5 * h ≤ x ∧ x < 1784)
theorem Fm_mono {h t sc h' t' sc' : Nat} {I I' : Nat → Nat → Int32} (H : FrK (Fm h t sc) I I') (h1 : h' ≤ h) (h2 : t' ≤ t) (h3 : sc' ≤ sc) : FrK (Fm h' t' sc') I I' := FrK_mono H (fun x k y => by unfold Fm at y ⊢; omega)
def MSt (I : Nat → Nat → Int32) (h t c d sc : Nat) : Prop := I 567 3 = (Int32.ofNat (h)) ∧ I 567 12 = (Int32.ofNat (t)) ∧ I 567 4 = (Int32.ofNat (c)) ∧ I 567 13 = (Int32.ofNat (d)) ∧ I 567 18 = (Int32.ofNat (sc))
def TKc (I : Nat → Nat → Int32) (R : Nat → Nat → Option Nat) (j : Nat) (kind : Int32) (tree : Option Nat) (node stage scope more : Int32) : Prop := I 574 j = kind ∧ R 575 j = tree ∧ I 576 j = node ∧ I 577 j = stage ∧ I 578 j = scope ∧ I 579 j = more
def isA (o : Option Nat) : Prop := match o with
  | none => True
  | some a => isTr a
section MC
variable {I : Nat → Nat → Int32} {J : Nat → Nat → Int64} {R : Nat → Nat → Option Nat} {β : Type} {h t c d sc : Nat}
theorem g_tree {k : Nat} {F : Option Nat → Option β} (hk : k < 480) : (aR (mg (4562 + zn J) I J R) 575 17 (Int32.ofNat (k))).bind F = F (R 575 k) := by
  rw [oaR_575, if_pos (xvi_nat hk (by first | decide | omega)), i32_nat (by omega)]
  rfl
theorem gq_575 {k : Nat} {o : Option Nat} {F : xM → Option β} (hk : k < 480) (ho : isA o) : (wQ (mg (4562 + zn J) I J R) 575 17 9 (Int32.ofNat (k)) o).bind F = F (mg (4562 + zn J) I J (uR R k o)) := by
  have e1 : (xk (mg (4562 + zn J) I J R) 575 17 && xvi (Int32.ofNat (k)) ((mg (4562 + zn J) I J R).2.1 575).2) = true := by
    rw [(e_k2 (a := 575) (n := 4562 + zn J) (kd := 17) (len := 480) (by first | decide | omega) rfl).1, (e_k2 (a := 575) (n := 4562 + zn J) (kd := 17) (len := 480) (by first | decide | omega) rfl).2, Bool.true_and]
    exact xvi_nat hk (by first | decide | omega)
  cases o with
  | none =>
    show (wN (mg (4562 + zn J) I J R) 575 17 (Int32.ofNat (k))).bind F = _
    unfold wN
    rw [if_pos e1]
    show F (xsR _ _ _ _) = _
    congr 1
    unfold xsR
    rw [i32_nat (by omega)]
    rfl
  | some a =>
    show (wR (mg (4562 + zn J) I J R) 575 17 9 (Int32.ofNat (k)) a).bind F = _
    unfold wR
    rw [if_pos (by rw [e1, bT_xk ho]; rfl)]
    show F (xsR _ _ _ _) = _
    congr 1
    unfold xsR
    rw [i32_nat (by omega)]
    rfl
theorem C_addTask {kind node scope : Int32} {o : Option Nat} (ho : isA o) (hR : RA R) (hS : MSt I h t c d sc) (ht : t < 480) : QK (f_X4_addTask (mg (4562 + zn J) I J R) 567 kind o node scope) (fun r => ∃ I', r = (0, mg (4562 + zn J) I' J (uR R t o)) ∧ FrK (Fm h t sc) I I' ∧ MSt I' h (t + 1) c d sc ∧ TKc I' (uR R t o) t kind o node 0 scope (-1)) := by
  obtain ⟨s1, s2, s3, s4, s5⟩ := hS
  have hR' : RA (uR R t o) := FR_RA (t := t) (fun x j y => uR_o (by omega)) hR
  unfold f_X4_addTask
  rw [gi_567, s2, if_pos (show (Int32.ofNat (t)) < (480 : Int32) from (i32_lt (m := 480) (by omega) (by omega)).mpr ht), gr_567_6 hR, gi_567, s2, gw_574 ht, gr_567_7 hR, gi_567, up_n (by omega), s2, gq_575 ht ho, gr_567_8 hR', gi_567, up_n (by omega), s2, gw_576 ht, gr_567_9 hR', gi_567, up_n (by omega), up_n (by omega), s2, gw_577 ht, gr_567_10 hR', gi_567, up_n (by omega), up_n (by omega), up_n (by omega), s2, gw_578 ht, gr_567_11 hR', gi_567, up_n (by omega), up_n (by omega), up_n (by omega), up_n (by omega), s2, gw_579 ht, gi_567, up_n (by omega), up_n (by omega), up_n (by omega), up_n (by omega), up_n (by omega), s2, gs_567, show (Int32.ofNat (t)) + (1 : Int32) = (Int32.ofNat (t + 1)) from n_add t 1]
  refine q_ok ⟨_, rfl, fun x k y => ?_, ⟨?_, ?_, ?_, ?_, ?_⟩, ?_, uR_s, ?_, ?_, ?_, ?_⟩
  · unfold Fm at y
    rw [up_n (by omega), up_n (by omega), up_n (by omega), up_n (by omega), up_n (by omega), up_n (by omega)]
  · rw [up_n (by omega), up_n (by omega), up_n (by omega), up_n (by omega), up_n (by omega), up_n (by omega)]
    exact s1
  · rw [up_s]
  · rw [up_n (by omega), up_n (by omega), up_n (by omega), up_n (by omega), up_n (by omega), up_n (by omega)]
    exact s3
  · rw [up_n (by omega), up_n (by omega), up_n (by omega), up_n (by omega), up_n (by omega), up_n (by omega)]
    exact s4
  · rw [up_n (by omega), up_n (by omega), up_n (by omega), up_n (by omega), up_n (by omega), up_n (by omega)]
    exact s5
  · rw [up_n (by omega), up_n (by omega), up_n (by omega), up_n (by omega), up_n (by omega), up_s]
  · rw [up_n (by omega), up_n (by omega), up_n (by omega), up_n (by omega), up_s]
  · rw [up_n (by omega), up_n (by omega), up_n (by omega), up_s]
  · rw [up_n (by omega), up_n (by omega), up_s]
  · rw [up_n (by omega), up_s]
/-- the kind of a node's task -/
def bkN (x : Nd) : Nat := if x.1 = 2 ∧ vN x = 105 then 1 else if x.1 = 2 ∧ vN x = 115 then 2 else 0
theorem C_begin {a nn i : Nat} {nd : Nat → Nd} {scope : Int32} {b : GB} (hR : RA R) (hA : CN I a nn nd) (hi : i < nn) (hn : NV b (nd i)) (hS : MSt I h t c d sc) (ht : t < 480) : QK (f_X4_begin (mg (4562 + zn J) I J R) 567 a (Int32.ofNat (i)) scope) (fun r => ∃ I', r = (0, mg (4562 + zn J) I' J (uR R t (some a))) ∧ FrK (Fm h t sc) I I' ∧ MSt I' h (t + 1) c d sc ∧ TKc I' (uR R t (some a)) t (Int32.ofNat (bkN (nd i))) (some a) (Int32.ofNat (i)) 0 scope (-1)) := by
  have ta := hA.1
  obtain ⟨x1, x2, -⟩ := NV_v hn
  have ev105 : ((nd i).2.1 = 105) ↔ vN (nd i) = 105 := by
    rw [x1]
    exact i32_eq (m := 105) (by omega) (by omega)
  have ev115 : ((nd i).2.1 = 115) ↔ vN (nd i) = 115 := by
    rw [x1]
    exact i32_eq (m := 115) (by omega) (by omega)
  unfold f_X4_begin bkN
  rw [if_pos (bT_xk ta), T_isCallOf hR hA hi, Option.bind_some]
  have go : ∀ k : Nat, QK (f_X4_begin_j29 (mg (4562 + zn J) I J R) 567 a (Int32.ofNat (i)) scope (Int32.ofNat (k))) (fun r => ∃ I', r = (0, mg (4562 + zn J) I' J (uR R t (some a))) ∧ FrK (Fm h t sc) I I' ∧ MSt I' h (t + 1) c d sc ∧ TKc I' (uR R t (some a)) t (Int32.ofNat (k)) (some a) (Int32.ofNat (i)) 0 scope (-1)) := by
    intro k
    unfold f_X4_begin_j29
    rw [if_pos ok_567]
    refine q_bind (C_addTask (o := some a) ta hR hS ht) ?_
    rintro _ ⟨I1, rfl, hF1, hS1, hT1⟩
    exact q_ok ⟨I1, rfl, hF1, hS1, hT1⟩
  by_cases q1 : (nd i).1 = 2 ∧ vN (nd i) = 105
  · rw [if_pos (show (nd i).1 = 2 ∧ (nd i).2.1 = 105 from ⟨q1.1, ev105.mpr q1.2⟩), if_neg (by first | decide | omega), if_pos q1]
    exact go 1
  · rw [if_neg (show ¬ ((nd i).1 = 2 ∧ (nd i).2.1 = 105) from fun y => q1 ⟨y.1, ev105.mp y.2⟩), if_pos rfl, if_pos (bT_xk ta), T_isCallOf hR hA hi, Option.bind_some, if_neg q1]
    by_cases q2 : (nd i).1 = 2 ∧ vN (nd i) = 115
    · rw [if_pos (show (nd i).1 = 2 ∧ (nd i).2.1 = 115 from ⟨q2.1, ev115.mpr q2.2⟩), if_neg (by first | decide | omega), if_pos q2]
      exact go 2
    · rw [if_neg (show ¬ ((nd i).1 = 2 ∧ (nd i).2.1 = 115) from fun y => q2 ⟨y.1, ev115.mp y.2⟩), if_pos rfl, if_neg q2]
      exact go 0
theorem C_openScope {p : Nat} {nm par slot parent : Int32} (hR : RA R) (hS : MSt I h t c d sc) (hs : sc < 240) : QK (f_X4_openScope (mg (4562 + zn J) I J R) 567 nm par slot parent) (fun r => ∃ I', r = (1, mg (4562 + zn J) I' J R) ∧ FrK (Fm h t sc) I I' ∧ MSt I' h t c d (sc + 1) ∧ I' 580 sc = nm ∧ I' 581 sc = par ∧ I' 582 sc = slot ∧ I' 583 sc = parent ∧ ∀ x k, x ≠ 567 → ¬ (580 ≤ x ∧ x ≤ 583) → I' x k = I x k) := by
  obtain ⟨s1, s2, s3, s4, s5⟩ := hS
  unfold f_X4_openScope
  rw [gi_567, s5, if_pos (show (Int32.ofNat (sc)) < (240 : Int32) from (i32_lt (m := 240) (by omega) (by omega)).mpr hs), gr_567_14 hR, gi_567, s5, gw_580 hs, gr_567_15 hR, gi_567, up_n (by omega), s5, gw_581 hs, gr_567_16 hR, gi_567, up_n (by omega), up_n (by omega), s5, gw_582 hs, gr_567_17 hR, gi_567, up_n (by omega), up_n (by omega), up_n (by omega), s5, gw_583 hs, gi_567, up_n (by omega), up_n (by omega), up_n (by omega), up_n (by omega), s5, gs_567, show (Int32.ofNat (sc)) + (1 : Int32) = (Int32.ofNat (sc + 1)) from n_add sc 1]
  refine q_ok ⟨_, rfl, fun x k y => ?_, ⟨?_, ?_, ?_, ?_, ?_⟩, ?_, ?_, ?_, ?_, fun x k y1 y2 => ?_⟩
  · unfold Fm at y
    rw [up_n (by omega), up_n (by omega), up_n (by omega), up_n (by omega), up_n (by omega)]
  · rw [up_n (by omega), up_n (by omega), up_n (by omega), up_n (by omega), up_n (by omega)]
    exact s1
  · rw [up_n (by omega), up_n (by omega), up_n (by omega), up_n (by omega), up_n (by omega)]
    exact s2
  · rw [up_n (by omega), up_n (by omega), up_n (by omega), up_n (by omega), up_n (by omega)]
    exact s3
  · rw [up_n (by omega), up_n (by omega), up_n (by omega), up_n (by omega), up_n (by omega)]
    exact s4
  · rw [up_s]
  · rw [up_n (by omega), up_n (by omega), up_n (by omega), up_n (by omega), up_s]
  · rw [up_n (by omega), up_n (by omega), up_n (by omega), up_s]
  · rw [up_n (by omega), up_n (by omega), up_s]
  · rw [up_n (by omega), up_s]
  · rw [up_n (by omega), up_n (by omega), up_n (by omega), up_n (by omega), up_n (by omega)]
theorem C_countNode (hS : MSt I h t c d sc) (hc : c < 200) : QK (f_X4_countNode (mg (4562 + zn J) I J R) 567) (fun r => ∃ I', r = (0, mg (4562 + zn J) I' J R) ∧ FrK (Fm h t sc) I I' ∧ MSt I' h t (c + 1) d sc ∧ ∀ x k, x ≠ 567 → I' x k = I x k) := by
  obtain ⟨s1, s2, s3, s4, s5⟩ := hS
  unfold f_X4_countNode
  rw [gi_567, s3, if_pos (show (Int32.ofNat (c)) < (200 : Int32) from (i32_lt (m := 200) (by omega) (by omega)).mpr hc), gi_567, s3, gs_567, show (Int32.ofNat (c)) + (1 : Int32) = (Int32.ofNat (c + 1)) from n_add c 1]
  refine q_ok ⟨_, rfl, fun x k y => ?_, ⟨?_, ?_, ?_, ?_, ?_⟩, fun x k y => ?_⟩
  · unfold Fm at y
    rw [up_n (by omega)]
  · rw [up_n (by omega)]; exact s1
  · rw [up_n (by omega)]; exact s2
  · rw [up_s]
  · rw [up_n (by omega)]; exact s4
  · rw [up_n (by omega)]; exact s5
  · rw [up_n (by omega)]
theorem C_countNode9 (hS : MSt I h t c d sc) (hc : 200 ≤ c) (h2 : c < 1000) : f_X4_countNode (mg (4562 + zn J) I J R) 567 = some (9, mg (4562 + zn J) I J R) := by
  obtain ⟨s1, s2, s3, s4, s5⟩ := hS
  unfold f_X4_countNode
  rw [gi_567, s3, if_neg (show ¬ (Int32.ofNat (c)) < (200 : Int32) from fun y => absurd ((i32_lt (m := 200) (by omega) (by omega)).mp y) (by omega))]
end MC
