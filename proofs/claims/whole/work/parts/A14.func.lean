/-! functions: rows copied, noted -/
theorem FM_sz {I : Nat → Nat → Int32} {s : GS} {row : Nat → Int32} {pv mv : Int32} {sz : Nat → Int32} {nb : Nat} (H : FM I s row pv mv sz nb) {k : Nat} (hk : k < 8) : ∃ z, z ≤ 30 ∧ sz k = (Int32.ofNat (z)) := by
  obtain ⟨-, -, c, h3, h4, h5⟩ := H
  have hh := h5 (k % 2) (k / 2) (by omega) (by omega)
  rw [show 2 * (k / 2) + k % 2 = k by omega] at hh
  by_cases q : k / 2 < c
  · rcases hh.1 q with ⟨-, -, e⟩ | ⟨t, -, -, a, e, -⟩
    · exact ⟨0, by omega, e⟩
    · exact ⟨_, a, e⟩
  · exact ⟨0, by omega, hh.2 (by omega)⟩
theorem FM_move {I I' : Nat → Nat → Int32} {s : GS} {row : Nat → Int32} {pv mv : Int32} {sz sz' : Nat → Int32} {nb nb' : Nat} (H : FM I s row pv mv sz nb) (hb : nb' + 240 ≤ 20300) (es : ∀ k, k < 8 → sz' k = sz k) (e : ∀ k z, k < 8 → z ≤ 30 → sz k = (Int32.ofNat (z)) → ∀ a x, 4565 ≤ a → a ≤ 4569 → x < z → I' a (nb' + 30 * k + x) = I a (nb + 30 * k + x)) : FM I' s row pv mv sz' nb' := by
  obtain ⟨h1, h2, c, h3, h4, h5⟩ := H
  refine ⟨h1, h2, c, h3, h4, fun w k hw hk => ⟨fun hc => ?_, fun hc => (es _ (by omega)).trans ((h5 w k hw hk).2 hc)⟩⟩
  rcases (h5 w k hw hk).1 hc with ⟨a, b, d⟩ | ⟨t, a1, a2, a3, a4, a5⟩
  · exact Or.inl ⟨a, b, (es _ (by omega)).trans d⟩
  · have ee := e (2 * k + w) (s.2.1 t) (by omega) a3 a4
    refine Or.inr ⟨t, a1, a2, a3, (es _ (by omega)).trans a4, ⟨by omega, fun i hi => ?_⟩, a5.2.1, fun i hi => ?_⟩
    · rw [ee 4565 i (by omega) (by omega) hi, ee 4566 i (by omega) (by omega) hi, ee 4567 i (by omega) (by omega) hi, ee 4568 i (by omega) (by omega) hi]
      exact a5.1.2 i hi
    · rw [ee 4569 i (by omega) (by omega) hi]
      exact a5.2.2 i hi
section OI
variable {I : Nat → Nat → Int32} {J : Nat → Nat → Int64} {R : Nat → Nat → Option Nat} {t : GT} {s : GS} {b : GB} {n : GN} {f : GF} {v w : GV} {q : Nat → GV} {p : GT} {r : GR} {h : GH} {β : Type}
theorem C_copyRow {x y : Nat} (hx : x < 4625 ∧ KK x = (14, 10)) (hy : y < 4625 ∧ KK y = (14, 10)) (hn : x ≠ y) : QK (f_X1_copyRow (mg 4625 I J R) x y) (fun z => ∃ I', z = mg 4625 I' J R ∧ FrS (fun a => a = y) I I' ∧ ∀ k, k < 10 → I' y k = I x k) := by
  have gx : ∀ (I : Nat → Nat → Int32), gL (mg 4625 I J R) x 14 = some (Int32.ofNat (10)) := fun I => e_gL hx.1 hx.2
  have gy : ∀ (I : Nat → Nat → Int32), gL (mg 4625 I J R) y 14 = some (Int32.ofNat (10)) := fun I => e_gL hy.1 hy.2
  unfold f_X1_copyRow
  rw [q_let]
  refine q_bind (P := fun z => ∃ I', z = .inr (mg 4625 I' J R) ∧ FrS (fun a => a = y) I I' ∧ ∀ k, k < 10 → I' y k = I x k) ?_ ?_
  · refine q_for 10 (fun k st => ∃ I', st = (x, y, (Int32.ofNat (k)), mg 4625 I' J R) ∧ FrS (fun a => a = y) I I' ∧ ∀ j, j < k → I' y j = I x j) ?_ ?_ (i := 0) ⟨I, rfl, FrS_rfl, fun j hj => absurd hj (Nat.not_lt_zero j)⟩ (by omega) (by unfold xF; omega)
    · rintro k st hk ⟨I', rfl, hF, hh⟩
      unfold f_X1_copyRow_s2
      dsimp only
      rw [q_let, q_let, q_let, q_let, gx, Option.bind_some, if_neg (fun z => absurd ((i32_le (by omega) (by omega)).mp z) (by omega)), gy, Option.bind_some, if_neg (fun z => absurd ((i32_le (by omega) (by omega)).mp z) (by omega)), e_aI hx.1 hx.2 hk (by decide), Option.bind_some, e_wI hy.1 hy.2 hk (by decide), Option.bind_some, q_let, show (Int32.ofNat (k)) + 1 = (Int32.ofNat (k + 1)) from n_add k 1]
      refine q_go ⟨up I' y k (I' x k), rfl, FrS_up hF rfl, fun j hj => ?_⟩
      by_cases z : j = k
      · rw [z, up_s, hF x hn]
      · rw [up_n (by omega)]
        exact hh j (by omega)
    · rintro st ⟨I', rfl, hF, hh⟩
      unfold f_X1_copyRow_s2
      dsimp only
      rw [q_let, q_let, q_let, q_let, gx, Option.bind_some, if_pos ((i32_le (by omega) (by omega)).mpr (Nat.le_refl _))]
      exact q_ex ⟨I', rfl, hF, hh⟩
  · rintro _ ⟨I', rfl, hF, hh⟩
    simp only [Sum.elim_inr]
    unfold f_X1_copyRow_j26
    exact q_ok ⟨I', rfl, hF, hh⟩
def hFun (h : GH) (f : GF) (l : Nat) : GH := pushH h 3 l (f l) (0, 1)
theorem C_noteFunction {l : Nat} (hR : RA R) (H : InvC I t s b n f v q p r h) (hl : l < 26) : QK (f_X1_noteFunction (mg 4625 I J R) 11 (Int32.ofNat (l))) (fun x => ∃ I', x = mg 4625 I' J R ∧ InvC I' t s b n f v q p r (hFun h f l) ∧ FrS (fun x => x = 11 ∨ (46 ≤ x ∧ x < 69)) I I') := by
  obtain ⟨h1, h2, h3, h4, h5, h6, h7, h8, h9, h10⟩ := H
  have ul := nu_lt h
  unfold f_X1_noteFunction
  rw [gr_11_8 hR, g_fun hR hl, gr_11_11 hR, if_pos ok_11]
  refine q_bind (C_note (kd := 3) (ky := l) (h := h) hR h10.1 h10.2.1 h10.2.2.1 h10.2.2.2.1) ?_
  rintro _ ⟨I1, rfl, hF1, e13, e14, e46, e47⟩
  have f1 : ∀ x, x ≠ 11 → x ≠ 46 → x ≠ 47 → I1 x = I x := fun x a c d => funext (fun k => hF1 x k (by omega))
  rw [g_crow hR ul]
  refine q_bind (C_copyRow ⟨by omega, KK_20 l hl⟩ ⟨by omega, KK_49 (nu h) ul⟩ (by omega)) ?_
  rintro _ ⟨I2, rfl, hF2, hh⟩
  have go : ∀ x, x ≠ 11 → x ≠ 46 → x ≠ 47 → x ≠ 49 + nu h → I2 x = I x := fun x a c d e => by
    rw [hF2 x e, f1 x a c d]
  have g5 : ∀ k, k ≠ 13 → k ≠ 14 → I2 11 k = I 11 k := fun k a c => by
    rw [hF2 11 (by omega), hF1 11 k (by omega)]
  refine q_ok ⟨I2, rfl, ⟨CTy_keep h1 ?_, ⟨h2.1, (g5 5 (by decide) (by decide)).trans h2.2.1, fun k hk => CT_keep (h2.2.2 k hk) ?_⟩, CTb_keep h3 ?_, CNm_keep h4 ?_, CFn_keep h5 ?_, CV_keep h6 ?_, CKp_keep h7 ?_, CPr_keep h8 ?_, CTr_keep h9 ?_, ?_⟩, ?_⟩
  case refine_2 =>
    intro x a c
    have := h2.1
    exact go x (by omega) (by omega) (by omega) (by omega)
  case refine_6 =>
    intro x a c
    exact go x (by omega) (by omega) (by omega) (by omega)
  case refine_10 =>
    refine CHs_push h10 ?_ ?_ (fun u hu => ?_) ?_ (fun u hu => ?_) ?_ (fun u hu hu' => ?_) (fun x a c d => ?_) (fun z => absurd z (by omega)) (fun z => absurd z (by omega)) (fun _ k hk => ?_)
    · rw [hF2 11 (by omega), e13]
    · rw [hF2 11 (by omega), e14]
    · rw [hF2 46 (by omega), hF1 46 u (by omega)]
    · rw [hF2 46 (by omega), e46]
    · rw [hF2 47 (by omega), hF1 47 u (by omega)]
    · rw [hF2 47 (by omega), e47]
    · exact go _ (by omega) (by omega) (by omega) (by omega)
    · exact go _ (by omega) (by omega) (by omega) (by omega)
    · rw [hh k hk, f1 _ (by omega) (by omega) (by omega)]
      exact h5 l k hl hk
  case refine_11 =>
    intro x hx
    exact go x (by omega) (by omega) (by omega) (by omega)
  all_goals
    intro x hx
    exact go x (by omega) (by omega) (by omega) (by omega)
end OI
