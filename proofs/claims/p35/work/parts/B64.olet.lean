/-! calls: let -/
section OLE
variable {I : Nat → Nat → Int32} {J : Nat → Nat → Int64} {R : Nat → Nat → Option Nat} {t : GT} {s : GS} {b : GB} {n : GN} {f : GF} {v w : GV} {q : Nat → GV} {p : GT} {r : GR} {h : GH} {β : Type}
/-- a name gets a value, on the class's side -/
theorem C_giveValue {l g : Nat} (hR : RA R) (hC : InvC I t s b n f v q p r h) (hl : l < 26) (hb : (n.2 l).1.natAbs < Bw 7 ∧ ((n.2 l).2 : Int).natAbs < Bw 7) (hg : CV I g w) (hg1 : 567 ≤ g) (hg2 : g < 4400) (hw : Gd w) : QK (f_X1_giveValue (mg (4562 + zn J) I J R) 11 (Int32.ofNat (l)) g) (fun x => ∃ I', x = mg (4562 + zn J) I' J R ∧ InvC I' t s b (upN n.1 l 1, upN n.2 l w) f v q p r (hName h n l) ∧ ∀ a k, 4561 ≤ a → I' a k = I a k) := by
  unfold f_X1_giveValue
  rw [if_pos ok_11]
  refine q_bind (C_noteName hR hC hl hb) ?_
  rintro _ ⟨I1, rfl, hC1, hF1⟩
  have hg' : CV I1 g w := CV_keep hg (fun x y1 y2 => hF1 x (by omega))
  rw [gr_11_6 hR, g_name hR hl, if_pos (bF_xk (isF_310 hl))]
  refine q_bind (F_copy hR (isF_310 hl) hg' (b200 hw.1) (b200 (by rw [Int.natAbs_natCast]; exact hw.2.2.1)) (by omega)) ?_
  rintro _ ⟨I2, rfl, hF2, hV2⟩
  rw [gr_11_7 hR, gz_18 hl rfl]
  refine q_ok ⟨_, rfl, C_known hC1 hl (Or.inr rfl) (fun y a _ c => ?_) (fun k hk => ?_) up_s (CV_keep hV2 (fun x a c => up_r (by omega))), fun a k ha => ?_⟩
  · rw [up_r a, hF2 y (fun z => by unfold Sf at z; omega)]
  · rw [up_n (Or.inr hk), hF2 18 (fun z => by unfold Sf at z; omega)]
  · rw [up_n (by omega), hF2 a (fun z => by unfold Sf at z; omega), hF1 a (by omega)]
end OLE
