/-! calls: told, recall, coefficient -/
section OF
variable {I : Nat → Nat → Int32} {J : Nat → Nat → Int64} {R : Nat → Nat → Option Nat} {t : GT} {s : GS} {b : GB} {n : GN} {f : GF} {v w : GV} {q : Nat → GV} {p : GT} {r : GR} {h : GH} {β : Type}
theorem C_lat {g : Nat} (hR : RA R) (H : InvC I t s b n f v q p r h) (hg : CV I g w) (hb : w.1.natAbs < Bw 7 ∧ (w.2 : Int).natAbs < Bw 7) (hn : 4541 ≠ g) : QK (f_X2_copy (mg (4562 + zn J) I J R) 4541 g) (fun x => ∃ I', x = mg (4562 + zn J) I' J R ∧ InvC I' t s b n f w q p r h ∧ CV I' 4541 w ∧ FrS (Sf 4541) I I') := by
  refine q_mono (F_copy hR isF_4541 hg hb.1 hb.2 hn) ?_
  rintro _ ⟨I', rfl, hF, hT⟩
  obtain ⟨h1, h2, h3, h4, h5, h6, h7, h8, h9, h10⟩ := H
  have go : ∀ x, ¬ (4541 ≤ x ∧ x < 4546) → I' x = I x := fun x g => hF x (fun y => g (by unfold Sf at y; omega))
  exact ⟨I', rfl, ⟨CTy_keep h1 (fun x g => go x (by omega)), CSh_keep h2 (fun x g => go x (by omega)), CTb_keep h3 (fun x g => go x (by omega)), CNm_keep h4 (fun x g => go x (by omega)), CFn_keep h5 (fun x g => go x (by omega)), hT, CKp_keep h7 (fun x g => go x (by omega)), CPr_keep h8 (fun x g => go x (by omega)), CTr_keep h9 (fun x g => go x (by omega)), CHs_keep h10 (fun x g => go x (by omega))⟩, hT, hF⟩
end OF
