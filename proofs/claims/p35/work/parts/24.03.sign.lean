def f_L_sign (σ : xM) (l0 : Int32) : Option Int32 :=
  (if l0 = (0 : Int32) then some (43 : Int32) else (if l0 = (1 : Int32) then some (45 : Int32) else (if l0 = (2 : Int32) then some (42 : Int32) else (if l0 = (3 : Int32) then some (47 : Int32) else (if l0 = (4 : Int32) then some (37 : Int32) else (if l0 = (5 : Int32) then some (94 : Int32) else (if l0 = (6 : Int32) then some (33 : Int32) else (if l0 = (7 : Int32) then some (38 : Int32) else (if l0 = (8 : Int32) then some (124 : Int32) else (if l0 = (9 : Int32) then some (60 : Int32) else (if l0 = (10 : Int32) then some (62 : Int32) else (if l0 = (11 : Int32) then some (61 : Int32) else (if l0 = (12 : Int32) then some (126 : Int32) else (if l0 = (13 : Int32) then some (64 : Int32) else (if l0 = (14 : Int32) then some (35 : Int32) else some (63 : Int32))))))))))))))))
set_option maxHeartbeats 4000000 in
set_option maxRecDepth 20000 in
theorem m_L_sign {G : xG} {π : Nat → Nat} {d C Z : Nat} {Q : xQ} {σ : xM} {l0 : Int32} {x : Int32} (hf : f_L_sign σ l0 = some x) (hR : ∀ g, x = g → Q (.inl (some (.int g))) (σ) π) : xMach G π J_L_sign (d + 0) C Z 0 (lv_args 0 [.int l0]) [] σ Q := by
  unfold f_L_sign at hf
  refine xm_stL (L' := [(0, .int l0)]) rfl ?_
  refine xm_iload_n dL_sign_0 rfl ?_
  refine xb_if hf (fun c hf => ?_) (fun n0 hf => ?_)
  · refine xm_tableIn 76 dL_sign_1 (by rw [c]; decide) (by rw [c]; decide) (by rw [c]; rfl) (by decide) ?_
    refine xm_bipush dL_sign_76 (v := 43) (by decide) ?_
    cases hf
    exact xm_zret dL_sign_78 rfl rfl (hR _ rfl)
  refine xb_if hf (fun c hf => ?_) (fun n1 hf => ?_)
  · refine xm_tableIn 79 dL_sign_1 (by rw [c]; decide) (by rw [c]; decide) (by rw [c]; rfl) (by decide) ?_
    refine xm_bipush dL_sign_79 (v := 45) (by decide) ?_
    cases hf
    exact xm_zret dL_sign_81 rfl rfl (hR _ rfl)
  refine xb_if hf (fun c hf => ?_) (fun n2 hf => ?_)
  · refine xm_tableIn 82 dL_sign_1 (by rw [c]; decide) (by rw [c]; decide) (by rw [c]; rfl) (by decide) ?_
    refine xm_bipush dL_sign_82 (v := 42) (by decide) ?_
    cases hf
    exact xm_zret dL_sign_84 rfl rfl (hR _ rfl)
  refine xb_if hf (fun c hf => ?_) (fun n3 hf => ?_)
  · refine xm_tableIn 85 dL_sign_1 (by rw [c]; decide) (by rw [c]; decide) (by rw [c]; rfl) (by decide) ?_
    refine xm_bipush dL_sign_85 (v := 47) (by decide) ?_
    cases hf
    exact xm_zret dL_sign_87 rfl rfl (hR _ rfl)
  refine xb_if hf (fun c hf => ?_) (fun n4 hf => ?_)
  · refine xm_tableIn 88 dL_sign_1 (by rw [c]; decide) (by rw [c]; decide) (by rw [c]; rfl) (by decide) ?_
    refine xm_bipush dL_sign_88 (v := 37) (by decide) ?_
    cases hf
    exact xm_zret dL_sign_90 rfl rfl (hR _ rfl)
  refine xb_if hf (fun c hf => ?_) (fun n5 hf => ?_)
  · refine xm_tableIn 91 dL_sign_1 (by rw [c]; decide) (by rw [c]; decide) (by rw [c]; rfl) (by decide) ?_
    refine xm_bipush dL_sign_91 (v := 94) (by decide) ?_
    cases hf
    exact xm_zret dL_sign_93 rfl rfl (hR _ rfl)
  refine xb_if hf (fun c hf => ?_) (fun n6 hf => ?_)
  · refine xm_tableIn 94 dL_sign_1 (by rw [c]; decide) (by rw [c]; decide) (by rw [c]; rfl) (by decide) ?_
    refine xm_bipush dL_sign_94 (v := 33) (by decide) ?_
    cases hf
    exact xm_zret dL_sign_96 rfl rfl (hR _ rfl)
  refine xb_if hf (fun c hf => ?_) (fun n7 hf => ?_)
  · refine xm_tableIn 97 dL_sign_1 (by rw [c]; decide) (by rw [c]; decide) (by rw [c]; rfl) (by decide) ?_
    refine xm_bipush dL_sign_97 (v := 38) (by decide) ?_
    cases hf
    exact xm_zret dL_sign_99 rfl rfl (hR _ rfl)
  refine xb_if hf (fun c hf => ?_) (fun n8 hf => ?_)
  · refine xm_tableIn 100 dL_sign_1 (by rw [c]; decide) (by rw [c]; decide) (by rw [c]; rfl) (by decide) ?_
    refine xm_bipush dL_sign_100 (v := 124) (by decide) ?_
    cases hf
    exact xm_zret dL_sign_102 rfl rfl (hR _ rfl)
  refine xb_if hf (fun c hf => ?_) (fun n9 hf => ?_)
  · refine xm_tableIn 103 dL_sign_1 (by rw [c]; decide) (by rw [c]; decide) (by rw [c]; rfl) (by decide) ?_
    refine xm_bipush dL_sign_103 (v := 60) (by decide) ?_
    cases hf
    exact xm_zret dL_sign_105 rfl rfl (hR _ rfl)
  refine xb_if hf (fun c hf => ?_) (fun n10 hf => ?_)
  · refine xm_tableIn 106 dL_sign_1 (by rw [c]; decide) (by rw [c]; decide) (by rw [c]; rfl) (by decide) ?_
    refine xm_bipush dL_sign_106 (v := 62) (by decide) ?_
    cases hf
    exact xm_zret dL_sign_108 rfl rfl (hR _ rfl)
  refine xb_if hf (fun c hf => ?_) (fun n11 hf => ?_)
  · refine xm_tableIn 109 dL_sign_1 (by rw [c]; decide) (by rw [c]; decide) (by rw [c]; rfl) (by decide) ?_
    refine xm_bipush dL_sign_109 (v := 61) (by decide) ?_
    cases hf
    exact xm_zret dL_sign_111 rfl rfl (hR _ rfl)
  refine xb_if hf (fun c hf => ?_) (fun n12 hf => ?_)
  · refine xm_tableIn 112 dL_sign_1 (by rw [c]; decide) (by rw [c]; decide) (by rw [c]; rfl) (by decide) ?_
    refine xm_bipush dL_sign_112 (v := 126) (by decide) ?_
    cases hf
    exact xm_zret dL_sign_114 rfl rfl (hR _ rfl)
  refine xb_if hf (fun c hf => ?_) (fun n13 hf => ?_)
  · refine xm_tableIn 115 dL_sign_1 (by rw [c]; decide) (by rw [c]; decide) (by rw [c]; rfl) (by decide) ?_
    refine xm_bipush dL_sign_115 (v := 64) (by decide) ?_
    cases hf
    exact xm_zret dL_sign_117 rfl rfl (hR _ rfl)
  refine xb_if hf (fun c hf => ?_) (fun n14 hf => ?_)
  · refine xm_tableIn 118 dL_sign_1 (by rw [c]; decide) (by rw [c]; decide) (by rw [c]; rfl) (by decide) ?_
    refine xm_bipush dL_sign_118 (v := 35) (by decide) ?_
    cases hf
    exact xm_zret dL_sign_120 rfl rfl (hR _ rfl)
  refine xm_tableOut 121 dL_sign_1 (by have q0 := lv_neT (a := 0) n0 (by decide); have q1 := lv_neT (a := 1) n1 (by decide); have q2 := lv_neT (a := 2) n2 (by decide); have q3 := lv_neT (a := 3) n3 (by decide); have q4 := lv_neT (a := 4) n4 (by decide); have q5 := lv_neT (a := 5) n5 (by decide); have q6 := lv_neT (a := 6) n6 (by decide); have q7 := lv_neT (a := 7) n7 (by decide); have q8 := lv_neT (a := 8) n8 (by decide); have q9 := lv_neT (a := 9) n9 (by decide); have q10 := lv_neT (a := 10) n10 (by decide); have q11 := lv_neT (a := 11) n11 (by decide); have q12 := lv_neT (a := 12) n12 (by decide); have q13 := lv_neT (a := 13) n13 (by decide); have q14 := lv_neT (a := 14) n14 (by decide); omega) (by decide) ?_
  refine xm_bipush dL_sign_121 (v := 63) (by decide) ?_
  cases hf
  exact xm_zret dL_sign_123 rfl rfl (hR _ rfl)
-- law: mayTell
