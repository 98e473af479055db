set_option maxRecDepth 20000 in
set_option maxHeartbeats 4000000 in
theorem wX11_law_52 (Γ : pn_G)  : ∀ (n9 : Nat) (l1 : Int32) (l2 : Int32) (σ : pn_S), pn_W9 Γ 64 mX11_law pn_i 52 [.ref 85, .int l1, .int l2] [] σ (fX11_law_52 n9 l1 l2 σ) := by
  intro n9
  induction n9 with
  | zero => intro l1 l2 σ; exact pn_none
  | succ n9 ih =>
    intro l1 l2 σ
    rw [fX11_law_52]
    refine pn_iload_n dX11_law_52 rfl rfl rfl ?_
    refine pn_sipush dX11_law_53 rfl sc_849 ?_
    refine pn_icmp_ge (tgt := 85) dX11_law_56 rfl rfl (fun c6 => ?_) (fun c6 => ?_)
    · refine pn_aload_n dX11_law_85 rfl rfl rfl ?_
      refine pn_geta dX11_law_86 rfl lf_X11_13_10 qt_85 qk_85 qr_85_1 qt_86 ?_
      refine pn_iconst dX11_law_89 rfl ic_2 ?_
      refine pn_iconst dX11_law_90 rfl ic_1 ?_
      refine pn_iastc dX11_law_91 rfl qt_86 qk_86 ql_86 (by decide) qn_2 ?_
      refine pn_aload_n dX11_law_92 rfl rfl rfl ?_
      refine pn_iconst dX11_law_93 rfl ic_0 ?_
      refine pn_puti dX11_law_94 rfl lf_X11_52_10 (fpi_10_7 (0 : Int32)) qt_85 qk_85 qr_85_7 ?_
      refine pn_iload_n dX11_law_97 rfl rfl rfl ?_
      exact pn_iretv dX11_law_98 rfl rfl rfl
    · refine pn_aload_n dX11_law_59 rfl rfl rfl ?_
      refine pn_geta dX11_law_60 rfl lf_X11_13_10 qt_85 qk_85 qr_85_1 qt_86 ?_
      refine pn_sipush dX11_law_63 rfl sc_317 ?_
      refine pn_iload_n dX11_law_66 rfl rfl rfl ?_
      refine pn_iadd dX11_law_67 rfl ?_
      refine pn_aload_n dX11_law_68 rfl rfl rfl ?_
      refine pn_geta dX11_law_69 rfl lf_X11_13_10 qt_85 qk_85 qr_85_1 qt_86 ?_
      refine pn_sipush dX11_law_72 rfl sc_1166 ?_
      refine pn_iload_n dX11_law_75 rfl rfl rfl ?_
      refine pn_iadd dX11_law_76 rfl ?_
      refine pn_iald dX11_law_77 rfl qt_86 qk_86 ql_86 ?_
      refine pn_iast dX11_law_78 rfl qt_86 qk_86 ql_86 ?_
      refine pn_iinc (ls' := [.ref 85, .int l1, .int (l2 + (1 : Int32))]) dX11_law_79 rfl (Nat.le_of_ble_eq_true rfl) rfl (congrArg (fun z => l2 + z) ic_1) rfl ?_
      refine pn_goto (pc' := 52) dX11_law_82 rfl ?_
      exact ih l1 (l2 + (1 : Int32)) (pn_up σ 86 (Int32.toNatClampNeg ((317 : Int32) + l2)) (σ 86 (Int32.toNatClampNeg ((1166 : Int32) + l2))))

set_option maxRecDepth 20000 in
set_option maxHeartbeats 4000000 in
theorem wX11_law_32 (Γ : pn_G)  (l1 : Int32) (s1 : Int32) (σ : pn_S) : pn_W9 Γ 64 mX11_law pn_i 32 [.ref 85, .int l1, .null] [.int s1, .ref 85] σ (fX11_law_32 l1 s1 σ) := by
  rw [fX11_law_32]
  refine pn_iconst dX11_law_32 rfl ic_1 ?_
  refine pn_ci (fun r9 h9 => pn_LKV dX11_law_33 lm_X11_240 (ct_X11_throwsIf Γ s1 (1 : Int32) σ r9 h9) (by decide) qt_85 qk_85 rfl rfl (Nat.le_of_ble_eq_true rfl)) rfl (fun x4 σ4 => ?_)
  refine pn_if_eq (tgt := 41) dX11_law_36 rfl rfl (fun c5 => ?_) (fun c5 => ?_)
  · refine pn_aload_n dX11_law_41 rfl rfl rfl ?_
    refine pn_geta dX11_law_42 rfl lf_X11_13_10 qt_85 qk_85 qr_85_1 qt_86 ?_
    refine pn_sipush dX11_law_45 rfl sc_1166 ?_
    refine pn_iload_n dX11_law_48 rfl rfl rfl ?_
    refine pn_iastc dX11_law_49 rfl qt_86 qk_86 ql_86 (by decide) qn_1166 ?_
    refine pn_iconst dX11_law_50 rfl ic_0 ?_
    refine pn_istore_n (ls' := [.ref 85, .int l1, .int (0 : Int32)]) dX11_law_51 rfl rfl (Nat.le_of_ble_eq_true rfl) rfl ?_
    exact wX11_law_52 Γ 5000 l1 (0 : Int32) (pn_up σ4 86 1166 l1)
  · refine pn_iconst dX11_law_39 rfl ic_0 ?_
    exact pn_iretv dX11_law_40 rfl rfl rfl

set_option maxRecDepth 20000 in
set_option maxHeartbeats 4000000 in
theorem wX11_law_19 (Γ : pn_G)  (l1 : Int32) (s1 : Int32) (σ : pn_S) : pn_W9 Γ 64 mX11_law pn_i 19 [.ref 85, .int l1, .null] [.int s1, .ref 85] σ (fX11_law_19 l1 s1 σ) := by
  rw [fX11_law_19]
  refine pn_puti dX11_law_19 rfl lf_X11_33_10 (fpi_10_14 s1) qt_85 qk_85 qr_85_14 ?_
  refine pn_aload_n dX11_law_22 rfl rfl rfl ?_
  refine pn_iload_n dX11_law_23 rfl rfl rfl ?_
  refine pn_if_ge (tgt := 31) dX11_law_24 rfl rfl (fun c3 => ?_) (fun c3 => ?_)
  · refine pn_iconst dX11_law_31 rfl ic_0 ?_
    exact wX11_law_32 Γ l1 (0 : Int32) (pn_up σ 85 14 s1)
  · refine pn_iconst dX11_law_27 rfl ic_1 ?_
    refine pn_goto (pc' := 32) dX11_law_28 rfl ?_
    exact wX11_law_32 Γ l1 (1 : Int32) (pn_up σ 85 14 s1)

set_option maxRecDepth 20000 in
set_option maxHeartbeats 4000000 in
theorem ct_X11_law (Γ : pn_G)  (σ : pn_S) : ∀ r, fX11_law  σ = some r → pn_C Γ 64 mX11_law [.ref 85] σ (pn_i r) := by
  refine pn_of (ls := [.ref 85, .null, .null]) (by decide) rfl (pn_cat rfl) rfl (Nat.le_of_ble_eq_true rfl) ?_
  rw [fX11_law]
  refine pn_aload_n dX11_law_0 rfl rfl rfl ?_
  refine pn_iconst dX11_law_1 rfl ic_0 ?_
  refine pn_ci (fun r9 h9 => pn_LKV dX11_law_2 lm_X11_236 (ct_X11_readAll Γ (0 : Int32) σ r9 h9) (by decide) qt_85 qk_85 rfl rfl (Nat.le_of_ble_eq_true rfl)) rfl (fun x1 σ1 => ?_)
  refine pn_istore_n (ls' := [.ref 85, .int x1, .null]) dX11_law_5 rfl rfl (Nat.le_of_ble_eq_true rfl) rfl ?_
  refine pn_aload_n dX11_law_6 rfl rfl rfl ?_
  refine pn_iload_n dX11_law_7 rfl rfl rfl ?_
  refine pn_if_ge (tgt := 18) dX11_law_8 rfl rfl (fun c2 => ?_) (fun c2 => ?_)
  · refine pn_iconst dX11_law_18 rfl ic_m1 ?_
    exact wX11_law_19 Γ x1 (-1 : Int32) σ1
  · refine pn_aload_n dX11_law_11 rfl rfl rfl ?_
    refine pn_geti dX11_law_12 rfl lf_X11_84_10 qt_85 qk_85 qr_85_12 ?_
    refine pn_goto (pc' := 19) dX11_law_15 rfl ?_
    exact wX11_law_19 Γ x1 (σ1 85 12) σ1

set_option maxRecDepth 20000 in
set_option maxHeartbeats 4000000 in
theorem ct_X11_factOf (Γ : pn_G) (a1 : Int32) (a2 : Int32) (a3 : Int32) (a4 : Int32) (σ : pn_S) : ∀ r, fX11_factOf a1 a2 a3 a4 σ = some r → pn_C Γ 3 mX11_factOf [.ref 85, .int a1, .int a2, .int a3, .int a4] σ ((pn_p σ) r) := by
  refine pn_of (ls := [.ref 85, .int a1, .int a2, .int a3, .int a4]) (by decide) rfl (pn_cat rfl) rfl (Nat.le_of_ble_eq_true rfl) ?_
  rw [fX11_factOf]
  refine pn_iload_n dX11_factOf_0 rfl rfl rfl ?_
  refine pn_tabc (v := (0 : Int32)) (tgt := 56) (off := 55) dX11_factOf_1 (by decide) (by decide) (by decide) rfl (fun c1 => ?_) (fun c1 => ?_)
  · refine pn_iload_n dX11_factOf_56 rfl rfl rfl ?_
    exact pn_iretv dX11_factOf_57 rfl rfl rfl
  refine pn_tabc (v := (1 : Int32)) (tgt := 58) (off := 57) dX11_factOf_1 (by decide) (by decide) (by decide) rfl (fun c2 => ?_) (fun c2 => ?_)
  · refine pn_aload_n dX11_factOf_58 rfl rfl rfl ?_
    refine pn_iload_n dX11_factOf_59 rfl rfl rfl ?_
    refine pn_iconst dX11_factOf_60 rfl ic_1 ?_
    refine pn_cp (fun r9 h9 => pn_LKV dX11_factOf_61 lm_X11_67 (ct_X11_of Γ a3 (1 : Int32) σ r9 h9) (by decide) qt_85 qk_85 rfl rfl (Nat.le_of_ble_eq_true rfl)) rfl (fun x3 => ?_)
    exact pn_iretv dX11_factOf_64 rfl rfl rfl
  refine pn_tabc (v := (2 : Int32)) (tgt := 65) (off := 64) dX11_factOf_1 (by decide) (by decide) (by decide) rfl (fun c4 => ?_) (fun c4 => ?_)
  · refine pn_aload_n dX11_factOf_65 rfl rfl rfl ?_
    refine pn_iload_n dX11_factOf_66 rfl rfl rfl ?_
    refine pn_iconst dX11_factOf_67 rfl ic_0 ?_
    refine pn_cp (fun r9 h9 => pn_LKV dX11_factOf_68 lm_X11_67 (ct_X11_of Γ a3 (0 : Int32) σ r9 h9) (by decide) qt_85 qk_85 rfl rfl (Nat.le_of_ble_eq_true rfl)) rfl (fun x5 => ?_)
    exact pn_iretv dX11_factOf_71 rfl rfl rfl
  refine pn_tabc (v := (3 : Int32)) (tgt := 72) (off := 71) dX11_factOf_1 (by decide) (by decide) (by decide) rfl (fun c6 => ?_) (fun c6 => ?_)
  · refine pn_aload_n dX11_factOf_72 rfl rfl rfl ?_
    refine pn_iload dX11_factOf_73 rfl rfl ?_
    refine pn_iconst dX11_factOf_75 rfl ic_4 ?_
    refine pn_cp (fun r9 h9 => pn_LKV dX11_factOf_76 lm_X11_67 (ct_X11_of Γ a4 (4 : Int32) σ r9 h9) (by decide) qt_85 qk_85 rfl rfl (Nat.le_of_ble_eq_true rfl)) rfl (fun x7 => ?_)
    exact pn_iretv dX11_factOf_79 rfl rfl rfl
  refine pn_tabc (v := (4 : Int32)) (tgt := 80) (off := 79) dX11_factOf_1 (by decide) (by decide) (by decide) rfl (fun c8 => ?_) (fun c8 => ?_)
  · refine pn_aload_n dX11_factOf_80 rfl rfl rfl ?_
    refine pn_iload dX11_factOf_81 rfl rfl ?_
    refine pn_iconst dX11_factOf_83 rfl ic_3 ?_
    refine pn_cp (fun r9 h9 => pn_LKV dX11_factOf_84 lm_X11_67 (ct_X11_of Γ a4 (3 : Int32) σ r9 h9) (by decide) qt_85 qk_85 rfl rfl (Nat.le_of_ble_eq_true rfl)) rfl (fun x9 => ?_)
    exact pn_iretv dX11_factOf_87 rfl rfl rfl
  refine pn_tabc (v := (5 : Int32)) (tgt := 88) (off := 87) dX11_factOf_1 (by decide) (by decide) (by decide) rfl (fun c10 => ?_) (fun c10 => ?_)
  · refine pn_aload_n dX11_factOf_88 rfl rfl rfl ?_
    refine pn_geta dX11_factOf_89 rfl lf_X11_13_10 qt_85 qk_85 qr_85_1 qt_86 ?_
    refine pn_iconst dX11_factOf_92 rfl ic_5 ?_
    refine pn_ialdc dX11_factOf_93 rfl qt_86 qk_86 ql_86 (by decide) qn_5 ?_
    refine pn_iload dX11_factOf_94 rfl rfl ?_
    refine pn_icmp_ne (tgt := 109) dX11_factOf_96 rfl rfl (fun c11 => ?_) (fun c11 => ?_)
    · refine pn_aload_n dX11_factOf_99 rfl rfl rfl ?_
      refine pn_geta dX11_factOf_100 rfl lf_X11_13_10 qt_85 qk_85 qr_85_1 qt_86 ?_
      refine pn_bipush dX11_factOf_103 rfl bc_6 ?_
      refine pn_ialdc dX11_factOf_105 rfl qt_86 qk_86 ql_86 (by decide) qn_6 ?_
      refine pn_goto (pc' := 110) dX11_factOf_106 rfl ?_
      exact pn_iretv dX11_factOf_110 rfl rfl rfl
    · refine pn_iconst dX11_factOf_109 rfl ic_0 ?_
      exact pn_iretv dX11_factOf_110 rfl rfl rfl
  refine pn_tabc (v := (6 : Int32)) (tgt := 111) (off := 110) dX11_factOf_1 (by decide) (by decide) (by decide) rfl (fun c12 => ?_) (fun c12 => ?_)
  · refine pn_aload_n dX11_factOf_111 rfl rfl rfl ?_
    refine pn_geta dX11_factOf_112 rfl lf_X11_13_10 qt_85 qk_85 qr_85_1 qt_86 ?_
    refine pn_iconst dX11_factOf_115 rfl ic_3 ?_
    refine pn_ialdc dX11_factOf_116 rfl qt_86 qk_86 ql_86 (by decide) qn_3 ?_
    exact pn_iretv dX11_factOf_117 rfl rfl rfl
  refine pn_tabc (v := (7 : Int32)) (tgt := 118) (off := 117) dX11_factOf_1 (by decide) (by decide) (by decide) rfl (fun c13 => ?_) (fun c13 => ?_)
  · refine pn_aload_n dX11_factOf_118 rfl rfl rfl ?_
    refine pn_iload_n dX11_factOf_119 rfl rfl rfl ?_
    refine pn_iconst dX11_factOf_120 rfl ic_5 ?_
    refine pn_cp (fun r9 h9 => pn_LKV dX11_factOf_121 lm_X11_67 (ct_X11_of Γ a3 (5 : Int32) σ r9 h9) (by decide) qt_85 qk_85 rfl rfl (Nat.le_of_ble_eq_true rfl)) rfl (fun x14 => ?_)
    refine pn_iload dX11_factOf_124 rfl rfl ?_
    refine pn_icmp_ne (tgt := 133) dX11_factOf_126 rfl rfl (fun c15 => ?_) (fun c15 => ?_)
    · refine pn_iconst dX11_factOf_129 rfl ic_1 ?_
      refine pn_goto (pc' := 134) dX11_factOf_130 rfl ?_
      exact pn_iretv dX11_factOf_134 rfl rfl rfl
    · refine pn_iconst dX11_factOf_133 rfl ic_0 ?_
      exact pn_iretv dX11_factOf_134 rfl rfl rfl
  refine pn_tabc (v := (8 : Int32)) (tgt := 135) (off := 134) dX11_factOf_1 (by decide) (by decide) (by decide) rfl (fun c16 => ?_) (fun c16 => ?_)
  · refine pn_aload_n dX11_factOf_135 rfl rfl rfl ?_
    refine pn_iload dX11_factOf_136 rfl rfl ?_
    refine pn_bipush dX11_factOf_138 rfl bc_6 ?_
    refine pn_cp (fun r9 h9 => pn_LKV dX11_factOf_140 lm_X11_67 (ct_X11_of Γ a4 (6 : Int32) σ r9 h9) (by decide) qt_85 qk_85 rfl rfl (Nat.le_of_ble_eq_true rfl)) rfl (fun x17 => ?_)
    exact pn_iretv dX11_factOf_143 rfl rfl rfl
  refine pn_tabc (v := (9 : Int32)) (tgt := 144) (off := 143) dX11_factOf_1 (by decide) (by decide) (by decide) rfl (fun c18 => ?_) (fun c18 => ?_)
  · refine pn_aload_n dX11_factOf_144 rfl rfl rfl ?_
    refine pn_geta dX11_factOf_145 rfl lf_X11_13_10 qt_85 qk_85 qr_85_1 qt_86 ?_
    refine pn_iconst dX11_factOf_148 rfl ic_4 ?_
    refine pn_ialdc dX11_factOf_149 rfl qt_86 qk_86 ql_86 (by decide) qn_4 ?_
    exact pn_iretv dX11_factOf_150 rfl rfl rfl
  refine pn_tabd (tgt := 151) [(0 : Int32), (1 : Int32), (2 : Int32), (3 : Int32), (4 : Int32), (5 : Int32), (6 : Int32), (7 : Int32), (8 : Int32), (9 : Int32)] dX11_factOf_1 (by decide) (by decide) rfl (pn_an c1 (pn_an c2 (pn_an c4 (pn_an c6 (pn_an c8 (pn_an c10 (pn_an c12 (pn_an c13 (pn_an c16 (pn_an c18 pn_a0)))))))))) ?_
  refine pn_iload_n dX11_factOf_151 rfl rfl rfl ?_
  exact pn_iretv dX11_factOf_152 rfl rfl rfl

set_option maxRecDepth 20000 in
set_option maxHeartbeats 4000000 in
theorem wX11_holdsLine_264 (Γ : pn_G)  (rec23 : Int32 → Int32 → Int32 → Int32 → Int32 → pn_S → Option (Int32 × pn_S)) (hrec23 : ∀ (l2 : Int32) (l3 : Int32) (l4 : Int32) (l5 : Int32) (l6 : Int32) (σ : pn_S), pn_W9 Γ 4 mX11_holdsLine pn_i 23 [.ref 85, .null, .int l2, .int l3, .int l4, .int l5, .int l6, .null, .null, .null, .null] [] σ (rec23 l2 l3 l4 l5 l6 σ)) (l2 : Int32) (l3 : Int32) (l4 : Int32) (l5 : Int32) (l6 : Int32) (s1 : Int32) (s2 : Int32) (σ : pn_S) : pn_W9 Γ 4 mX11_holdsLine pn_i 264 [.ref 85, .null, .int l2, .int l3, .int l4, .int l5, .int l6, .null, .null, .null, .null] [.int s2, .int s1, .ref 93] σ (fX11_holdsLine_264 rec23 l2 l3 l4 l5 l6 s1 s2 σ) := by
  rw [fX11_holdsLine_264]
  refine pn_iast dX11_holdsLine_264 rfl qt_93 qk_93 ql_93 ?_
  refine pn_iinc (ls' := [.ref 85, .null, .int l2, .int l3, .int l4, .int l5, .int (l6 + (1 : Int32)), .null, .null, .null, .null]) dX11_holdsLine_265 rfl (Nat.le_of_ble_eq_true rfl) rfl (congrArg (fun z => l6 + z) ic_1) rfl ?_
  refine pn_goto (pc' := 23) dX11_holdsLine_268 rfl ?_
  exact hrec23 l2 l3 l4 l5 (l6 + (1 : Int32)) (pn_up σ 93 (Int32.toNatClampNeg s1) s2)

set_option maxRecDepth 20000 in
set_option maxHeartbeats 4000000 in
theorem wX11_holdsLine_229 (Γ : pn_G)  (rec23 : Int32 → Int32 → Int32 → Int32 → Int32 → pn_S → Option (Int32 × pn_S)) (hrec23 : ∀ (l2 : Int32) (l3 : Int32) (l4 : Int32) (l5 : Int32) (l6 : Int32) (σ : pn_S), pn_W9 Γ 4 mX11_holdsLine pn_i 23 [.ref 85, .null, .int l2, .int l3, .int l4, .int l5, .int l6, .null, .null, .null, .null] [] σ (rec23 l2 l3 l4 l5 l6 σ)) (l2 : Int32) (l3 : Int32) (l4 : Int32) (l5 : Int32) (l6 : Int32) (l7 : Int32) (l8 : Int32) (l9 : Int32) (s0 : Int32) (σ : pn_S) : pn_W9 Γ 4 mX11_holdsLine pn_i 229 [.ref 85, .null, .int l2, .int l3, .int l4, .int l5, .int l6, .int l7, .int l8, .int l9, .null] [.int s0] σ (fX11_holdsLine_229 rec23 l2 l3 l4 l5 l6 l7 l8 l9 s0 σ) := by
  rw [fX11_holdsLine_229]
  refine pn_istore (ls' := [.ref 85, .null, .int l2, .int l3, .int l4, .int l5, .int l6, .int l7, .int l8, .int l9, .int s0]) dX11_holdsLine_229 rfl (Nat.le_of_ble_eq_true rfl) rfl ?_
  refine pn_aload_n dX11_holdsLine_231 rfl rfl rfl ?_
  refine pn_geta dX11_holdsLine_232 rfl lf_X11_39_10 qt_85 qk_85 qr_85_17 qt_93 ?_
  refine pn_iload dX11_holdsLine_235 rfl rfl ?_
  refine pn_iconst dX11_holdsLine_237 rfl ic_1 ?_
  refine pn_isub dX11_holdsLine_238 rfl ?_
  refine pn_iload dX11_holdsLine_239 rfl rfl ?_
  refine pn_bipush dX11_holdsLine_241 rfl bc_11 ?_
  refine pn_icmp_ne (tgt := 254) dX11_holdsLine_243 rfl rfl (fun c8 => ?_) (fun c8 => ?_)
  · refine pn_iload dX11_holdsLine_246 rfl rfl ?_
    refine pn_iload dX11_holdsLine_248 rfl rfl ?_
    refine pn_iadd dX11_holdsLine_250 rfl ?_
    refine pn_goto (pc' := 264) dX11_holdsLine_251 rfl ?_
    exact pn_wk (pn_leC rfl (pn_leN (pn_leC rfl (pn_leC rfl (pn_leC rfl (pn_leC rfl (pn_leC rfl (pn_leN (pn_leN (pn_leN (pn_leN pn_le0))))))))))) (wX11_holdsLine_264 Γ (rec23) (hrec23) l2 l3 l4 l5 l6 (l4 - (1 : Int32)) (l8 + l9) σ)
  · refine pn_iload dX11_holdsLine_254 rfl rfl ?_
    refine pn_if_eq (tgt := 263) dX11_holdsLine_256 rfl rfl (fun c9 => ?_) (fun c9 => ?_)
    · refine pn_iconst dX11_holdsLine_263 rfl ic_0 ?_
      exact pn_wk (pn_leC rfl (pn_leN (pn_leC rfl (pn_leC rfl (pn_leC rfl (pn_leC rfl (pn_leC rfl (pn_leN (pn_leN (pn_leN (pn_leN pn_le0))))))))))) (wX11_holdsLine_264 Γ (rec23) (hrec23) l2 l3 l4 l5 l6 (l4 - (1 : Int32)) (0 : Int32) σ)
    · refine pn_iconst dX11_holdsLine_259 rfl ic_1 ?_
      refine pn_goto (pc' := 264) dX11_holdsLine_260 rfl ?_
      exact pn_wk (pn_leC rfl (pn_leN (pn_leC rfl (pn_leC rfl (pn_leC rfl (pn_leC rfl (pn_leC rfl (pn_leN (pn_leN (pn_leN (pn_leN pn_le0))))))))))) (wX11_holdsLine_264 Γ (rec23) (hrec23) l2 l3 l4 l5 l6 (l4 - (1 : Int32)) (1 : Int32) σ)

set_option maxRecDepth 20000 in
set_option maxHeartbeats 4000000 in
theorem wX11_holdsLine_23 (Γ : pn_G)  : ∀ (n9 : Nat) (l2 : Int32) (l3 : Int32) (l4 : Int32) (l5 : Int32) (l6 : Int32) (σ : pn_S), pn_W9 Γ 4 mX11_holdsLine pn_i 23 [.ref 85, .null, .int l2, .int l3, .int l4, .int l5, .int l6, .null, .null, .null, .null] [] σ (fX11_holdsLine_23 n9 l2 l3 l4 l5 l6 σ) := by
  intro n9
  induction n9 with
  | zero => intro l2 l3 l4 l5 l6 σ; exact pn_none
  | succ n9 ih =>
    intro l2 l3 l4 l5 l6 σ
    rw [fX11_holdsLine_23]
    refine pn_iload dX11_holdsLine_23 rfl rfl ?_
    refine pn_aload_n dX11_holdsLine_25 rfl rfl rfl ?_
    refine pn_geta dX11_holdsLine_26 rfl lf_X11_13_10 qt_85 qk_85 qr_85_1 qt_86 ?_
    refine pn_iload dX11_holdsLine_29 rfl rfl ?_
    refine pn_iconst dX11_holdsLine_31 rfl ic_3 ?_
    refine pn_iadd dX11_holdsLine_32 rfl ?_
    refine pn_iald dX11_holdsLine_33 rfl qt_86 qk_86 ql_86 ?_
    refine pn_icmp_ge (tgt := 271) dX11_holdsLine_34 rfl rfl (fun c1 => ?_) (fun c1 => ?_)
    · refine pn_iload dX11_holdsLine_271 rfl rfl ?_
      refine pn_if_eq (tgt := 286) dX11_holdsLine_273 rfl rfl (fun c2 => ?_) (fun c2 => ?_)
      · refine pn_iconst dX11_holdsLine_286 rfl ic_1 ?_
        refine pn_goto (pc' := 291) dX11_holdsLine_287 rfl ?_
        exact pn_iretv dX11_holdsLine_291 rfl rfl rfl
      · refine pn_aload_n dX11_holdsLine_276 rfl rfl rfl ?_
        refine pn_geta dX11_holdsLine_277 rfl lf_X11_39_10 qt_85 qk_85 qr_85_17 qt_93 ?_
        refine pn_iconst dX11_holdsLine_280 rfl ic_0 ?_
        refine pn_ialdc dX11_holdsLine_281 rfl qt_93 qk_93 ql_93 (by decide) qn_0 ?_
        refine pn_iconst dX11_holdsLine_282 rfl ic_1 ?_
        refine pn_icmp_ne (tgt := 290) dX11_holdsLine_283 rfl rfl (fun c3 => ?_) (fun c3 => ?_)
        · refine pn_iconst dX11_holdsLine_286 rfl ic_1 ?_
          refine pn_goto (pc' := 291) dX11_holdsLine_287 rfl ?_
          exact pn_iretv dX11_holdsLine_291 rfl rfl rfl
        · refine pn_iconst dX11_holdsLine_290 rfl ic_0 ?_
          exact pn_iretv dX11_holdsLine_291 rfl rfl rfl
    · refine pn_aload_n dX11_holdsLine_37 rfl rfl rfl ?_
      refine pn_geta dX11_holdsLine_38 rfl lf_X11_13_10 qt_85 qk_85 qr_85_1 qt_86 ?_
      refine pn_sipush dX11_holdsLine_41 rfl sc_366 ?_
      refine pn_iconst dX11_holdsLine_44 rfl ic_2 ?_
      refine pn_iload dX11_holdsLine_45 rfl rfl ?_
      refine pn_imul dX11_holdsLine_47 rfl ?_
      refine pn_iadd dX11_holdsLine_48 rfl ?_
      refine pn_iald dX11_holdsLine_49 rfl qt_86 qk_86 ql_86 ?_
      refine pn_istore (ls' := [.ref 85, .null, .int l2, .int l3, .int l4, .int l5, .int l6, .int (σ 86 (Int32.toNatClampNeg ((366 : Int32) + ((2 : Int32) * l6)))), .null, .null, .null]) dX11_holdsLine_50 rfl (Nat.le_of_ble_eq_true rfl) rfl ?_
      refine pn_iload dX11_holdsLine_52 rfl rfl ?_
      refine pn_bipush dX11_holdsLine_54 rfl bc_10 ?_
      refine pn_icmp_gt (tgt := 95) dX11_holdsLine_56 rfl rfl (fun c4 => ?_) (fun c4 => ?_)
      · refine pn_iload dX11_holdsLine_95 rfl rfl ?_
        refine pn_bipush dX11_holdsLine_97 rfl bc_14 ?_
        refine pn_icmp_ne (tgt := 125) dX11_holdsLine_99 rfl rfl (fun c5 => ?_) (fun c5 => ?_)
        · refine pn_aload_n dX11_holdsLine_102 rfl rfl rfl ?_
          refine pn_geta dX11_holdsLine_103 rfl lf_X11_39_10 qt_85 qk_85 qr_85_17 qt_93 ?_
          refine pn_iload dX11_holdsLine_106 rfl rfl ?_
          refine pn_iconst dX11_holdsLine_108 rfl ic_1 ?_
          refine pn_isub dX11_holdsLine_109 rfl ?_
          refine pn_iconst dX11_holdsLine_110 rfl ic_1 ?_
          refine pn_aload_n dX11_holdsLine_111 rfl rfl rfl ?_
          refine pn_geta dX11_holdsLine_112 rfl lf_X11_39_10 qt_85 qk_85 qr_85_17 qt_93 ?_
          refine pn_iload dX11_holdsLine_115 rfl rfl ?_
          refine pn_iconst dX11_holdsLine_117 rfl ic_1 ?_
          refine pn_isub dX11_holdsLine_118 rfl ?_
          refine pn_iald dX11_holdsLine_119 rfl qt_93 qk_93 ql_93 ?_
          refine pn_isub dX11_holdsLine_120 rfl ?_
          refine pn_iast dX11_holdsLine_121 rfl qt_93 qk_93 ql_93 ?_
          refine pn_goto (pc' := 265) dX11_holdsLine_122 rfl ?_
          refine pn_iinc (ls' := [.ref 85, .null, .int l2, .int l3, .int l4, .int l5, .int (l6 + (1 : Int32)), .int (σ 86 (Int32.toNatClampNeg ((366 : Int32) + ((2 : Int32) * l6)))), .null, .null, .null]) dX11_holdsLine_265 rfl (Nat.le_of_ble_eq_true rfl) rfl (congrArg (fun z => l6 + z) ic_1) rfl ?_
          refine pn_goto (pc' := 23) dX11_holdsLine_268 rfl ?_
          exact pn_wk (pn_leC rfl (pn_leN (pn_leC rfl (pn_leC rfl (pn_leC rfl (pn_leC rfl (pn_leC rfl (pn_leN (pn_leN (pn_leN (pn_leN pn_le0))))))))))) (ih l2 l3 l4 l5 (l6 + (1 : Int32)) (pn_up σ 93 (Int32.toNatClampNeg (l4 - (1 : Int32))) ((1 : Int32) - (σ 93 (Int32.toNatClampNeg (l4 - (1 : Int32)))))))
        · refine pn_iinc (ls' := [.ref 85, .null, .int l2, .int l3, .int (l4 + (-1 : Int32)), .int l5, .int l6, .int (σ 86 (Int32.toNatClampNeg ((366 : Int32) + ((2 : Int32) * l6)))), .null, .null, .null]) dX11_holdsLine_125 rfl (Nat.le_of_ble_eq_true rfl) rfl (congrArg (fun z => l4 + z) ic_m1) rfl ?_
          refine pn_aload_n dX11_holdsLine_128 rfl rfl rfl ?_
          refine pn_geta dX11_holdsLine_129 rfl lf_X11_39_10 qt_85 qk_85 qr_85_17 qt_93 ?_
          refine pn_iload dX11_holdsLine_132 rfl rfl ?_
          refine pn_iconst dX11_holdsLine_134 rfl ic_1 ?_
          refine pn_isub dX11_holdsLine_135 rfl ?_
          refine pn_iald dX11_holdsLine_136 rfl qt_93 qk_93 ql_93 ?_
          refine pn_istore (ls' := [.ref 85, .null, .int l2, .int l3, .int (l4 + (-1 : Int32)), .int l5, .int l6, .int (σ 86 (Int32.toNatClampNeg ((366 : Int32) + ((2 : Int32) * l6)))), .int (σ 93 (Int32.toNatClampNeg ((l4 + (-1 : Int32)) - (1 : Int32)))), .null, .null]) dX11_holdsLine_137 rfl (Nat.le_of_ble_eq_true rfl) rfl ?_
          refine pn_aload_n dX11_holdsLine_139 rfl rfl rfl ?_
          refine pn_geta dX11_holdsLine_140 rfl lf_X11_39_10 qt_85 qk_85 qr_85_17 qt_93 ?_
          refine pn_iload dX11_holdsLine_143 rfl rfl ?_
          refine pn_iald dX11_holdsLine_145 rfl qt_93 qk_93 ql_93 ?_
          refine pn_istore (ls' := [.ref 85, .null, .int l2, .int l3, .int (l4 + (-1 : Int32)), .int l5, .int l6, .int (σ 86 (Int32.toNatClampNeg ((366 : Int32) + ((2 : Int32) * l6)))), .int (σ 93 (Int32.toNatClampNeg ((l4 + (-1 : Int32)) - (1 : Int32)))), .int (σ 93 (Int32.toNatClampNeg (l4 + (-1 : Int32)))), .null]) dX11_holdsLine_146 rfl (Nat.le_of_ble_eq_true rfl) rfl ?_
          refine pn_iload dX11_holdsLine_148 rfl rfl ?_
          refine pn_bipush dX11_holdsLine_150 rfl bc_12 ?_
          refine pn_icmp_ne (tgt := 170) dX11_holdsLine_152 rfl rfl (fun c6 => ?_) (fun c6 => ?_)
          · refine pn_iload dX11_holdsLine_155 rfl rfl ?_
            refine pn_iload dX11_holdsLine_157 rfl rfl ?_
            refine pn_icmp_ge (tgt := 166) dX11_holdsLine_159 rfl rfl (fun c7 => ?_) (fun c7 => ?_)
            · refine pn_iconst dX11_holdsLine_166 rfl ic_0 ?_
              refine pn_goto (pc' := 229) dX11_holdsLine_167 rfl ?_
              exact wX11_holdsLine_229 Γ (fX11_holdsLine_23 n9) (ih) l2 l3 (l4 + (-1 : Int32)) l5 l6 (σ 86 (Int32.toNatClampNeg ((366 : Int32) + ((2 : Int32) * l6)))) (σ 93 (Int32.toNatClampNeg ((l4 + (-1 : Int32)) - (1 : Int32)))) (σ 93 (Int32.toNatClampNeg (l4 + (-1 : Int32)))) (0 : Int32) σ
            · refine pn_iconst dX11_holdsLine_162 rfl ic_1 ?_
              refine pn_goto (pc' := 229) dX11_holdsLine_163 rfl ?_
              exact wX11_holdsLine_229 Γ (fX11_holdsLine_23 n9) (ih) l2 l3 (l4 + (-1 : Int32)) l5 l6 (σ 86 (Int32.toNatClampNeg ((366 : Int32) + ((2 : Int32) * l6)))) (σ 93 (Int32.toNatClampNeg ((l4 + (-1 : Int32)) - (1 : Int32)))) (σ 93 (Int32.toNatClampNeg (l4 + (-1 : Int32)))) (1 : Int32) σ
          · refine pn_iload dX11_holdsLine_170 rfl rfl ?_
            refine pn_bipush dX11_holdsLine_172 rfl bc_13 ?_
            refine pn_icmp_ne (tgt := 192) dX11_holdsLine_174 rfl rfl (fun c10 => ?_) (fun c10 => ?_)
            · refine pn_iload dX11_holdsLine_177 rfl rfl ?_
              refine pn_iload dX11_holdsLine_179 rfl rfl ?_
              refine pn_icmp_le (tgt := 188) dX11_holdsLine_181 rfl rfl (fun c11 => ?_) (fun c11 => ?_)
              · refine pn_iconst dX11_holdsLine_188 rfl ic_0 ?_
                refine pn_goto (pc' := 229) dX11_holdsLine_189 rfl ?_
                exact wX11_holdsLine_229 Γ (fX11_holdsLine_23 n9) (ih) l2 l3 (l4 + (-1 : Int32)) l5 l6 (σ 86 (Int32.toNatClampNeg ((366 : Int32) + ((2 : Int32) * l6)))) (σ 93 (Int32.toNatClampNeg ((l4 + (-1 : Int32)) - (1 : Int32)))) (σ 93 (Int32.toNatClampNeg (l4 + (-1 : Int32)))) (0 : Int32) σ
              · refine pn_iconst dX11_holdsLine_184 rfl ic_1 ?_
                refine pn_goto (pc' := 229) dX11_holdsLine_185 rfl ?_
                exact wX11_holdsLine_229 Γ (fX11_holdsLine_23 n9) (ih) l2 l3 (l4 + (-1 : Int32)) l5 l6 (σ 86 (Int32.toNatClampNeg ((366 : Int32) + ((2 : Int32) * l6)))) (σ 93 (Int32.toNatClampNeg ((l4 + (-1 : Int32)) - (1 : Int32)))) (σ 93 (Int32.toNatClampNeg (l4 + (-1 : Int32)))) (1 : Int32) σ
            · refine pn_iload dX11_holdsLine_192 rfl rfl ?_
              refine pn_bipush dX11_holdsLine_194 rfl bc_15 ?_
              refine pn_icmp_ne (tgt := 216) dX11_holdsLine_196 rfl rfl (fun c12 => ?_) (fun c12 => ?_)
              · refine pn_iload dX11_holdsLine_199 rfl rfl ?_
                refine pn_iload dX11_holdsLine_201 rfl rfl ?_
                refine pn_iadd dX11_holdsLine_203 rfl ?_
                refine pn_iconst dX11_holdsLine_204 rfl ic_2 ?_
                refine pn_icmp_ne (tgt := 212) dX11_holdsLine_205 rfl rfl (fun c13 => ?_) (fun c13 => ?_)
                · refine pn_iconst dX11_holdsLine_208 rfl ic_1 ?_
                  refine pn_goto (pc' := 229) dX11_holdsLine_209 rfl ?_
                  exact wX11_holdsLine_229 Γ (fX11_holdsLine_23 n9) (ih) l2 l3 (l4 + (-1 : Int32)) l5 l6 (σ 86 (Int32.toNatClampNeg ((366 : Int32) + ((2 : Int32) * l6)))) (σ 93 (Int32.toNatClampNeg ((l4 + (-1 : Int32)) - (1 : Int32)))) (σ 93 (Int32.toNatClampNeg (l4 + (-1 : Int32)))) (1 : Int32) σ
                · refine pn_iconst dX11_holdsLine_212 rfl ic_0 ?_
                  refine pn_goto (pc' := 229) dX11_holdsLine_213 rfl ?_
                  exact wX11_holdsLine_229 Γ (fX11_holdsLine_23 n9) (ih) l2 l3 (l4 + (-1 : Int32)) l5 l6 (σ 86 (Int32.toNatClampNeg ((366 : Int32) + ((2 : Int32) * l6)))) (σ 93 (Int32.toNatClampNeg ((l4 + (-1 : Int32)) - (1 : Int32)))) (σ 93 (Int32.toNatClampNeg (l4 + (-1 : Int32)))) (0 : Int32) σ
              · refine pn_iload dX11_holdsLine_216 rfl rfl ?_
                refine pn_iload dX11_holdsLine_218 rfl rfl ?_
                refine pn_iadd dX11_holdsLine_220 rfl ?_
                refine pn_if_le (tgt := 228) dX11_holdsLine_221 rfl rfl (fun c14 => ?_) (fun c14 => ?_)
                · refine pn_iconst dX11_holdsLine_228 rfl ic_0 ?_
                  exact wX11_holdsLine_229 Γ (fX11_holdsLine_23 n9) (ih) l2 l3 (l4 + (-1 : Int32)) l5 l6 (σ 86 (Int32.toNatClampNeg ((366 : Int32) + ((2 : Int32) * l6)))) (σ 93 (Int32.toNatClampNeg ((l4 + (-1 : Int32)) - (1 : Int32)))) (σ 93 (Int32.toNatClampNeg (l4 + (-1 : Int32)))) (0 : Int32) σ
                · refine pn_iconst dX11_holdsLine_224 rfl ic_1 ?_
                  refine pn_goto (pc' := 229) dX11_holdsLine_225 rfl ?_
                  exact wX11_holdsLine_229 Γ (fX11_holdsLine_23 n9) (ih) l2 l3 (l4 + (-1 : Int32)) l5 l6 (σ 86 (Int32.toNatClampNeg ((366 : Int32) + ((2 : Int32) * l6)))) (σ 93 (Int32.toNatClampNeg ((l4 + (-1 : Int32)) - (1 : Int32)))) (σ 93 (Int32.toNatClampNeg (l4 + (-1 : Int32)))) (1 : Int32) σ
      · refine pn_aload_n dX11_holdsLine_59 rfl rfl rfl ?_
        refine pn_geta dX11_holdsLine_60 rfl lf_X11_39_10 qt_85 qk_85 qr_85_17 qt_93 ?_
        refine pn_iload dX11_holdsLine_63 rfl rfl ?_
        refine pn_aload_n dX11_holdsLine_65 rfl rfl rfl ?_
        refine pn_iload dX11_holdsLine_66 rfl rfl ?_
        refine pn_aload_n dX11_holdsLine_68 rfl rfl rfl ?_
        refine pn_geta dX11_holdsLine_69 rfl lf_X11_13_10 qt_85 qk_85 qr_85_1 qt_86 ?_
        refine pn_sipush dX11_holdsLine_72 rfl sc_366 ?_
        refine pn_iconst dX11_holdsLine_75 rfl ic_2 ?_
        refine pn_iload dX11_holdsLine_76 rfl rfl ?_
        refine pn_imul dX11_holdsLine_78 rfl ?_
        refine pn_iadd dX11_holdsLine_79 rfl ?_
        refine pn_iconst dX11_holdsLine_80 rfl ic_1 ?_
        refine pn_iadd dX11_holdsLine_81 rfl ?_
        refine pn_iald dX11_holdsLine_82 rfl qt_86 qk_86 ql_86 ?_
        refine pn_iload_n dX11_holdsLine_83 rfl rfl rfl ?_
        refine pn_iload_n dX11_holdsLine_84 rfl rfl rfl ?_
        refine pn_cp (fun r9 h9 => pn_LKV dX11_holdsLine_85 lm_X11_243 (ct_X11_factOf Γ (σ 86 (Int32.toNatClampNeg ((366 : Int32) + ((2 : Int32) * l6)))) (σ 86 (Int32.toNatClampNeg (((366 : Int32) + ((2 : Int32) * l6)) + (1 : Int32)))) l2 l3 σ r9 h9) (by decide) qt_85 qk_85 rfl rfl (Nat.le_of_ble_eq_true rfl)) rfl (fun x15 => ?_)
        refine pn_iast dX11_holdsLine_88 rfl qt_93 qk_93 ql_93 ?_
        refine pn_iinc (ls' := [.ref 85, .null, .int l2, .int l3, .int (l4 + (1 : Int32)), .int l5, .int l6, .int (σ 86 (Int32.toNatClampNeg ((366 : Int32) + ((2 : Int32) * l6)))), .null, .null, .null]) dX11_holdsLine_89 rfl (Nat.le_of_ble_eq_true rfl) rfl (congrArg (fun z => l4 + z) ic_1) rfl ?_
        refine pn_goto (pc' := 265) dX11_holdsLine_92 rfl ?_
        refine pn_iinc (ls' := [.ref 85, .null, .int l2, .int l3, .int (l4 + (1 : Int32)), .int l5, .int (l6 + (1 : Int32)), .int (σ 86 (Int32.toNatClampNeg ((366 : Int32) + ((2 : Int32) * l6)))), .null, .null, .null]) dX11_holdsLine_265 rfl (Nat.le_of_ble_eq_true rfl) rfl (congrArg (fun z => l6 + z) ic_1) rfl ?_
        refine pn_goto (pc' := 23) dX11_holdsLine_268 rfl ?_
        exact pn_wk (pn_leC rfl (pn_leN (pn_leC rfl (pn_leC rfl (pn_leC rfl (pn_leC rfl (pn_leC rfl (pn_leN (pn_leN (pn_leN (pn_leN pn_le0))))))))))) (ih l2 l3 (l4 + (1 : Int32)) l5 (l6 + (1 : Int32)) (pn_up σ 93 (Int32.toNatClampNeg l4) x15))

set_option maxRecDepth 20000 in
set_option maxHeartbeats 4000000 in
theorem ct_X11_holdsLine (Γ : pn_G) (a1 : Int32) (a2 : Int32) (a3 : Int32) (σ : pn_S) : ∀ r, fX11_holdsLine a1 a2 a3 σ = some r → pn_C Γ 4 mX11_holdsLine [.ref 85, .int a1, .int a2, .int a3] σ (pn_i r) := by
  refine pn_of (ls := [.ref 85, .int a1, .int a2, .int a3, .null, .null, .null, .null, .null, .null, .null]) (by decide) rfl (pn_cat rfl) rfl (Nat.le_of_ble_eq_true rfl) ?_
  rw [fX11_holdsLine]
  refine pn_iconst dX11_holdsLine_0 rfl ic_0 ?_
  refine pn_istore (ls' := [.ref 85, .int a1, .int a2, .int a3, .int (0 : Int32), .null, .null, .null, .null, .null, .null]) dX11_holdsLine_1 rfl (Nat.le_of_ble_eq_true rfl) rfl ?_
  refine pn_sipush dX11_holdsLine_3 rfl sc_318 ?_
  refine pn_iconst dX11_holdsLine_6 rfl ic_4 ?_
  refine pn_iload_n dX11_holdsLine_7 rfl rfl rfl ?_
  refine pn_imul dX11_holdsLine_8 rfl ?_
  refine pn_iadd dX11_holdsLine_9 rfl ?_
  refine pn_istore (ls' := [.ref 85, .int a1, .int a2, .int a3, .int (0 : Int32), .int ((318 : Int32) + ((4 : Int32) * a1)), .null, .null, .null, .null, .null]) dX11_holdsLine_10 rfl (Nat.le_of_ble_eq_true rfl) rfl ?_
  refine pn_aload_n dX11_holdsLine_12 rfl rfl rfl ?_
  refine pn_geta dX11_holdsLine_13 rfl lf_X11_13_10 qt_85 qk_85 qr_85_1 qt_86 ?_
  refine pn_iload dX11_holdsLine_16 rfl rfl ?_
  refine pn_iconst dX11_holdsLine_18 rfl ic_2 ?_
  refine pn_iadd dX11_holdsLine_19 rfl ?_
  refine pn_iald dX11_holdsLine_20 rfl qt_86 qk_86 ql_86 ?_
  refine pn_istore (ls' := [.ref 85, .int a1, .int a2, .int a3, .int (0 : Int32), .int ((318 : Int32) + ((4 : Int32) * a1)), .int (σ 86 (Int32.toNatClampNeg (((318 : Int32) + ((4 : Int32) * a1)) + (2 : Int32)))), .null, .null, .null, .null]) dX11_holdsLine_21 rfl (Nat.le_of_ble_eq_true rfl) rfl ?_
  exact pn_wk (pn_leC rfl (pn_leN (pn_leC rfl (pn_leC rfl (pn_leC rfl (pn_leC rfl (pn_leC rfl (pn_leN (pn_leN (pn_leN (pn_leN pn_le0))))))))))) (wX11_holdsLine_23 Γ 5000 a2 a3 (0 : Int32) ((318 : Int32) + ((4 : Int32) * a1)) (σ 86 (Int32.toNatClampNeg (((318 : Int32) + ((4 : Int32) * a1)) + (2 : Int32)))) σ)

set_option maxRecDepth 20000 in
set_option maxHeartbeats 4000000 in
theorem wX11_sumOf_6 (Γ : pn_G)  : ∀ (n9 : Nat) (l1 : Int32) (l2 : Int32) (l3 : Int32) (l4 : Int32) (l5 : Int32) (σ : pn_S), pn_W9 Γ 5 mX11_sumOf pn_i 6 [.ref 85, .int l1, .int l2, .int l3, .int l4, .int l5] [] σ (fX11_sumOf_6 n9 l1 l2 l3 l4 l5 σ) := by
  intro n9
  induction n9 with
  | zero => intro l1 l2 l3 l4 l5 σ; exact pn_none
  | succ n9 ih =>
    intro l1 l2 l3 l4 l5 σ
    rw [fX11_sumOf_6]
    refine pn_aload_n dX11_sumOf_6 rfl rfl rfl ?_
    refine pn_geta dX11_sumOf_7 rfl lf_X11_13_10 qt_85 qk_85 qr_85_1 qt_86 ?_
    refine pn_iconst dX11_sumOf_10 rfl ic_2 ?_
    refine pn_ialdc dX11_sumOf_11 rfl qt_86 qk_86 ql_86 (by decide) qn_2 ?_
    refine pn_iconst dX11_sumOf_12 rfl ic_1 ?_
    refine pn_icmp_ne (tgt := 83) dX11_sumOf_13 rfl rfl (fun c1 => ?_) (fun c1 => ?_)
    · refine pn_iload dX11_sumOf_16 rfl rfl ?_
      refine pn_aload_n dX11_sumOf_18 rfl rfl rfl ?_
      refine pn_geta dX11_sumOf_19 rfl lf_X11_13_10 qt_85 qk_85 qr_85_1 qt_86 ?_
      refine pn_sipush dX11_sumOf_22 rfl sc_317 ?_
      refine pn_ialdc dX11_sumOf_25 rfl qt_86 qk_86 ql_86 (by decide) qn_317 ?_
      refine pn_icmp_ge (tgt := 83) dX11_sumOf_26 rfl rfl (fun c2 => ?_) (fun c2 => ?_)
      · refine pn_iload dX11_sumOf_83 rfl rfl ?_
        exact pn_iretv dX11_sumOf_85 rfl rfl rfl
      · refine pn_aload_n dX11_sumOf_29 rfl rfl rfl ?_
        refine pn_geta dX11_sumOf_30 rfl lf_X11_13_10 qt_85 qk_85 qr_85_1 qt_86 ?_
        refine pn_sipush dX11_sumOf_33 rfl sc_318 ?_
        refine pn_iconst dX11_sumOf_36 rfl ic_4 ?_
        refine pn_iload dX11_sumOf_37 rfl rfl ?_
        refine pn_imul dX11_sumOf_39 rfl ?_
        refine pn_iadd dX11_sumOf_40 rfl ?_
        refine pn_iald dX11_sumOf_41 rfl qt_86 qk_86 ql_86 ?_
        refine pn_iload_n dX11_sumOf_42 rfl rfl rfl ?_
        refine pn_icmp_ne (tgt := 77) dX11_sumOf_43 rfl rfl (fun c3 => ?_) (fun c3 => ?_)
        · refine pn_aload_n dX11_sumOf_46 rfl rfl rfl ?_
          refine pn_iload dX11_sumOf_47 rfl rfl ?_
          refine pn_iload_n dX11_sumOf_49 rfl rfl rfl ?_
          refine pn_iload_n dX11_sumOf_50 rfl rfl rfl ?_
          refine pn_ci (fun r9 h9 => pn_LKV dX11_sumOf_51 lm_X11_247 (ct_X11_holdsLine Γ l5 l2 l3 σ r9 h9) (by decide) qt_85 qk_85 rfl rfl (Nat.le_of_ble_eq_true rfl)) rfl (fun x4 σ4 => ?_)
          refine pn_if_eq (tgt := 77) dX11_sumOf_54 rfl rfl (fun c5 => ?_) (fun c5 => ?_)
          · refine pn_iinc (ls' := [.ref 85, .int l1, .int l2, .int l3, .int l4, .int (l5 + (1 : Int32))]) dX11_sumOf_77 rfl (Nat.le_of_ble_eq_true rfl) rfl (congrArg (fun z => l5 + z) ic_1) rfl ?_
            refine pn_goto (pc' := 6) dX11_sumOf_80 rfl ?_
            exact ih l1 l2 l3 l4 (l5 + (1 : Int32)) σ4
          · refine pn_iload dX11_sumOf_57 rfl rfl ?_
            refine pn_aload_n dX11_sumOf_59 rfl rfl rfl ?_
            refine pn_geta dX11_sumOf_60 rfl lf_X11_13_10 qt_85 qk_85 qr_85_1 qt_86 ?_
            refine pn_sipush dX11_sumOf_63 rfl sc_318 ?_
            refine pn_iconst dX11_sumOf_66 rfl ic_4 ?_
            refine pn_iload dX11_sumOf_67 rfl rfl ?_
            refine pn_imul dX11_sumOf_69 rfl ?_
            refine pn_iadd dX11_sumOf_70 rfl ?_
            refine pn_iconst dX11_sumOf_71 rfl ic_1 ?_
            refine pn_iadd dX11_sumOf_72 rfl ?_
            refine pn_iald dX11_sumOf_73 rfl qt_86 qk_86 ql_86 ?_
            refine pn_iadd dX11_sumOf_74 rfl ?_
            refine pn_istore (ls' := [.ref 85, .int l1, .int l2, .int l3, .int (l4 + (σ4 86 (Int32.toNatClampNeg (((318 : Int32) + ((4 : Int32) * l5)) + (1 : Int32))))), .int l5]) dX11_sumOf_75 rfl (Nat.le_of_ble_eq_true rfl) rfl ?_
            refine pn_iinc (ls' := [.ref 85, .int l1, .int l2, .int l3, .int (l4 + (σ4 86 (Int32.toNatClampNeg (((318 : Int32) + ((4 : Int32) * l5)) + (1 : Int32))))), .int (l5 + (1 : Int32))]) dX11_sumOf_77 rfl (Nat.le_of_ble_eq_true rfl) rfl (congrArg (fun z => l5 + z) ic_1) rfl ?_
            refine pn_goto (pc' := 6) dX11_sumOf_80 rfl ?_
            exact ih l1 l2 l3 (l4 + (σ4 86 (Int32.toNatClampNeg (((318 : Int32) + ((4 : Int32) * l5)) + (1 : Int32))))) (l5 + (1 : Int32)) σ4
        · refine pn_iinc (ls' := [.ref 85, .int l1, .int l2, .int l3, .int l4, .int (l5 + (1 : Int32))]) dX11_sumOf_77 rfl (Nat.le_of_ble_eq_true rfl) rfl (congrArg (fun z => l5 + z) ic_1) rfl ?_
          refine pn_goto (pc' := 6) dX11_sumOf_80 rfl ?_
          exact ih l1 l2 l3 l4 (l5 + (1 : Int32)) σ
    · refine pn_iload dX11_sumOf_83 rfl rfl ?_
      exact pn_iretv dX11_sumOf_85 rfl rfl rfl

set_option maxRecDepth 20000 in
set_option maxHeartbeats 4000000 in
theorem ct_X11_sumOf (Γ : pn_G) (a1 : Int32) (a2 : Int32) (a3 : Int32) (σ : pn_S) : ∀ r, fX11_sumOf a1 a2 a3 σ = some r → pn_C Γ 5 mX11_sumOf [.ref 85, .int a1, .int a2, .int a3] σ (pn_i r) := by
  refine pn_of (ls := [.ref 85, .int a1, .int a2, .int a3, .null, .null]) (by decide) rfl (pn_cat rfl) rfl (Nat.le_of_ble_eq_true rfl) ?_
  rw [fX11_sumOf]
  refine pn_iconst dX11_sumOf_0 rfl ic_0 ?_
  refine pn_istore (ls' := [.ref 85, .int a1, .int a2, .int a3, .int (0 : Int32), .null]) dX11_sumOf_1 rfl (Nat.le_of_ble_eq_true rfl) rfl ?_
  refine pn_iconst dX11_sumOf_3 rfl ic_0 ?_
  refine pn_istore (ls' := [.ref 85, .int a1, .int a2, .int a3, .int (0 : Int32), .int (0 : Int32)]) dX11_sumOf_4 rfl (Nat.le_of_ble_eq_true rfl) rfl ?_
  exact wX11_sumOf_6 Γ 5000 a1 a2 a3 (0 : Int32) (0 : Int32) σ

set_option maxRecDepth 20000 in
set_option maxHeartbeats 4000000 in
theorem ct_X11_needsOf (Γ : pn_G) (a1 : Int32) (a2 : Int32) (σ : pn_S) : ∀ r, fX11_needsOf a1 a2 σ = some r → pn_C Γ 6 mX11_needsOf [.ref 85, .int a1, .int a2] σ (pn_i r) := by
  refine pn_of (ls := [.ref 85, .int a1, .int a2]) (by decide) rfl (pn_cat rfl) rfl (Nat.le_of_ble_eq_true rfl) ?_
  rw [fX11_needsOf]
  refine pn_iconst dX11_needsOf_0 rfl ic_0 ?_
  refine pn_aload_n dX11_needsOf_1 rfl rfl rfl ?_
  refine pn_iload_n dX11_needsOf_2 rfl rfl rfl ?_
  refine pn_iconst dX11_needsOf_3 rfl ic_0 ?_
  refine pn_cp (fun r9 h9 => pn_LKV dX11_needsOf_4 lm_X11_67 (ct_X11_of Γ a1 (0 : Int32) σ r9 h9) (by decide) qt_85 qk_85 rfl rfl (Nat.le_of_ble_eq_true rfl)) rfl (fun x1 => ?_)
  refine pn_aload_n dX11_needsOf_7 rfl rfl rfl ?_
  refine pn_iconst dX11_needsOf_8 rfl ic_0 ?_
  refine pn_iload_n dX11_needsOf_9 rfl rfl rfl ?_
  refine pn_iload_n dX11_needsOf_10 rfl rfl rfl ?_
  refine pn_ci (fun r9 h9 => pn_LKV dX11_needsOf_11 lm_X11_250 (ct_X11_sumOf Γ (0 : Int32) a1 a2 σ r9 h9) (by decide) qt_85 qk_85 rfl rfl (Nat.le_of_ble_eq_true rfl)) rfl (fun x2 σ2 => ?_)
  refine pn_iadd dX11_needsOf_14 rfl ?_
  refine pn_aload_n dX11_needsOf_15 rfl rfl rfl ?_
  refine pn_iconst dX11_needsOf_16 rfl ic_1 ?_
  refine pn_iload_n dX11_needsOf_17 rfl rfl rfl ?_
  refine pn_iload_n dX11_needsOf_18 rfl rfl rfl ?_
  refine pn_ci (fun r9 h9 => pn_LKV dX11_needsOf_19 lm_X11_250 (ct_X11_sumOf Γ (1 : Int32) a1 a2 σ2 r9 h9) (by decide) qt_85 qk_85 rfl rfl (Nat.le_of_ble_eq_true rfl)) rfl (fun x3 σ3 => ?_)
  refine pn_isub dX11_needsOf_22 rfl ?_
  refine pn_cp (fun r9 h9 => pn_LKS dX11_needsOf_23 lm_X11_254 (ct_J9_max_7cf53 Γ (0 : Int32) ((x1 + x2) - x3) σ3 r9 h9) (by decide) rfl rfl (Nat.le_of_ble_eq_true rfl)) rfl (fun x4 => ?_)
  exact pn_iretv dX11_needsOf_26 rfl rfl rfl

set_option maxRecDepth 20000 in
set_option maxHeartbeats 4000000 in
theorem ct_X11_pansOf (Γ : pn_G) (a1 : Int32) (a2 : Int32) (σ : pn_S) : ∀ r, fX11_pansOf a1 a2 σ = some r → pn_C Γ 6 mX11_pansOf [.ref 85, .int a1, .int a2] σ (pn_i r) := by
  refine pn_of (ls := [.ref 85, .int a1, .int a2]) (by decide) rfl (pn_cat rfl) rfl (Nat.le_of_ble_eq_true rfl) ?_
  rw [fX11_pansOf]
  refine pn_iconst dX11_pansOf_0 rfl ic_1 ?_
  refine pn_aload_n dX11_pansOf_1 rfl rfl rfl ?_
  refine pn_iconst dX11_pansOf_2 rfl ic_2 ?_
  refine pn_iload_n dX11_pansOf_3 rfl rfl rfl ?_
  refine pn_iload_n dX11_pansOf_4 rfl rfl rfl ?_
  refine pn_ci (fun r9 h9 => pn_LKV dX11_pansOf_5 lm_X11_250 (ct_X11_sumOf Γ (2 : Int32) a1 a2 σ r9 h9) (by decide) qt_85 qk_85 rfl rfl (Nat.le_of_ble_eq_true rfl)) rfl (fun x1 σ1 => ?_)
  refine pn_iadd dX11_pansOf_8 rfl ?_
  exact pn_iretv dX11_pansOf_9 rfl rfl rfl

set_option maxRecDepth 20000 in
set_option maxHeartbeats 4000000 in
theorem wX11_person_34 (Γ : pn_G)  (l1 : Int32) (l2 : Int32) (s1 : Int32) (σ : pn_S) : pn_W9 Γ 3 mX11_person pn_i 34 [.ref 85, .int l1, .int l2] [.int s1, .ref 85] σ (fX11_person_34 l1 l2 s1 σ) := by
  rw [fX11_person_34]
  refine pn_iconst dX11_person_34 rfl ic_2 ?_
  refine pn_ci (fun r9 h9 => pn_LKV dX11_person_35 lm_X11_240 (ct_X11_throwsIf Γ s1 (2 : Int32) σ r9 h9) (by decide) qt_85 qk_85 rfl rfl (Nat.le_of_ble_eq_true rfl)) rfl (fun x6 σ6 => ?_)
  refine pn_if_eq (tgt := 45) dX11_person_38 rfl rfl (fun c7 => ?_) (fun c7 => ?_)
  · refine pn_aload_n dX11_person_45 rfl rfl rfl ?_
    refine pn_iload_n dX11_person_46 rfl rfl rfl ?_
    refine pn_iload_n dX11_person_47 rfl rfl rfl ?_
    refine pn_cp (fun r9 h9 => pn_LKV dX11_person_48 lm_X11_67 (ct_X11_of Γ l1 l2 σ6 r9 h9) (by decide) qt_85 qk_85 rfl rfl (Nat.le_of_ble_eq_true rfl)) rfl (fun x8 => ?_)
    exact pn_iretv dX11_person_51 rfl rfl rfl
  · refine pn_iconst dX11_person_41 rfl ic_0 ?_
    refine pn_goto (pc' := 51) dX11_person_42 rfl ?_
    exact pn_iretv dX11_person_51 rfl rfl rfl

set_option maxRecDepth 20000 in
set_option maxHeartbeats 4000000 in
theorem ct_X11_person (Γ : pn_G) (a1 : Int32) (a2 : Int32) (σ : pn_S) : ∀ r, fX11_person a1 a2 σ = some r → pn_C Γ 3 mX11_person [.ref 85, .int a1, .int a2] σ (pn_i r) := by
  refine pn_of (ls := [.ref 85, .int a1, .int a2]) (by decide) rfl (pn_cat rfl) rfl (Nat.le_of_ble_eq_true rfl) ?_
  rw [fX11_person]
  refine pn_aload_n dX11_person_0 rfl rfl rfl ?_
  refine pn_iconst dX11_person_1 rfl ic_0 ?_
  refine pn_puti dX11_person_2 rfl lf_X11_3_10 (fpi_10_0 (0 : Int32)) qt_85 qk_85 qr_85_0 ?_
  refine pn_aload_n dX11_person_5 rfl rfl rfl ?_
  refine pn_aload_n dX11_person_6 rfl rfl rfl ?_
  refine pn_iload_n dX11_person_7 rfl rfl rfl ?_
  refine pn_cp (fun r9 h9 => pn_LKV dX11_person_8 lm_X11_259 (ct_X11_nobody Γ a1 (pn_up σ 85 0 (0 : Int32)) r9 h9) (by decide) qt_85 qk_85 rfl rfl (Nat.le_of_ble_eq_true rfl)) rfl (fun x1 => ?_)
  refine pn_iconst dX11_person_11 rfl ic_1 ?_
  refine pn_ci (fun r9 h9 => pn_LKV dX11_person_12 lm_X11_240 (ct_X11_throwsIf Γ x1 (1 : Int32) (pn_up σ 85 0 (0 : Int32)) r9 h9) (by decide) qt_85 qk_85 rfl rfl (Nat.le_of_ble_eq_true rfl)) rfl (fun x2 σ2 => ?_)
  refine pn_if_ne (tgt := 41) dX11_person_15 rfl rfl (fun c3 => ?_) (fun c3 => ?_)
  · refine pn_aload_n dX11_person_18 rfl rfl rfl ?_
    refine pn_iload_n dX11_person_19 rfl rfl rfl ?_
    refine pn_iconst dX11_person_20 rfl ic_0 ?_
    refine pn_bipush dX11_person_21 rfl bc_7 ?_
    refine pn_cp (fun r9 h9 => pn_LKS dX11_person_23 lm_X11_63 (ct_X11_in Γ a2 (0 : Int32) (7 : Int32) σ2 r9 h9) (by decide) rfl rfl (Nat.le_of_ble_eq_true rfl)) rfl (fun x4 => ?_)
    refine pn_if_ne (tgt := 33) dX11_person_26 rfl rfl (fun c5 => ?_) (fun c5 => ?_)
    · refine pn_iconst dX11_person_29 rfl ic_1 ?_
      refine pn_goto (pc' := 34) dX11_person_30 rfl ?_
      exact wX11_person_34 Γ a1 a2 (1 : Int32) σ2
    · refine pn_iconst dX11_person_33 rfl ic_0 ?_
      exact wX11_person_34 Γ a1 a2 (0 : Int32) σ2
  · refine pn_iconst dX11_person_41 rfl ic_0 ?_
    refine pn_goto (pc' := 51) dX11_person_42 rfl ?_
    exact pn_iretv dX11_person_51 rfl rfl rfl

set_option maxRecDepth 20000 in
set_option maxHeartbeats 4000000 in
theorem wX11_against_45 (Γ : pn_G)  (l1 : Int32) (l2 : Int32) (l3 : Int32) (s1 : Int32) (σ : pn_S) : pn_W9 Γ 7 mX11_against pn_i 45 [.ref 85, .int l1, .int l2, .int l3] [.int s1, .ref 85] σ (fX11_against_45 l1 l2 l3 s1 σ) := by
  rw [fX11_against_45]
  refine pn_iconst dX11_against_45 rfl ic_2 ?_
  refine pn_ci (fun r9 h9 => pn_LKV dX11_against_46 lm_X11_240 (ct_X11_throwsIf Γ s1 (2 : Int32) σ r9 h9) (by decide) qt_85 qk_85 rfl rfl (Nat.le_of_ble_eq_true rfl)) rfl (fun x8 σ8 => ?_)
  refine pn_if_eq (tgt := 54) dX11_against_49 rfl rfl (fun c9 => ?_) (fun c9 => ?_)
  · refine pn_iload_n dX11_against_54 rfl rfl rfl ?_
    refine pn_if_eq (tgt := 67) dX11_against_55 rfl rfl (fun c10 => ?_) (fun c10 => ?_)
    · refine pn_aload_n dX11_against_67 rfl rfl rfl ?_
      refine pn_iload_n dX11_against_68 rfl rfl rfl ?_
      refine pn_iload_n dX11_against_69 rfl rfl rfl ?_
      refine pn_ci (fun r9 h9 => pn_LKV dX11_against_70 lm_X11_265 (ct_X11_needsOf Γ l1 l2 σ8 r9 h9) (by decide) qt_85 qk_85 rfl rfl (Nat.le_of_ble_eq_true rfl)) rfl (fun x11 σ11 => ?_)
      exact pn_iretv dX11_against_73 rfl rfl rfl
    · refine pn_aload_n dX11_against_58 rfl rfl rfl ?_
      refine pn_iload_n dX11_against_59 rfl rfl rfl ?_
      refine pn_iload_n dX11_against_60 rfl rfl rfl ?_
      refine pn_ci (fun r9 h9 => pn_LKV dX11_against_61 lm_X11_262 (ct_X11_pansOf Γ l1 l2 σ8 r9 h9) (by decide) qt_85 qk_85 rfl rfl (Nat.le_of_ble_eq_true rfl)) rfl (fun x12 σ12 => ?_)
      refine pn_goto (pc' := 73) dX11_against_64 rfl ?_
      exact pn_iretv dX11_against_73 rfl rfl rfl
  · refine pn_iconst dX11_against_52 rfl ic_0 ?_
    exact pn_iretv dX11_against_53 rfl rfl rfl

set_option maxRecDepth 20000 in
set_option maxHeartbeats 4000000 in
theorem wX11_against_27 (Γ : pn_G)  (l1 : Int32) (l2 : Int32) (l3 : Int32) (s1 : Int32) (σ : pn_S) : pn_W9 Γ 7 mX11_against pn_i 27 [.ref 85, .int l1, .int l2, .int l3] [.int s1, .ref 85] σ (fX11_against_27 l1 l2 l3 s1 σ) := by
  rw [fX11_against_27]
  refine pn_iconst dX11_against_27 rfl ic_1 ?_
  refine pn_ci (fun r9 h9 => pn_LKV dX11_against_28 lm_X11_240 (ct_X11_throwsIf Γ s1 (1 : Int32) σ r9 h9) (by decide) qt_85 qk_85 rfl rfl (Nat.le_of_ble_eq_true rfl)) rfl (fun x5 σ5 => ?_)
  refine pn_if_ne (tgt := 52) dX11_against_31 rfl rfl (fun c6 => ?_) (fun c6 => ?_)
  · refine pn_aload_n dX11_against_34 rfl rfl rfl ?_
    refine pn_iload_n dX11_against_35 rfl rfl rfl ?_
    refine pn_iload_n dX11_against_36 rfl rfl rfl ?_
    refine pn_icmp_ne (tgt := 44) dX11_against_37 rfl rfl (fun c7 => ?_) (fun c7 => ?_)
    · refine pn_iconst dX11_against_40 rfl ic_1 ?_
      refine pn_goto (pc' := 45) dX11_against_41 rfl ?_
      exact wX11_against_45 Γ l1 l2 l3 (1 : Int32) σ5
    · refine pn_iconst dX11_against_44 rfl ic_0 ?_
      exact wX11_against_45 Γ l1 l2 l3 (0 : Int32) σ5
  · refine pn_iconst dX11_against_52 rfl ic_0 ?_
    exact pn_iretv dX11_against_53 rfl rfl rfl

set_option maxRecDepth 20000 in
set_option maxHeartbeats 4000000 in
theorem wX11_against_22 (Γ : pn_G)  (l1 : Int32) (l2 : Int32) (l3 : Int32) (σ : pn_S) : pn_W9 Γ 7 mX11_against pn_i 22 [.ref 85, .int l1, .int l2, .int l3] [.ref 85] σ (fX11_against_22 l1 l2 l3 σ) := by
  rw [fX11_against_22]
  refine pn_iconst dX11_against_22 rfl ic_1 ?_
  refine pn_goto (pc' := 27) dX11_against_23 rfl ?_
  exact wX11_against_27 Γ l1 l2 l3 (1 : Int32) σ

set_option maxRecDepth 20000 in
set_option maxHeartbeats 4000000 in
theorem ct_X11_against (Γ : pn_G) (a1 : Int32) (a2 : Int32) (a3 : Int32) (σ : pn_S) : ∀ r, fX11_against a1 a2 a3 σ = some r → pn_C Γ 7 mX11_against [.ref 85, .int a1, .int a2, .int a3] σ (pn_i r) := by
  refine pn_of (ls := [.ref 85, .int a1, .int a2, .int a3]) (by decide) rfl (pn_cat rfl) rfl (Nat.le_of_ble_eq_true rfl) ?_
  rw [fX11_against]
  refine pn_aload_n dX11_against_0 rfl rfl rfl ?_
  refine pn_iconst dX11_against_1 rfl ic_0 ?_
  refine pn_puti dX11_against_2 rfl lf_X11_3_10 (fpi_10_0 (0 : Int32)) qt_85 qk_85 qr_85_0 ?_
  refine pn_aload_n dX11_against_5 rfl rfl rfl ?_
  refine pn_aload_n dX11_against_6 rfl rfl rfl ?_
  refine pn_iload_n dX11_against_7 rfl rfl rfl ?_
  refine pn_cp (fun r9 h9 => pn_LKV dX11_against_8 lm_X11_259 (ct_X11_nobody Γ a1 (pn_up σ 85 0 (0 : Int32)) r9 h9) (by decide) qt_85 qk_85 rfl rfl (Nat.le_of_ble_eq_true rfl)) rfl (fun x1 => ?_)
  refine pn_if_ne (tgt := 22) dX11_against_11 rfl rfl (fun c2 => ?_) (fun c2 => ?_)
  · refine pn_aload_n dX11_against_14 rfl rfl rfl ?_
    refine pn_iload_n dX11_against_15 rfl rfl rfl ?_
    refine pn_cp (fun r9 h9 => pn_LKV dX11_against_16 lm_X11_259 (ct_X11_nobody Γ a2 (pn_up σ 85 0 (0 : Int32)) r9 h9) (by decide) qt_85 qk_85 rfl rfl (Nat.le_of_ble_eq_true rfl)) rfl (fun x3 => ?_)
    refine pn_if_eq (tgt := 26) dX11_against_19 rfl rfl (fun c4 => ?_) (fun c4 => ?_)
    · refine pn_iconst dX11_against_26 rfl ic_0 ?_
      exact wX11_against_27 Γ a1 a2 a3 (0 : Int32) (pn_up σ 85 0 (0 : Int32))
    · exact wX11_against_22 Γ a1 a2 a3 (pn_up σ 85 0 (0 : Int32))
  · exact wX11_against_22 Γ a1 a2 a3 (pn_up σ 85 0 (0 : Int32))

set_option maxRecDepth 20000 in
set_option maxHeartbeats 4000000 in
theorem wX11_laysNeeds_2 (Γ : pn_G)  : ∀ (n9 : Nat) (l1 : Int32) (l2 : Int32) (σ : pn_S), pn_W9 Γ 7 mX11_laysNeeds pn_v 2 [.ref 85, .int l1, .int l2] [] σ (fX11_laysNeeds_2 n9 l1 l2 σ) := by
  intro n9
  induction n9 with
  | zero => intro l1 l2 σ; exact pn_none
  | succ n9 ih =>
    intro l1 l2 σ
    rw [fX11_laysNeeds_2]
    refine pn_iload_n dX11_laysNeeds_2 rfl rfl rfl ?_
    refine pn_aload_n dX11_laysNeeds_3 rfl rfl rfl ?_
    refine pn_cp (fun r9 h9 => pn_LKV dX11_laysNeeds_4 lm_X11_55 (ct_X11_people Γ σ r9 h9) (by decide) qt_85 qk_85 rfl rfl (Nat.le_of_ble_eq_true rfl)) rfl (fun x1 => ?_)
    refine pn_icmp_ge (tgt := 28) dX11_laysNeeds_7 rfl rfl (fun c2 => ?_) (fun c2 => ?_)
    · exact pn_vretv dX11_laysNeeds_28 rfl rfl
    · refine pn_aload_n dX11_laysNeeds_10 rfl rfl rfl ?_
      refine pn_geta dX11_laysNeeds_11 rfl lf_X11_42_10 qt_85 qk_85 qr_85_18 qt_94 ?_
      refine pn_iload_n dX11_laysNeeds_14 rfl rfl rfl ?_
      refine pn_aload_n dX11_laysNeeds_15 rfl rfl rfl ?_
      refine pn_iload_n dX11_laysNeeds_16 rfl rfl rfl ?_
      refine pn_iload_n dX11_laysNeeds_17 rfl rfl rfl ?_
      refine pn_ci (fun r9 h9 => pn_LKV dX11_laysNeeds_18 lm_X11_265 (ct_X11_needsOf Γ l2 l1 σ r9 h9) (by decide) qt_85 qk_85 rfl rfl (Nat.le_of_ble_eq_true rfl)) rfl (fun x3 σ3 => ?_)
      refine pn_iast dX11_laysNeeds_21 rfl qt_94 qk_94 ql_94 ?_
      refine pn_iinc (ls' := [.ref 85, .int l1, .int (l2 + (1 : Int32))]) dX11_laysNeeds_22 rfl (Nat.le_of_ble_eq_true rfl) rfl (congrArg (fun z => l2 + z) ic_1) rfl ?_
      refine pn_goto (pc' := 2) dX11_laysNeeds_25 rfl ?_
      exact ih l1 (l2 + (1 : Int32)) (pn_up σ3 94 (Int32.toNatClampNeg l2) x3)

set_option maxRecDepth 20000 in
set_option maxHeartbeats 4000000 in
theorem ct_X11_laysNeeds (Γ : pn_G) (a1 : Int32) (σ : pn_S) : ∀ r, fX11_laysNeeds a1 σ = some r → pn_C Γ 7 mX11_laysNeeds [.ref 85, .int a1] σ (pn_v r) := by
  refine pn_of (ls := [.ref 85, .int a1, .null]) (by decide) rfl (pn_cat rfl) rfl (Nat.le_of_ble_eq_true rfl) ?_
  rw [fX11_laysNeeds]
  refine pn_iconst dX11_laysNeeds_0 rfl ic_0 ?_
  refine pn_istore_n (ls' := [.ref 85, .int a1, .int (0 : Int32)]) dX11_laysNeeds_1 rfl rfl (Nat.le_of_ble_eq_true rfl) rfl ?_
  exact wX11_laysNeeds_2 Γ 5000 a1 (0 : Int32) σ

set_option maxRecDepth 20000 in
set_option maxHeartbeats 4000000 in
theorem wX11_gathers_203 (Γ : pn_G)  (rec70 : Int32 → Int32 → Int32 → pn_S → Option (Int32 × pn_S)) (hrec70 : ∀ (l4 : Int32) (l5 : Int32) (l6 : Int32) (σ : pn_S), pn_W9 Γ 3 mX11_gathers pn_i 70 [.ref 85, .null, .null, .null, .int l4, .int l5, .int l6, .null, .null] [] σ (rec70 l4 l5 l6 σ)) (l4 : Int32) (l5 : Int32) (l6 : Int32) (l7 : Int32) (s1 : Int32) (σ : pn_S) : pn_W9 Γ 3 mX11_gathers pn_i 203 [.ref 85, .null, .null, .null, .int l4, .int l5, .int l6, .int l7, .null] [.int s1, .ref 85] σ (fX11_gathers_203 rec70 l4 l5 l6 l7 s1 σ) := by
  rw [fX11_gathers_203]
  refine pn_puti dX11_gathers_203 rfl lf_X11_271_10 (fpi_10_20 s1) qt_85 qk_85 qr_85_20 ?_
  refine pn_iload dX11_gathers_206 rfl rfl ?_
  refine pn_if_ne (tgt := 214) dX11_gathers_208 rfl rfl (fun c10 => ?_) (fun c10 => ?_)
  · refine pn_iload dX11_gathers_211 rfl rfl ?_
    exact pn_iretv dX11_gathers_213 rfl rfl rfl
  · refine pn_iload dX11_gathers_214 rfl rfl ?_
    refine pn_iload dX11_gathers_216 rfl rfl ?_
    refine pn_ior dX11_gathers_218 rfl ?_
    refine pn_istore (ls' := [.ref 85, .null, .null, .null, .int l4, .int (l5 ||| l7), .int l6, .int l7, .null]) dX11_gathers_219 rfl (Nat.le_of_ble_eq_true rfl) rfl ?_
    refine pn_iinc (ls' := [.ref 85, .null, .null, .null, .int l4, .int (l5 ||| l7), .int (l6 + (1 : Int32)), .int l7, .null]) dX11_gathers_221 rfl (Nat.le_of_ble_eq_true rfl) rfl (congrArg (fun z => l6 + z) ic_1) rfl ?_
    refine pn_goto (pc' := 70) dX11_gathers_224 rfl ?_
    exact pn_wk (pn_leC rfl (pn_leN (pn_leN (pn_leN (pn_leC rfl (pn_leC rfl (pn_leC rfl (pn_leN (pn_leN pn_le0))))))))) (hrec70 l4 (l5 ||| l7) (l6 + (1 : Int32)) (pn_up σ 85 20 s1))

set_option maxRecDepth 20000 in
set_option maxHeartbeats 4000000 in
theorem wX11_gathers_181 (Γ : pn_G)  (rec70 : Int32 → Int32 → Int32 → pn_S → Option (Int32 × pn_S)) (hrec70 : ∀ (l4 : Int32) (l5 : Int32) (l6 : Int32) (σ : pn_S), pn_W9 Γ 3 mX11_gathers pn_i 70 [.ref 85, .null, .null, .null, .int l4, .int l5, .int l6, .null, .null] [] σ (rec70 l4 l5 l6 σ)) (rec144 : Int32 → Int32 → Int32 → Int32 → Int32 → pn_S → Option (Int32 × pn_S)) (hrec144 : ∀ (l4 : Int32) (l5 : Int32) (l6 : Int32) (l7 : Int32) (l8 : Int32) (σ : pn_S), pn_W9 Γ 3 mX11_gathers pn_i 144 [.ref 85, .null, .null, .null, .int l4, .int l5, .int l6, .int l7, .int l8] [] σ (rec144 l4 l5 l6 l7 l8 σ)) (l4 : Int32) (l5 : Int32) (l6 : Int32) (l7 : Int32) (l8 : Int32) (s1 : Int32) (s2 : Int32) (σ : pn_S) : pn_W9 Γ 3 mX11_gathers pn_i 181 [.ref 85, .null, .null, .null, .int l4, .int l5, .int l6, .int l7, .int l8] [.int s2, .int s1, .ref 95] σ (fX11_gathers_181 rec70 rec144 l4 l5 l6 l7 l8 s1 s2 σ) := by
  rw [fX11_gathers_181]
  refine pn_iast dX11_gathers_181 rfl qt_95 qk_95 ql_95 ?_
  refine pn_iinc (ls' := [.ref 85, .null, .null, .null, .int l4, .int l5, .int l6, .int l7, .int (l8 + (1 : Int32))]) dX11_gathers_182 rfl (Nat.le_of_ble_eq_true rfl) rfl (congrArg (fun z => l8 + z) ic_1) rfl ?_
  refine pn_goto (pc' := 144) dX11_gathers_185 rfl ?_
  exact hrec144 l4 l5 l6 l7 (l8 + (1 : Int32)) (pn_up σ 95 (Int32.toNatClampNeg s1) s2)

set_option maxRecDepth 20000 in
set_option maxHeartbeats 4000000 in
theorem wX11_gathers_144 (Γ : pn_G)  (rec70 : Int32 → Int32 → Int32 → pn_S → Option (Int32 × pn_S)) (hrec70 : ∀ (l4 : Int32) (l5 : Int32) (l6 : Int32) (σ : pn_S), pn_W9 Γ 3 mX11_gathers pn_i 70 [.ref 85, .null, .null, .null, .int l4, .int l5, .int l6, .null, .null] [] σ (rec70 l4 l5 l6 σ)) : ∀ (n9 : Nat) (l4 : Int32) (l5 : Int32) (l6 : Int32) (l7 : Int32) (l8 : Int32) (σ : pn_S), pn_W9 Γ 3 mX11_gathers pn_i 144 [.ref 85, .null, .null, .null, .int l4, .int l5, .int l6, .int l7, .int l8] [] σ (fX11_gathers_144 rec70 n9 l4 l5 l6 l7 l8 σ) := by
  intro n9
  induction n9 with
  | zero => intro l4 l5 l6 l7 l8 σ; exact pn_none
  | succ n9 ih =>
    intro l4 l5 l6 l7 l8 σ
    rw [fX11_gathers_144]
    refine pn_iload dX11_gathers_144 rfl rfl ?_
    refine pn_aload_n dX11_gathers_146 rfl rfl rfl ?_
    refine pn_cp (fun r9 h9 => pn_LKV dX11_gathers_147 lm_X11_55 (ct_X11_people Γ σ r9 h9) (by decide) qt_85 qk_85 rfl rfl (Nat.le_of_ble_eq_true rfl)) rfl (fun x7 => ?_)
    refine pn_icmp_ge (tgt := 188) dX11_gathers_150 rfl rfl (fun c8 => ?_) (fun c8 => ?_)
    · refine pn_aload_n dX11_gathers_188 rfl rfl rfl ?_
      refine pn_iload dX11_gathers_189 rfl rfl ?_
      refine pn_if_ne (tgt := 201) dX11_gathers_191 rfl rfl (fun c9 => ?_) (fun c9 => ?_)
      · refine pn_aload_n dX11_gathers_194 rfl rfl rfl ?_
        refine pn_geti dX11_gathers_195 rfl lf_X11_271_10 qt_85 qk_85 qr_85_20 ?_
        refine pn_goto (pc' := 203) dX11_gathers_198 rfl ?_
        exact pn_wk (pn_leC rfl (pn_leN (pn_leN (pn_leN (pn_leC rfl (pn_leC rfl (pn_leC rfl (pn_leC rfl (pn_leN pn_le0))))))))) (wX11_gathers_203 Γ (rec70) (hrec70) l4 l5 l6 l7 (σ 85 20) σ)
      · refine pn_iload dX11_gathers_201 rfl rfl ?_
        exact pn_wk (pn_leC rfl (pn_leN (pn_leN (pn_leN (pn_leC rfl (pn_leC rfl (pn_leC rfl (pn_leC rfl (pn_leN pn_le0))))))))) (wX11_gathers_203 Γ (rec70) (hrec70) l4 l5 l6 l7 l6 σ)
    · refine pn_aload_n dX11_gathers_153 rfl rfl rfl ?_
      refine pn_geta dX11_gathers_154 rfl lf_X11_45_10 qt_85 qk_85 qr_85_19 qt_95 ?_
      refine pn_iload dX11_gathers_157 rfl rfl ?_
      refine pn_iload dX11_gathers_159 rfl rfl ?_
      refine pn_iload dX11_gathers_161 rfl rfl ?_
      refine pn_cp (fun r9 h9 => pn_LKS dX11_gathers_163 lm_X11_274 (ct_X11_has Γ l7 l8 σ r9 h9) (by decide) rfl rfl (Nat.le_of_ble_eq_true rfl)) rfl (fun x11 => ?_)
      refine pn_if_eq (tgt := 174) dX11_gathers_166 rfl rfl (fun c12 => ?_) (fun c12 => ?_)
      · refine pn_aload_n dX11_gathers_174 rfl rfl rfl ?_
        refine pn_geta dX11_gathers_175 rfl lf_X11_45_10 qt_85 qk_85 qr_85_19 qt_95 ?_
        refine pn_iload dX11_gathers_178 rfl rfl ?_
        refine pn_iald dX11_gathers_180 rfl qt_95 qk_95 ql_95 ?_
        exact wX11_gathers_181 Γ (rec70) (hrec70) (fX11_gathers_144 rec70 n9) (ih) l4 l5 l6 l7 l8 l8 (σ 95 (Int32.toNatClampNeg l8)) σ
      · refine pn_iload dX11_gathers_169 rfl rfl ?_
        refine pn_goto (pc' := 181) dX11_gathers_171 rfl ?_
        exact wX11_gathers_181 Γ (rec70) (hrec70) (fX11_gathers_144 rec70 n9) (ih) l4 l5 l6 l7 l8 l8 l6 σ

set_option maxRecDepth 20000 in
set_option maxHeartbeats 4000000 in
theorem wX11_gathers_131 (Γ : pn_G)  (rec70 : Int32 → Int32 → Int32 → pn_S → Option (Int32 × pn_S)) (hrec70 : ∀ (l4 : Int32) (l5 : Int32) (l6 : Int32) (σ : pn_S), pn_W9 Γ 3 mX11_gathers pn_i 70 [.ref 85, .null, .null, .null, .int l4, .int l5, .int l6, .null, .null] [] σ (rec70 l4 l5 l6 σ)) (rec83 : Int32 → Int32 → Int32 → Int32 → Int32 → pn_S → Option (Int32 × pn_S)) (hrec83 : ∀ (l4 : Int32) (l5 : Int32) (l6 : Int32) (l7 : Int32) (l8 : Int32) (σ : pn_S), pn_W9 Γ 3 mX11_gathers pn_i 83 [.ref 85, .null, .null, .null, .int l4, .int l5, .int l6, .int l7, .int l8] [] σ (rec83 l4 l5 l6 l7 l8 σ)) (l4 : Int32) (l5 : Int32) (l6 : Int32) (l8 : Int32) (s0 : Int32) (σ : pn_S) : pn_W9 Γ 3 mX11_gathers pn_i 131 [.ref 85, .null, .null, .null, .int l4, .int l5, .int l6, .null, .int l8] [.int s0] σ (fX11_gathers_131 rec70 rec83 l4 l5 l6 l8 s0 σ) := by
  rw [fX11_gathers_131]
  refine pn_iconst dX11_gathers_131 rfl ic_0 ?_
  refine pn_ior dX11_gathers_132 rfl ?_
  refine pn_istore (ls' := [.ref 85, .null, .null, .null, .int l4, .int l5, .int l6, .int (s0 ||| (0 : Int32)), .int l8]) dX11_gathers_133 rfl (Nat.le_of_ble_eq_true rfl) rfl ?_
  refine pn_iinc (ls' := [.ref 85, .null, .null, .null, .int l4, .int l5, .int l6, .int (s0 ||| (0 : Int32)), .int (l8 + (1 : Int32))]) dX11_gathers_135 rfl (Nat.le_of_ble_eq_true rfl) rfl (congrArg (fun z => l8 + z) ic_1) rfl ?_
  refine pn_goto (pc' := 83) dX11_gathers_138 rfl ?_
  exact hrec83 l4 l5 l6 (s0 ||| (0 : Int32)) (l8 + (1 : Int32)) σ

set_option maxRecDepth 20000 in
set_option maxHeartbeats 4000000 in
theorem wX11_gathers_83 (Γ : pn_G)  (rec70 : Int32 → Int32 → Int32 → pn_S → Option (Int32 × pn_S)) (hrec70 : ∀ (l4 : Int32) (l5 : Int32) (l6 : Int32) (σ : pn_S), pn_W9 Γ 3 mX11_gathers pn_i 70 [.ref 85, .null, .null, .null, .int l4, .int l5, .int l6, .null, .null] [] σ (rec70 l4 l5 l6 σ)) : ∀ (n9 : Nat) (l4 : Int32) (l5 : Int32) (l6 : Int32) (l7 : Int32) (l8 : Int32) (σ : pn_S), pn_W9 Γ 3 mX11_gathers pn_i 83 [.ref 85, .null, .null, .null, .int l4, .int l5, .int l6, .int l7, .int l8] [] σ (fX11_gathers_83 rec70 n9 l4 l5 l6 l7 l8 σ) := by
  intro n9
  induction n9 with
  | zero => intro l4 l5 l6 l7 l8 σ; exact pn_none
  | succ n9 ih =>
    intro l4 l5 l6 l7 l8 σ
    rw [fX11_gathers_83]
    refine pn_iload dX11_gathers_83 rfl rfl ?_
    refine pn_aload_n dX11_gathers_85 rfl rfl rfl ?_
    refine pn_cp (fun r9 h9 => pn_LKV dX11_gathers_86 lm_X11_55 (ct_X11_people Γ σ r9 h9) (by decide) qt_85 qk_85 rfl rfl (Nat.le_of_ble_eq_true rfl)) rfl (fun x5 => ?_)
    refine pn_icmp_ge (tgt := 141) dX11_gathers_89 rfl rfl (fun c6 => ?_) (fun c6 => ?_)
    · refine pn_iconst dX11_gathers_141 rfl ic_0 ?_
      refine pn_istore (ls' := [.ref 85, .null, .null, .null, .int l4, .int l5, .int l6, .int l7, .int (0 : Int32)]) dX11_gathers_142 rfl (Nat.le_of_ble_eq_true rfl) rfl ?_
      exact wX11_gathers_144 Γ (rec70) (hrec70) 5000 l4 l5 l6 l7 (0 : Int32) σ
    · refine pn_iload dX11_gathers_92 rfl rfl ?_
      refine pn_iload dX11_gathers_94 rfl rfl ?_
      refine pn_iload dX11_gathers_96 rfl rfl ?_
      refine pn_iconst dX11_gathers_98 rfl ic_m1 ?_
      refine pn_ixor dX11_gathers_99 rfl ?_
      refine pn_iand dX11_gathers_100 rfl ?_
      refine pn_iload dX11_gathers_101 rfl rfl ?_
      refine pn_cp (fun r9 h9 => pn_LKS dX11_gathers_103 lm_X11_274 (ct_X11_has Γ (l4 &&& (l5 ^^^ (-1 : Int32))) l8 σ r9 h9) (by decide) rfl rfl (Nat.le_of_ble_eq_true rfl)) rfl (fun x13 => ?_)
      refine pn_if_eq (tgt := 131) dX11_gathers_106 rfl rfl (fun c14 => ?_) (fun c14 => ?_)
      · exact pn_wk (pn_leC rfl (pn_leN (pn_leN (pn_leN (pn_leC rfl (pn_leC rfl (pn_leC rfl (pn_leN (pn_leC rfl pn_le0))))))))) (wX11_gathers_131 Γ (rec70) (hrec70) (fX11_gathers_83 rec70 n9) (ih) l4 l5 l6 l8 l7 σ)
      · refine pn_aload_n dX11_gathers_109 rfl rfl rfl ?_
        refine pn_geta dX11_gathers_110 rfl lf_X11_42_10 qt_85 qk_85 qr_85_18 qt_94 ?_
        refine pn_iload dX11_gathers_113 rfl rfl ?_
        refine pn_iald dX11_gathers_115 rfl qt_94 qk_94 ql_94 ?_
        refine pn_iload dX11_gathers_116 rfl rfl ?_
        refine pn_cp (fun r9 h9 => pn_LKS dX11_gathers_118 lm_X11_277 (ct_J6_bitCount_0f7a4 Γ l5 σ r9 h9) (by decide) rfl rfl (Nat.le_of_ble_eq_true rfl)) rfl (fun x15 => ?_)
        refine pn_icmp_gt (tgt := 131) dX11_gathers_121 rfl rfl (fun c16 => ?_) (fun c16 => ?_)
        · exact pn_wk (pn_leC rfl (pn_leN (pn_leN (pn_leN (pn_leC rfl (pn_leC rfl (pn_leC rfl (pn_leN (pn_leC rfl pn_le0))))))))) (wX11_gathers_131 Γ (rec70) (hrec70) (fX11_gathers_83 rec70 n9) (ih) l4 l5 l6 l8 l7 σ)
        · refine pn_iconst dX11_gathers_124 rfl ic_1 ?_
          refine pn_iload dX11_gathers_125 rfl rfl ?_
          refine pn_ishl dX11_gathers_127 rfl ?_
          refine pn_goto (pc' := 132) dX11_gathers_128 rfl ?_
          refine pn_ior dX11_gathers_132 rfl ?_
          refine pn_istore (ls' := [.ref 85, .null, .null, .null, .int l4, .int l5, .int l6, .int (l7 ||| ((1 : Int32) <<< (l8 &&& 31))), .int l8]) dX11_gathers_133 rfl (Nat.le_of_ble_eq_true rfl) rfl ?_
          refine pn_iinc (ls' := [.ref 85, .null, .null, .null, .int l4, .int l5, .int l6, .int (l7 ||| ((1 : Int32) <<< (l8 &&& 31))), .int (l8 + (1 : Int32))]) dX11_gathers_135 rfl (Nat.le_of_ble_eq_true rfl) rfl (congrArg (fun z => l8 + z) ic_1) rfl ?_
          refine pn_goto (pc' := 83) dX11_gathers_138 rfl ?_
          exact ih l4 l5 l6 (l7 ||| ((1 : Int32) <<< (l8 &&& 31))) (l8 + (1 : Int32)) σ

set_option maxRecDepth 20000 in
set_option maxHeartbeats 4000000 in
theorem wX11_gathers_70 (Γ : pn_G)  : ∀ (n9 : Nat) (l4 : Int32) (l5 : Int32) (l6 : Int32) (σ : pn_S), pn_W9 Γ 3 mX11_gathers pn_i 70 [.ref 85, .null, .null, .null, .int l4, .int l5, .int l6, .null, .null] [] σ (fX11_gathers_70 n9 l4 l5 l6 σ) := by
  intro n9
  induction n9 with
  | zero => intro l4 l5 l6 σ; exact pn_none
  | succ n9 ih =>
    intro l4 l5 l6 σ
    rw [fX11_gathers_70]
    refine pn_iload dX11_gathers_70 rfl rfl ?_
    refine pn_bipush dX11_gathers_72 rfl bc_8 ?_
    refine pn_icmp_gt (tgt := 227) dX11_gathers_74 rfl rfl (fun c4 => ?_) (fun c4 => ?_)
    · refine pn_iload dX11_gathers_227 rfl rfl ?_
      exact pn_iretv dX11_gathers_229 rfl rfl rfl
    · refine pn_iconst dX11_gathers_77 rfl ic_0 ?_
      refine pn_istore (ls' := [.ref 85, .null, .null, .null, .int l4, .int l5, .int l6, .int (0 : Int32), .null]) dX11_gathers_78 rfl (Nat.le_of_ble_eq_true rfl) rfl ?_
      refine pn_iconst dX11_gathers_80 rfl ic_0 ?_
      refine pn_istore (ls' := [.ref 85, .null, .null, .null, .int l4, .int l5, .int l6, .int (0 : Int32), .int (0 : Int32)]) dX11_gathers_81 rfl (Nat.le_of_ble_eq_true rfl) rfl ?_
      exact wX11_gathers_83 Γ (fX11_gathers_70 n9) (ih) 5000 l4 l5 l6 (0 : Int32) (0 : Int32) σ

set_option maxRecDepth 20000 in
set_option maxHeartbeats 4000000 in
theorem wX11_gathers_60 (Γ : pn_G)  (rec30 : Int32 → Int32 → Int32 → pn_S → Option (Int32 × pn_S)) (hrec30 : ∀ (l4 : Int32) (l5 : Int32) (l6 : Int32) (σ : pn_S), pn_W9 Γ 3 mX11_gathers pn_i 30 [.ref 85, .null, .null, .null, .int l4, .int l5, .int l6, .null, .null] [] σ (rec30 l4 l5 l6 σ)) (l4 : Int32) (l5 : Int32) (l6 : Int32) (s1 : Int32) (s2 : Int32) (σ : pn_S) : pn_W9 Γ 3 mX11_gathers pn_i 60 [.ref 85, .null, .null, .null, .int l4, .int l5, .int l6, .null, .null] [.int s2, .int s1, .ref 95] σ (fX11_gathers_60 rec30 l4 l5 l6 s1 s2 σ) := by
  rw [fX11_gathers_60]
  refine pn_iast dX11_gathers_60 rfl qt_95 qk_95 ql_95 ?_
  refine pn_iinc (ls' := [.ref 85, .null, .null, .null, .int l4, .int l5, .int (l6 + (1 : Int32)), .null, .null]) dX11_gathers_61 rfl (Nat.le_of_ble_eq_true rfl) rfl (congrArg (fun z => l6 + z) ic_1) rfl ?_
  refine pn_goto (pc' := 30) dX11_gathers_64 rfl ?_
  exact hrec30 l4 l5 (l6 + (1 : Int32)) (pn_up σ 95 (Int32.toNatClampNeg s1) s2)

set_option maxRecDepth 20000 in
set_option maxHeartbeats 4000000 in
theorem wX11_gathers_30 (Γ : pn_G)  : ∀ (n9 : Nat) (l4 : Int32) (l5 : Int32) (l6 : Int32) (σ : pn_S), pn_W9 Γ 3 mX11_gathers pn_i 30 [.ref 85, .null, .null, .null, .int l4, .int l5, .int l6, .null, .null] [] σ (fX11_gathers_30 n9 l4 l5 l6 σ) := by
  intro n9
  induction n9 with
  | zero => intro l4 l5 l6 σ; exact pn_none
  | succ n9 ih =>
    intro l4 l5 l6 σ
    rw [fX11_gathers_30]
    refine pn_iload dX11_gathers_30 rfl rfl ?_
    refine pn_aload_n dX11_gathers_32 rfl rfl rfl ?_
    refine pn_cp (fun r9 h9 => pn_LKV dX11_gathers_33 lm_X11_55 (ct_X11_people Γ σ r9 h9) (by decide) qt_85 qk_85 rfl rfl (Nat.le_of_ble_eq_true rfl)) rfl (fun x2 => ?_)
    refine pn_icmp_ge (tgt := 67) dX11_gathers_36 rfl rfl (fun c3 => ?_) (fun c3 => ?_)
    · refine pn_iconst dX11_gathers_67 rfl ic_1 ?_
      refine pn_istore (ls' := [.ref 85, .null, .null, .null, .int l4, .int l5, .int (1 : Int32), .null, .null]) dX11_gathers_68 rfl (Nat.le_of_ble_eq_true rfl) rfl ?_
      exact wX11_gathers_70 Γ 5000 l4 l5 (1 : Int32) σ
    · refine pn_aload_n dX11_gathers_39 rfl rfl rfl ?_
      refine pn_geta dX11_gathers_40 rfl lf_X11_45_10 qt_85 qk_85 qr_85_19 qt_95 ?_
      refine pn_iload dX11_gathers_43 rfl rfl ?_
      refine pn_iload dX11_gathers_45 rfl rfl ?_
      refine pn_iload dX11_gathers_47 rfl rfl ?_
      refine pn_cp (fun r9 h9 => pn_LKS dX11_gathers_49 lm_X11_274 (ct_X11_has Γ l5 l6 σ r9 h9) (by decide) rfl rfl (Nat.le_of_ble_eq_true rfl)) rfl (fun x17 => ?_)
      refine pn_if_eq (tgt := 59) dX11_gathers_52 rfl rfl (fun c18 => ?_) (fun c18 => ?_)
      · refine pn_iconst dX11_gathers_59 rfl ic_m1 ?_
        exact wX11_gathers_60 Γ (fX11_gathers_30 n9) (ih) l4 l5 l6 l6 (-1 : Int32) σ
      · refine pn_iconst dX11_gathers_55 rfl ic_0 ?_
        refine pn_goto (pc' := 60) dX11_gathers_56 rfl ?_
        exact wX11_gathers_60 Γ (fX11_gathers_30 n9) (ih) l4 l5 l6 l6 (0 : Int32) σ

set_option maxRecDepth 20000 in
set_option maxHeartbeats 4000000 in
theorem wX11_gathers_22 (Γ : pn_G)  (l4 : Int32) (l5 : Int32) (σ : pn_S) : pn_W9 Γ 3 mX11_gathers pn_i 22 [.ref 85, .null, .null, .null, .int l4, .int l5, .null, .null, .null] [] σ (fX11_gathers_22 l4 l5 σ) := by
  rw [fX11_gathers_22]
  refine pn_aload_n dX11_gathers_22 rfl rfl rfl ?_
  refine pn_iconst dX11_gathers_23 rfl ic_0 ?_
  refine pn_puti dX11_gathers_24 rfl lf_X11_271_10 (fpi_10_20 (0 : Int32)) qt_85 qk_85 qr_85_20 ?_
  refine pn_iconst dX11_gathers_27 rfl ic_0 ?_
  refine pn_istore (ls' := [.ref 85, .null, .null, .null, .int l4, .int l5, .int (0 : Int32), .null, .null]) dX11_gathers_28 rfl (Nat.le_of_ble_eq_true rfl) rfl ?_
  exact wX11_gathers_30 Γ 5000 l4 l5 (0 : Int32) (pn_up σ 85 20 (0 : Int32))

set_option maxRecDepth 20000 in
set_option maxHeartbeats 4000000 in
theorem ct_X11_gathers (Γ : pn_G) (a1 : Int32) (a2 : Int32) (a3 : Int32) (σ : pn_S) : ∀ r, fX11_gathers a1 a2 a3 σ = some r → pn_C Γ 3 mX11_gathers [.ref 85, .int a1, .int a2, .int a3] σ (pn_i r) := by
  refine pn_of (ls := [.ref 85, .int a1, .int a2, .int a3, .null, .null, .null, .null, .null]) (by decide) rfl (pn_cat rfl) rfl (Nat.le_of_ble_eq_true rfl) ?_
  rw [fX11_gathers]
  refine pn_aload_n dX11_gathers_0 rfl rfl rfl ?_
  refine pn_cp (fun r9 h9 => pn_LKV dX11_gathers_1 lm_X11_268 (ct_X11_everybody Γ σ r9 h9) (by decide) qt_85 qk_85 rfl rfl (Nat.le_of_ble_eq_true rfl)) rfl (fun x1 => ?_)
  refine pn_iconst dX11_gathers_4 rfl ic_1 ?_
  refine pn_iload_n dX11_gathers_5 rfl rfl rfl ?_
  refine pn_ishl dX11_gathers_6 rfl ?_
  refine pn_iconst dX11_gathers_7 rfl ic_m1 ?_
  refine pn_ixor dX11_gathers_8 rfl ?_
  refine pn_iand dX11_gathers_9 rfl ?_
  refine pn_iload_n dX11_gathers_10 rfl rfl rfl ?_
  refine pn_iconst dX11_gathers_11 rfl ic_m1 ?_
  refine pn_ixor dX11_gathers_12 rfl ?_
  refine pn_iand dX11_gathers_13 rfl ?_
  refine pn_istore (ls' := [.ref 85, .int a1, .int a2, .int a3, .int ((x1 &&& (((1 : Int32) <<< (a1 &&& 31)) ^^^ (-1 : Int32))) &&& (a3 ^^^ (-1 : Int32))), .null, .null, .null, .null]) dX11_gathers_14 rfl (Nat.le_of_ble_eq_true rfl) rfl ?_
  refine pn_iload_n dX11_gathers_16 rfl rfl rfl ?_
  refine pn_iload dX11_gathers_17 rfl rfl ?_
  refine pn_iand dX11_gathers_19 rfl ?_
  refine pn_istore (ls' := [.ref 85, .int a1, .int a2, .int a3, .int ((x1 &&& (((1 : Int32) <<< (a1 &&& 31)) ^^^ (-1 : Int32))) &&& (a3 ^^^ (-1 : Int32))), .int (a2 &&& ((x1 &&& (((1 : Int32) <<< (a1 &&& 31)) ^^^ (-1 : Int32))) &&& (a3 ^^^ (-1 : Int32)))), .null, .null, .null]) dX11_gathers_20 rfl (Nat.le_of_ble_eq_true rfl) rfl ?_
  exact pn_wk (pn_leC rfl (pn_leN (pn_leN (pn_leN (pn_leC rfl (pn_leC rfl (pn_leN (pn_leN (pn_leN pn_le0))))))))) (wX11_gathers_22 Γ ((x1 &&& (((1 : Int32) <<< (a1 &&& 31)) ^^^ (-1 : Int32))) &&& (a3 ^^^ (-1 : Int32))) (a2 &&& ((x1 &&& (((1 : Int32) <<< (a1 &&& 31)) ^^^ (-1 : Int32))) &&& (a3 ^^^ (-1 : Int32)))) σ)

set_option maxRecDepth 20000 in
set_option maxHeartbeats 4000000 in
theorem ct_X11_crowdOf (Γ : pn_G) (a1 : Int32) (σ : pn_S) : ∀ r, fX11_crowdOf a1 σ = some r → pn_C Γ 8 mX11_crowdOf [.ref 85, .int a1] σ (pn_i r) := by
  refine pn_of (ls := [.ref 85, .int a1]) (by decide) rfl (pn_cat rfl) rfl (Nat.le_of_ble_eq_true rfl) ?_
  rw [fX11_crowdOf]
  refine pn_aload_n dX11_crowdOf_0 rfl rfl rfl ?_
  refine pn_iload_n dX11_crowdOf_1 rfl rfl rfl ?_
  refine pn_cv (fun r9 h9 => pn_LKV dX11_crowdOf_2 lm_X11_283 (ct_X11_laysNeeds Γ a1 σ r9 h9) (by decide) qt_85 qk_85 rfl rfl (Nat.le_of_ble_eq_true rfl)) rfl (fun σ1 => ?_)
  refine pn_aload_n dX11_crowdOf_5 rfl rfl rfl ?_
  refine pn_iload_n dX11_crowdOf_6 rfl rfl rfl ?_
  refine pn_aload_n dX11_crowdOf_7 rfl rfl rfl ?_
  refine pn_cp (fun r9 h9 => pn_LKV dX11_crowdOf_8 lm_X11_287 (ct_X11_beginners Γ σ1 r9 h9) (by decide) qt_85 qk_85 rfl rfl (Nat.le_of_ble_eq_true rfl)) rfl (fun x2 => ?_)
  refine pn_iconst dX11_crowdOf_11 rfl ic_0 ?_
  refine pn_ci (fun r9 h9 => pn_LKV dX11_crowdOf_12 lm_X11_290 (ct_X11_gathers Γ a1 x2 (0 : Int32) σ1 r9 h9) (by decide) qt_85 qk_85 rfl rfl (Nat.le_of_ble_eq_true rfl)) rfl (fun x3 σ3 => ?_)
  exact pn_iretv dX11_crowdOf_15 rfl rfl rfl

set_option maxRecDepth 20000 in
set_option maxHeartbeats 4000000 in
theorem wX11_noiseOf_5 (Γ : pn_G)  : ∀ (n9 : Nat) (l1 : Int32) (l2 : Int32) (l3 : Int32) (l4 : Int32) (σ : pn_S), pn_W9 Γ 7 mX11_noiseOf pn_i 5 [.ref 85, .int l1, .int l2, .int l3, .int l4] [] σ (fX11_noiseOf_5 n9 l1 l2 l3 l4 σ) := by
  intro n9
  induction n9 with
  | zero => intro l1 l2 l3 l4 σ; exact pn_none
  | succ n9 ih =>
    intro l1 l2 l3 l4 σ
    rw [fX11_noiseOf_5]
    refine pn_iload dX11_noiseOf_5 rfl rfl ?_
    refine pn_aload_n dX11_noiseOf_7 rfl rfl rfl ?_
    refine pn_cp (fun r9 h9 => pn_LKV dX11_noiseOf_8 lm_X11_55 (ct_X11_people Γ σ r9 h9) (by decide) qt_85 qk_85 rfl rfl (Nat.le_of_ble_eq_true rfl)) rfl (fun x1 => ?_)
    refine pn_icmp_ge (tgt := 43) dX11_noiseOf_11 rfl rfl (fun c2 => ?_) (fun c2 => ?_)
    · refine pn_iload_n dX11_noiseOf_43 rfl rfl rfl ?_
      exact pn_iretv dX11_noiseOf_44 rfl rfl rfl
    · refine pn_iload_n dX11_noiseOf_14 rfl rfl rfl ?_
      refine pn_iload_n dX11_noiseOf_15 rfl rfl rfl ?_
      refine pn_iload dX11_noiseOf_16 rfl rfl ?_
      refine pn_cp (fun r9 h9 => pn_LKS dX11_noiseOf_18 lm_X11_274 (ct_X11_has Γ l1 l4 σ r9 h9) (by decide) rfl rfl (Nat.le_of_ble_eq_true rfl)) rfl (fun x3 => ?_)
      refine pn_if_eq (tgt := 34) dX11_noiseOf_21 rfl rfl (fun c4 => ?_) (fun c4 => ?_)
      · refine pn_iconst dX11_noiseOf_34 rfl ic_0 ?_
        refine pn_iadd dX11_noiseOf_35 rfl ?_
        refine pn_istore_n (ls' := [.ref 85, .int l1, .int l2, .int (l3 + (0 : Int32)), .int l4]) dX11_noiseOf_36 rfl rfl (Nat.le_of_ble_eq_true rfl) rfl ?_
        refine pn_iinc (ls' := [.ref 85, .int l1, .int l2, .int (l3 + (0 : Int32)), .int (l4 + (1 : Int32))]) dX11_noiseOf_37 rfl (Nat.le_of_ble_eq_true rfl) rfl (congrArg (fun z => l4 + z) ic_1) rfl ?_
        refine pn_goto (pc' := 5) dX11_noiseOf_40 rfl ?_
        exact ih l1 l2 (l3 + (0 : Int32)) (l4 + (1 : Int32)) σ
      · refine pn_aload_n dX11_noiseOf_24 rfl rfl rfl ?_
        refine pn_iload dX11_noiseOf_25 rfl rfl ?_
        refine pn_iload_n dX11_noiseOf_27 rfl rfl rfl ?_
        refine pn_ci (fun r9 h9 => pn_LKV dX11_noiseOf_28 lm_X11_262 (ct_X11_pansOf Γ l4 l2 σ r9 h9) (by decide) qt_85 qk_85 rfl rfl (Nat.le_of_ble_eq_true rfl)) rfl (fun x5 σ5 => ?_)
        refine pn_goto (pc' := 35) dX11_noiseOf_31 rfl ?_
        refine pn_iadd dX11_noiseOf_35 rfl ?_
        refine pn_istore_n (ls' := [.ref 85, .int l1, .int l2, .int (l3 + x5), .int l4]) dX11_noiseOf_36 rfl rfl (Nat.le_of_ble_eq_true rfl) rfl ?_
        refine pn_iinc (ls' := [.ref 85, .int l1, .int l2, .int (l3 + x5), .int (l4 + (1 : Int32))]) dX11_noiseOf_37 rfl (Nat.le_of_ble_eq_true rfl) rfl (congrArg (fun z => l4 + z) ic_1) rfl ?_
        refine pn_goto (pc' := 5) dX11_noiseOf_40 rfl ?_
        exact ih l1 l2 (l3 + x5) (l4 + (1 : Int32)) σ5

set_option maxRecDepth 20000 in
set_option maxHeartbeats 4000000 in
theorem ct_X11_noiseOf (Γ : pn_G) (a1 : Int32) (a2 : Int32) (σ : pn_S) : ∀ r, fX11_noiseOf a1 a2 σ = some r → pn_C Γ 7 mX11_noiseOf [.ref 85, .int a1, .int a2] σ (pn_i r) := by
  refine pn_of (ls := [.ref 85, .int a1, .int a2, .null, .null]) (by decide) rfl (pn_cat rfl) rfl (Nat.le_of_ble_eq_true rfl) ?_
  rw [fX11_noiseOf]
  refine pn_iconst dX11_noiseOf_0 rfl ic_0 ?_
  refine pn_istore_n (ls' := [.ref 85, .int a1, .int a2, .int (0 : Int32), .null]) dX11_noiseOf_1 rfl rfl (Nat.le_of_ble_eq_true rfl) rfl ?_
  refine pn_iconst dX11_noiseOf_2 rfl ic_0 ?_
  refine pn_istore (ls' := [.ref 85, .int a1, .int a2, .int (0 : Int32), .int (0 : Int32)]) dX11_noiseOf_3 rfl (Nat.le_of_ble_eq_true rfl) rfl ?_
  exact wX11_noiseOf_5 Γ 5000 a1 a2 (0 : Int32) (0 : Int32) σ

set_option maxRecDepth 20000 in
set_option maxHeartbeats 4000000 in
theorem ct_X11_loudTo (Γ : pn_G) (a1 : Int32) (σ : pn_S) : ∀ r, fX11_loudTo a1 σ = some r → pn_C Γ 9 mX11_loudTo [.ref 85, .int a1] σ (pn_i r) := by
  refine pn_of (ls := [.ref 85, .int a1]) (by decide) rfl (pn_cat rfl) rfl (Nat.le_of_ble_eq_true rfl) ?_
  rw [fX11_loudTo]
  refine pn_aload_n dX11_loudTo_0 rfl rfl rfl ?_
  refine pn_aload_n dX11_loudTo_1 rfl rfl rfl ?_
  refine pn_iload_n dX11_loudTo_2 rfl rfl rfl ?_
  refine pn_ci (fun r9 h9 => pn_LKV dX11_loudTo_3 lm_X11_293 (ct_X11_crowdOf Γ a1 σ r9 h9) (by decide) qt_85 qk_85 rfl rfl (Nat.le_of_ble_eq_true rfl)) rfl (fun x1 σ1 => ?_)
  refine pn_iload_n dX11_loudTo_6 rfl rfl rfl ?_
  refine pn_ci (fun r9 h9 => pn_LKV dX11_loudTo_7 lm_X11_296 (ct_X11_noiseOf Γ x1 a1 σ1 r9 h9) (by decide) qt_85 qk_85 rfl rfl (Nat.le_of_ble_eq_true rfl)) rfl (fun x2 σ2 => ?_)
  exact pn_iretv dX11_loudTo_10 rfl rfl rfl

set_option maxRecDepth 20000 in
set_option maxHeartbeats 4000000 in
theorem ct_X11_comes (Γ : pn_G) (a1 : Int32) (σ : pn_S) : ∀ r, fX11_comes a1 σ = some r → pn_C Γ 9 mX11_comes [.ref 85, .int a1] σ (pn_i r) := by
  refine pn_of (ls := [.ref 85, .int a1]) (by decide) rfl (pn_cat rfl) rfl (Nat.le_of_ble_eq_true rfl) ?_
  rw [fX11_comes]
  refine pn_aload_n dX11_comes_0 rfl rfl rfl ?_
  refine pn_iconst dX11_comes_1 rfl ic_0 ?_
  refine pn_puti dX11_comes_2 rfl lf_X11_3_10 (fpi_10_0 (0 : Int32)) qt_85 qk_85 qr_85_0 ?_
  refine pn_aload_n dX11_comes_5 rfl rfl rfl ?_
  refine pn_aload_n dX11_comes_6 rfl rfl rfl ?_
  refine pn_iload_n dX11_comes_7 rfl rfl rfl ?_
  refine pn_cp (fun r9 h9 => pn_LKV dX11_comes_8 lm_X11_259 (ct_X11_nobody Γ a1 (pn_up σ 85 0 (0 : Int32)) r9 h9) (by decide) qt_85 qk_85 rfl rfl (Nat.le_of_ble_eq_true rfl)) rfl (fun x1 => ?_)
  refine pn_iconst dX11_comes_11 rfl ic_1 ?_
  refine pn_ci (fun r9 h9 => pn_LKV dX11_comes_12 lm_X11_240 (ct_X11_throwsIf Γ x1 (1 : Int32) (pn_up σ 85 0 (0 : Int32)) r9 h9) (by decide) qt_85 qk_85 rfl rfl (Nat.le_of_ble_eq_true rfl)) rfl (fun x2 σ2 => ?_)
  refine pn_if_eq (tgt := 22) dX11_comes_15 rfl rfl (fun c3 => ?_) (fun c3 => ?_)
  · refine pn_aload_n dX11_comes_22 rfl rfl rfl ?_
    refine pn_iload_n dX11_comes_23 rfl rfl rfl ?_
    refine pn_ci (fun r9 h9 => pn_LKV dX11_comes_24 lm_X11_293 (ct_X11_crowdOf Γ a1 σ2 r9 h9) (by decide) qt_85 qk_85 rfl rfl (Nat.le_of_ble_eq_true rfl)) rfl (fun x4 σ4 => ?_)
    exact pn_iretv dX11_comes_27 rfl rfl rfl
  · refine pn_iconst dX11_comes_18 rfl ic_0 ?_
    refine pn_goto (pc' := 27) dX11_comes_19 rfl ?_
    exact pn_iretv dX11_comes_27 rfl rfl rfl

set_option maxRecDepth 20000 in
set_option maxHeartbeats 4000000 in
theorem ct_X11_rounds (Γ : pn_G) (a1 : Int32) (σ : pn_S) : ∀ r, fX11_rounds a1 σ = some r → pn_C Γ 9 mX11_rounds [.ref 85, .int a1] σ (pn_i r) := by
  refine pn_of (ls := [.ref 85, .int a1]) (by decide) rfl (pn_cat rfl) rfl (Nat.le_of_ble_eq_true rfl) ?_
  rw [fX11_rounds]
  refine pn_aload_n dX11_rounds_0 rfl rfl rfl ?_
  refine pn_iconst dX11_rounds_1 rfl ic_0 ?_
  refine pn_puti dX11_rounds_2 rfl lf_X11_3_10 (fpi_10_0 (0 : Int32)) qt_85 qk_85 qr_85_0 ?_
  refine pn_aload_n dX11_rounds_5 rfl rfl rfl ?_
  refine pn_aload_n dX11_rounds_6 rfl rfl rfl ?_
  refine pn_iload_n dX11_rounds_7 rfl rfl rfl ?_
  refine pn_cp (fun r9 h9 => pn_LKV dX11_rounds_8 lm_X11_259 (ct_X11_nobody Γ a1 (pn_up σ 85 0 (0 : Int32)) r9 h9) (by decide) qt_85 qk_85 rfl rfl (Nat.le_of_ble_eq_true rfl)) rfl (fun x1 => ?_)
  refine pn_iconst dX11_rounds_11 rfl ic_1 ?_
  refine pn_ci (fun r9 h9 => pn_LKV dX11_rounds_12 lm_X11_240 (ct_X11_throwsIf Γ x1 (1 : Int32) (pn_up σ 85 0 (0 : Int32)) r9 h9) (by decide) qt_85 qk_85 rfl rfl (Nat.le_of_ble_eq_true rfl)) rfl (fun x2 σ2 => ?_)
  refine pn_if_eq (tgt := 20) dX11_rounds_15 rfl rfl (fun c3 => ?_) (fun c3 => ?_)
  · refine pn_aload_n dX11_rounds_20 rfl rfl rfl ?_
    refine pn_iload_n dX11_rounds_21 rfl rfl rfl ?_
    refine pn_ci (fun r9 h9 => pn_LKV dX11_rounds_22 lm_X11_293 (ct_X11_crowdOf Γ a1 σ2 r9 h9) (by decide) qt_85 qk_85 rfl rfl (Nat.le_of_ble_eq_true rfl)) rfl (fun x4 σ4 => ?_)
    refine pn_popi dX11_rounds_25 rfl ?_
    refine pn_aload_n dX11_rounds_26 rfl rfl rfl ?_
    refine pn_geti dX11_rounds_27 rfl lf_X11_271_10 qt_85 qk_85 qr_85_20 ?_
    exact pn_iretv dX11_rounds_30 rfl rfl rfl
  · refine pn_iconst dX11_rounds_18 rfl ic_0 ?_
    exact pn_iretv dX11_rounds_19 rfl rfl rfl

set_option maxRecDepth 20000 in
set_option maxHeartbeats 4000000 in
theorem wX11_when_45 (Γ : pn_G)  (l1 : Int32) (l2 : Int32) (s1 : Int32) (σ : pn_S) : pn_W9 Γ 9 mX11_when pn_i 45 [.ref 85, .int l1, .int l2] [.int s1, .ref 85] σ (fX11_when_45 l1 l2 s1 σ) := by
  rw [fX11_when_45]
  refine pn_iconst dX11_when_45 rfl ic_2 ?_
  refine pn_ci (fun r9 h9 => pn_LKV dX11_when_46 lm_X11_240 (ct_X11_throwsIf Γ s1 (2 : Int32) σ r9 h9) (by decide) qt_85 qk_85 rfl rfl (Nat.le_of_ble_eq_true rfl)) rfl (fun x8 σ8 => ?_)
  refine pn_if_eq (tgt := 54) dX11_when_49 rfl rfl (fun c9 => ?_) (fun c9 => ?_)
  · refine pn_aload_n dX11_when_54 rfl rfl rfl ?_
    refine pn_iload_n dX11_when_55 rfl rfl rfl ?_
    refine pn_ci (fun r9 h9 => pn_LKV dX11_when_56 lm_X11_293 (ct_X11_crowdOf Γ l2 σ8 r9 h9) (by decide) qt_85 qk_85 rfl rfl (Nat.le_of_ble_eq_true rfl)) rfl (fun x10 σ10 => ?_)
    refine pn_popi dX11_when_59 rfl ?_
    refine pn_aload_n dX11_when_60 rfl rfl rfl ?_
    refine pn_geta dX11_when_61 rfl lf_X11_45_10 qt_85 qk_85 qr_85_19 qt_95 ?_
    refine pn_iload_n dX11_when_64 rfl rfl rfl ?_
    refine pn_iald dX11_when_65 rfl qt_95 qk_95 ql_95 ?_
    exact pn_iretv dX11_when_66 rfl rfl rfl
  · refine pn_iconst dX11_when_52 rfl ic_0 ?_
    exact pn_iretv dX11_when_53 rfl rfl rfl

set_option maxRecDepth 20000 in
set_option maxHeartbeats 4000000 in
theorem wX11_when_27 (Γ : pn_G)  (l1 : Int32) (l2 : Int32) (s1 : Int32) (σ : pn_S) : pn_W9 Γ 9 mX11_when pn_i 27 [.ref 85, .int l1, .int l2] [.int s1, .ref 85] σ (fX11_when_27 l1 l2 s1 σ) := by
  rw [fX11_when_27]
  refine pn_iconst dX11_when_27 rfl ic_1 ?_
  refine pn_ci (fun r9 h9 => pn_LKV dX11_when_28 lm_X11_240 (ct_X11_throwsIf Γ s1 (1 : Int32) σ r9 h9) (by decide) qt_85 qk_85 rfl rfl (Nat.le_of_ble_eq_true rfl)) rfl (fun x5 σ5 => ?_)
  refine pn_if_ne (tgt := 52) dX11_when_31 rfl rfl (fun c6 => ?_) (fun c6 => ?_)
  · refine pn_aload_n dX11_when_34 rfl rfl rfl ?_
    refine pn_iload_n dX11_when_35 rfl rfl rfl ?_
    refine pn_iload_n dX11_when_36 rfl rfl rfl ?_
    refine pn_icmp_ne (tgt := 44) dX11_when_37 rfl rfl (fun c7 => ?_) (fun c7 => ?_)
    · refine pn_iconst dX11_when_40 rfl ic_1 ?_
      refine pn_goto (pc' := 45) dX11_when_41 rfl ?_
      exact wX11_when_45 Γ l1 l2 (1 : Int32) σ5
    · refine pn_iconst dX11_when_44 rfl ic_0 ?_
      exact wX11_when_45 Γ l1 l2 (0 : Int32) σ5
  · refine pn_iconst dX11_when_52 rfl ic_0 ?_
    exact pn_iretv dX11_when_53 rfl rfl rfl

set_option maxRecDepth 20000 in
set_option maxHeartbeats 4000000 in
theorem wX11_when_22 (Γ : pn_G)  (l1 : Int32) (l2 : Int32) (σ : pn_S) : pn_W9 Γ 9 mX11_when pn_i 22 [.ref 85, .int l1, .int l2] [.ref 85] σ (fX11_when_22 l1 l2 σ) := by
  rw [fX11_when_22]
  refine pn_iconst dX11_when_22 rfl ic_1 ?_
  refine pn_goto (pc' := 27) dX11_when_23 rfl ?_
  exact wX11_when_27 Γ l1 l2 (1 : Int32) σ

set_option maxRecDepth 20000 in
set_option maxHeartbeats 4000000 in
theorem ct_X11_when (Γ : pn_G) (a1 : Int32) (a2 : Int32) (σ : pn_S) : ∀ r, fX11_when a1 a2 σ = some r → pn_C Γ 9 mX11_when [.ref 85, .int a1, .int a2] σ (pn_i r) := by
  refine pn_of (ls := [.ref 85, .int a1, .int a2]) (by decide) rfl (pn_cat rfl) rfl (Nat.le_of_ble_eq_true rfl) ?_
  rw [fX11_when]
  refine pn_aload_n dX11_when_0 rfl rfl rfl ?_
  refine pn_iconst dX11_when_1 rfl ic_0 ?_
  refine pn_puti dX11_when_2 rfl lf_X11_3_10 (fpi_10_0 (0 : Int32)) qt_85 qk_85 qr_85_0 ?_
  refine pn_aload_n dX11_when_5 rfl rfl rfl ?_
  refine pn_aload_n dX11_when_6 rfl rfl rfl ?_
  refine pn_iload_n dX11_when_7 rfl rfl rfl ?_
  refine pn_cp (fun r9 h9 => pn_LKV dX11_when_8 lm_X11_259 (ct_X11_nobody Γ a1 (pn_up σ 85 0 (0 : Int32)) r9 h9) (by decide) qt_85 qk_85 rfl rfl (Nat.le_of_ble_eq_true rfl)) rfl (fun x1 => ?_)
  refine pn_if_ne (tgt := 22) dX11_when_11 rfl rfl (fun c2 => ?_) (fun c2 => ?_)
  · refine pn_aload_n dX11_when_14 rfl rfl rfl ?_
    refine pn_iload_n dX11_when_15 rfl rfl rfl ?_
    refine pn_cp (fun r9 h9 => pn_LKV dX11_when_16 lm_X11_259 (ct_X11_nobody Γ a2 (pn_up σ 85 0 (0 : Int32)) r9 h9) (by decide) qt_85 qk_85 rfl rfl (Nat.le_of_ble_eq_true rfl)) rfl (fun x3 => ?_)
    refine pn_if_eq (tgt := 26) dX11_when_19 rfl rfl (fun c4 => ?_) (fun c4 => ?_)
    · refine pn_iconst dX11_when_26 rfl ic_0 ?_
      exact wX11_when_27 Γ a1 a2 (0 : Int32) (pn_up σ 85 0 (0 : Int32))
    · exact wX11_when_22 Γ a1 a2 (pn_up σ 85 0 (0 : Int32))
  · exact wX11_when_22 Γ a1 a2 (pn_up σ 85 0 (0 : Int32))

set_option maxRecDepth 20000 in
set_option maxHeartbeats 4000000 in
theorem ct_X11_loud (Γ : pn_G) (a1 : Int32) (σ : pn_S) : ∀ r, fX11_loud a1 σ = some r → pn_C Γ 10 mX11_loud [.ref 85, .int a1] σ (pn_i r) := by
  refine pn_of (ls := [.ref 85, .int a1]) (by decide) rfl (pn_cat rfl) rfl (Nat.le_of_ble_eq_true rfl) ?_
  rw [fX11_loud]
  refine pn_aload_n dX11_loud_0 rfl rfl rfl ?_
  refine pn_iconst dX11_loud_1 rfl ic_0 ?_
  refine pn_puti dX11_loud_2 rfl lf_X11_3_10 (fpi_10_0 (0 : Int32)) qt_85 qk_85 qr_85_0 ?_
  refine pn_aload_n dX11_loud_5 rfl rfl rfl ?_
  refine pn_aload_n dX11_loud_6 rfl rfl rfl ?_
  refine pn_iload_n dX11_loud_7 rfl rfl rfl ?_
  refine pn_cp (fun r9 h9 => pn_LKV dX11_loud_8 lm_X11_259 (ct_X11_nobody Γ a1 (pn_up σ 85 0 (0 : Int32)) r9 h9) (by decide) qt_85 qk_85 rfl rfl (Nat.le_of_ble_eq_true rfl)) rfl (fun x1 => ?_)
  refine pn_iconst dX11_loud_11 rfl ic_1 ?_
  refine pn_ci (fun r9 h9 => pn_LKV dX11_loud_12 lm_X11_240 (ct_X11_throwsIf Γ x1 (1 : Int32) (pn_up σ 85 0 (0 : Int32)) r9 h9) (by decide) qt_85 qk_85 rfl rfl (Nat.le_of_ble_eq_true rfl)) rfl (fun x2 σ2 => ?_)
  refine pn_if_eq (tgt := 22) dX11_loud_15 rfl rfl (fun c3 => ?_) (fun c3 => ?_)
  · refine pn_aload_n dX11_loud_22 rfl rfl rfl ?_
    refine pn_iload_n dX11_loud_23 rfl rfl rfl ?_
    refine pn_ci (fun r9 h9 => pn_LKV dX11_loud_24 lm_X11_299 (ct_X11_loudTo Γ a1 σ2 r9 h9) (by decide) qt_85 qk_85 rfl rfl (Nat.le_of_ble_eq_true rfl)) rfl (fun x4 σ4 => ?_)
    exact pn_iretv dX11_loud_27 rfl rfl rfl
  · refine pn_iconst dX11_loud_18 rfl ic_0 ?_
    refine pn_goto (pc' := 27) dX11_loud_19 rfl ?_
    exact pn_iretv dX11_loud_27 rfl rfl rfl

set_option maxRecDepth 20000 in
set_option maxHeartbeats 4000000 in
theorem ct_X11_noTarget (Γ : pn_G)  (σ : pn_S) : ∀ r, fX11_noTarget  σ = some r → pn_C Γ 1 mX11_noTarget [.ref 85] σ (pn_v r) := by
  refine pn_of (ls := [.ref 85]) (by decide) rfl (pn_cat rfl) rfl (Nat.le_of_ble_eq_true rfl) ?_
  rw [fX11_noTarget]
  refine pn_aload_n dX11_noTarget_0 rfl rfl rfl ?_
  refine pn_geta dX11_noTarget_1 rfl lf_X11_13_10 qt_85 qk_85 qr_85_1 qt_86 ?_
  refine pn_iconst dX11_noTarget_4 rfl ic_5 ?_
  refine pn_iconst dX11_noTarget_5 rfl ic_m1 ?_
  refine pn_iastc dX11_noTarget_6 rfl qt_86 qk_86 ql_86 (by decide) qn_5 ?_
  refine pn_aload_n dX11_noTarget_7 rfl rfl rfl ?_
  refine pn_geta dX11_noTarget_8 rfl lf_X11_13_10 qt_85 qk_85 qr_85_1 qt_86 ?_
  refine pn_bipush dX11_noTarget_11 rfl bc_6 ?_
  refine pn_iconst dX11_noTarget_13 rfl ic_0 ?_
  refine pn_iastc dX11_noTarget_14 rfl qt_86 qk_86 ql_86 (by decide) qn_6 ?_
  exact pn_vretv dX11_noTarget_15 rfl rfl

set_option maxRecDepth 20000 in
set_option maxHeartbeats 4000000 in
theorem wX11_name_33 (Γ : pn_G)  (l1 : Int32) (s1 : Int32) (σ : pn_S) : pn_W9 Γ 3 mX11_name pn_i 33 [.ref 85, .int l1, .null] [.int s1, .ref 85] σ (fX11_name_33 l1 s1 σ) := by
  rw [fX11_name_33]
  refine pn_iconst dX11_name_33 rfl ic_2 ?_
  refine pn_ci (fun r9 h9 => pn_LKV dX11_name_34 lm_X11_240 (ct_X11_throwsIf Γ s1 (2 : Int32) σ r9 h9) (by decide) qt_85 qk_85 rfl rfl (Nat.le_of_ble_eq_true rfl)) rfl (fun x6 σ6 => ?_)
  refine pn_if_eq (tgt := 42) dX11_name_37 rfl rfl (fun c7 => ?_) (fun c7 => ?_)
  · refine pn_aload_n dX11_name_42 rfl rfl rfl ?_
    refine pn_cv (fun r9 h9 => pn_LKV dX11_name_43 lm_X11_302 (ct_X11_remembers Γ σ6 r9 h9) (by decide) qt_85 qk_85 rfl rfl (Nat.le_of_ble_eq_true rfl)) rfl (fun σ8 => ?_)
    refine pn_aload_n dX11_name_46 rfl rfl rfl ?_
    refine pn_geta dX11_name_47 rfl lf_X11_13_10 qt_85 qk_85 qr_85_1 qt_86 ?_
    refine pn_iconst dX11_name_50 rfl ic_5 ?_
    refine pn_ialdc dX11_name_51 rfl qt_86 qk_86 ql_86 (by decide) qn_5 ?_
    refine pn_istore_n (ls' := [.ref 85, .int l1, .int (σ8 86 5)]) dX11_name_52 rfl rfl (Nat.le_of_ble_eq_true rfl) rfl ?_
    refine pn_aload_n dX11_name_53 rfl rfl rfl ?_
    refine pn_geta dX11_name_54 rfl lf_X11_13_10 qt_85 qk_85 qr_85_1 qt_86 ?_
    refine pn_iconst dX11_name_57 rfl ic_5 ?_
    refine pn_iload_n dX11_name_58 rfl rfl rfl ?_
    refine pn_iastc dX11_name_59 rfl qt_86 qk_86 ql_86 (by decide) qn_5 ?_
    refine pn_aload_n dX11_name_60 rfl rfl rfl ?_
    refine pn_geta dX11_name_61 rfl lf_X11_13_10 qt_85 qk_85 qr_85_1 qt_86 ?_
    refine pn_bipush dX11_name_64 rfl bc_6 ?_
    refine pn_iconst dX11_name_66 rfl ic_0 ?_
    refine pn_iastc dX11_name_67 rfl qt_86 qk_86 ql_86 (by decide) qn_6 ?_
    refine pn_iload_n dX11_name_68 rfl rfl rfl ?_
    exact pn_iretv dX11_name_69 rfl rfl rfl
  · refine pn_iconst dX11_name_40 rfl ic_0 ?_
    exact pn_iretv dX11_name_41 rfl rfl rfl

set_option maxRecDepth 20000 in
set_option maxHeartbeats 4000000 in
theorem ct_X11_name (Γ : pn_G) (a1 : Int32) (σ : pn_S) : ∀ r, fX11_name a1 σ = some r → pn_C Γ 3 mX11_name [.ref 85, .int a1] σ (pn_i r) := by
  refine pn_of (ls := [.ref 85, .int a1, .null]) (by decide) rfl (pn_cat rfl) rfl (Nat.le_of_ble_eq_true rfl) ?_
  rw [fX11_name]
  refine pn_aload_n dX11_name_0 rfl rfl rfl ?_
  refine pn_iconst dX11_name_1 rfl ic_0 ?_
  refine pn_puti dX11_name_2 rfl lf_X11_3_10 (fpi_10_0 (0 : Int32)) qt_85 qk_85 qr_85_0 ?_
  refine pn_aload_n dX11_name_5 rfl rfl rfl ?_
  refine pn_aload_n dX11_name_6 rfl rfl rfl ?_
  refine pn_iload_n dX11_name_7 rfl rfl rfl ?_
  refine pn_cp (fun r9 h9 => pn_LKV dX11_name_8 lm_X11_259 (ct_X11_nobody Γ a1 (pn_up σ 85 0 (0 : Int32)) r9 h9) (by decide) qt_85 qk_85 rfl rfl (Nat.le_of_ble_eq_true rfl)) rfl (fun x1 => ?_)
  refine pn_iconst dX11_name_11 rfl ic_1 ?_
  refine pn_ci (fun r9 h9 => pn_LKV dX11_name_12 lm_X11_240 (ct_X11_throwsIf Γ x1 (1 : Int32) (pn_up σ 85 0 (0 : Int32)) r9 h9) (by decide) qt_85 qk_85 rfl rfl (Nat.le_of_ble_eq_true rfl)) rfl (fun x2 σ2 => ?_)
  refine pn_if_ne (tgt := 40) dX11_name_15 rfl rfl (fun c3 => ?_) (fun c3 => ?_)
  · refine pn_aload_n dX11_name_18 rfl rfl rfl ?_
    refine pn_aload_n dX11_name_19 rfl rfl rfl ?_
    refine pn_iload_n dX11_name_20 rfl rfl rfl ?_
    refine pn_iconst dX11_name_21 rfl ic_4 ?_
    refine pn_cp (fun r9 h9 => pn_LKV dX11_name_22 lm_X11_67 (ct_X11_of Γ a1 (4 : Int32) σ2 r9 h9) (by decide) qt_85 qk_85 rfl rfl (Nat.le_of_ble_eq_true rfl)) rfl (fun x4 => ?_)
    refine pn_if_ne (tgt := 32) dX11_name_25 rfl rfl (fun c5 => ?_) (fun c5 => ?_)
    · refine pn_iconst dX11_name_28 rfl ic_1 ?_
      refine pn_goto (pc' := 33) dX11_name_29 rfl ?_
      exact wX11_name_33 Γ a1 (1 : Int32) σ2
    · refine pn_iconst dX11_name_32 rfl ic_0 ?_
      exact wX11_name_33 Γ a1 (0 : Int32) σ2
  · refine pn_iconst dX11_name_40 rfl ic_0 ?_
    exact pn_iretv dX11_name_41 rfl rfl rfl

set_option maxRecDepth 20000 in
set_option maxHeartbeats 4000000 in
theorem wX11_begin_60 (Γ : pn_G)  (l2 : Int32) (l3 : Int32) (s1 : Int32) (s2 : Int32) (σ : pn_S) : pn_W9 Γ 3 mX11_begin pn_i 60 [.null, .null, .int l2, .int l3] [.int s2, .int s1, .ref 86] σ (fX11_begin_60 l2 l3 s1 s2 σ) := by
  rw [fX11_begin_60]
  refine pn_iast dX11_begin_60 rfl qt_86 qk_86 ql_86 ?_
  refine pn_iload_n dX11_begin_61 rfl rfl rfl ?_
  refine pn_iload_n dX11_begin_62 rfl rfl rfl ?_
  refine pn_icmp_eq (tgt := 70) dX11_begin_63 rfl rfl (fun c9 => ?_) (fun c9 => ?_)
  · refine pn_iconst dX11_begin_70 rfl ic_0 ?_
    exact pn_iretv dX11_begin_71 rfl rfl rfl
  · refine pn_iconst dX11_begin_66 rfl ic_1 ?_
    refine pn_goto (pc' := 71) dX11_begin_67 rfl ?_
    exact pn_iretv dX11_begin_71 rfl rfl rfl

set_option maxRecDepth 20000 in
set_option maxHeartbeats 4000000 in
theorem wX11_begin_40 (Γ : pn_G)  (l1 : Int32) (l2 : Int32) (s0 : Int32) (σ : pn_S) : pn_W9 Γ 3 mX11_begin pn_i 40 [.ref 85, .int l1, .int l2, .null] [.int s0] σ (fX11_begin_40 l1 l2 s0 σ) := by
  rw [fX11_begin_40]
  refine pn_istore_n (ls' := [.ref 85, .int l1, .int l2, .int s0]) dX11_begin_40 rfl rfl (Nat.le_of_ble_eq_true rfl) rfl ?_
  refine pn_aload_n dX11_begin_41 rfl rfl rfl ?_
  refine pn_geta dX11_begin_42 rfl lf_X11_13_10 qt_85 qk_85 qr_85_1 qt_86 ?_
  refine pn_iload_n dX11_begin_45 rfl rfl rfl ?_
  refine pn_bipush dX11_begin_46 rfl bc_7 ?_
  refine pn_cp (fun r9 h9 => pn_LKS dX11_begin_48 lm_X11_59 (ct_X11_at Γ l1 (7 : Int32) σ r9 h9) (by decide) rfl rfl (Nat.le_of_ble_eq_true rfl)) rfl (fun x7 => ?_)
  refine pn_iload_n dX11_begin_51 rfl rfl rfl ?_
  refine pn_if_eq (tgt := 59) dX11_begin_52 rfl rfl (fun c8 => ?_) (fun c8 => ?_)
  · refine pn_iconst dX11_begin_59 rfl ic_0 ?_
    exact pn_wk (pn_leN (pn_leN (pn_leC rfl (pn_leC rfl pn_le0)))) (wX11_begin_60 Γ l2 s0 x7 (0 : Int32) σ)
  · refine pn_iconst dX11_begin_55 rfl ic_1 ?_
    refine pn_goto (pc' := 60) dX11_begin_56 rfl ?_
    exact pn_wk (pn_leN (pn_leN (pn_leC rfl (pn_leC rfl pn_le0)))) (wX11_begin_60 Γ l2 s0 x7 (1 : Int32) σ)

set_option maxRecDepth 20000 in
set_option maxHeartbeats 4000000 in
theorem ct_X11_begin (Γ : pn_G) (a1 : Int32) (a2 : Int32) (σ : pn_S) : ∀ r, fX11_begin a1 a2 σ = some r → pn_C Γ 3 mX11_begin [.ref 85, .int a1, .int a2] σ (pn_i r) := by
  refine pn_of (ls := [.ref 85, .int a1, .int a2, .null]) (by decide) rfl (pn_cat rfl) rfl (Nat.le_of_ble_eq_true rfl) ?_
  rw [fX11_begin]
  refine pn_aload_n dX11_begin_0 rfl rfl rfl ?_
  refine pn_iconst dX11_begin_1 rfl ic_0 ?_
  refine pn_puti dX11_begin_2 rfl lf_X11_3_10 (fpi_10_0 (0 : Int32)) qt_85 qk_85 qr_85_0 ?_
  refine pn_aload_n dX11_begin_5 rfl rfl rfl ?_
  refine pn_aload_n dX11_begin_6 rfl rfl rfl ?_
  refine pn_iload_n dX11_begin_7 rfl rfl rfl ?_
  refine pn_cp (fun r9 h9 => pn_LKV dX11_begin_8 lm_X11_259 (ct_X11_nobody Γ a1 (pn_up σ 85 0 (0 : Int32)) r9 h9) (by decide) qt_85 qk_85 rfl rfl (Nat.le_of_ble_eq_true rfl)) rfl (fun x1 => ?_)
  refine pn_iconst dX11_begin_11 rfl ic_1 ?_
  refine pn_ci (fun r9 h9 => pn_LKV dX11_begin_12 lm_X11_240 (ct_X11_throwsIf Γ x1 (1 : Int32) (pn_up σ 85 0 (0 : Int32)) r9 h9) (by decide) qt_85 qk_85 rfl rfl (Nat.le_of_ble_eq_true rfl)) rfl (fun x2 σ2 => ?_)
  refine pn_if_eq (tgt := 20) dX11_begin_15 rfl rfl (fun c3 => ?_) (fun c3 => ?_)
  · refine pn_aload_n dX11_begin_20 rfl rfl rfl ?_
    refine pn_cv (fun r9 h9 => pn_LKV dX11_begin_21 lm_X11_302 (ct_X11_remembers Γ σ2 r9 h9) (by decide) qt_85 qk_85 rfl rfl (Nat.le_of_ble_eq_true rfl)) rfl (fun σ4 => ?_)
    refine pn_aload_n dX11_begin_24 rfl rfl rfl ?_
    refine pn_iload_n dX11_begin_25 rfl rfl rfl ?_
    refine pn_bipush dX11_begin_26 rfl bc_7 ?_
    refine pn_cp (fun r9 h9 => pn_LKV dX11_begin_28 lm_X11_67 (ct_X11_of Γ a1 (7 : Int32) σ4 r9 h9) (by decide) qt_85 qk_85 rfl rfl (Nat.le_of_ble_eq_true rfl)) rfl (fun x5 => ?_)
    refine pn_iconst dX11_begin_31 rfl ic_1 ?_
    refine pn_icmp_ne (tgt := 39) dX11_begin_32 rfl rfl (fun c6 => ?_) (fun c6 => ?_)
    · refine pn_iconst dX11_begin_35 rfl ic_1 ?_
      refine pn_goto (pc' := 40) dX11_begin_36 rfl ?_
      exact wX11_begin_40 Γ a1 a2 (1 : Int32) σ4
    · refine pn_iconst dX11_begin_39 rfl ic_0 ?_
      exact wX11_begin_40 Γ a1 a2 (0 : Int32) σ4
  · refine pn_iconst dX11_begin_18 rfl ic_0 ?_
    exact pn_iretv dX11_begin_19 rfl rfl rfl

