set_option maxRecDepth 20000 in
set_option maxHeartbeats 4000000 in
theorem ct_X8_draw (Γ : pn_G) (v0 : Nat) (hv0 : pn_isV v0) (σ : pn_S) : ∀ r, fX8_draw v0 σ = some r → pn_C Γ 1 mX8_draw [.ref v0] σ (pn_i r) := by
  refine pn_of (ls := [.ref v0]) (by decide) rfl (pn_cat rfl) rfl (Nat.le_of_ble_eq_true rfl) ?_
  rw [fX8_draw]
  refine pn_aload_n dX8_draw_0 rfl rfl rfl ?_
  refine pn_ldc dX8_draw_1 rfl lc_X8_80 ?_
  refine pn_aload_n dX8_draw_3 rfl rfl rfl ?_
  refine pn_geti dX8_draw_4 rfl lf_X8_50_7 hv0.1.1 hv0.1.2 (pn_RVi hv0.1.2 (by decide)) ?_
  refine pn_imul dX8_draw_7 rfl ?_
  refine pn_sipush dX8_draw_8 rfl sc_12345 ?_
  refine pn_iadd dX8_draw_11 rfl ?_
  refine pn_puti dX8_draw_12 rfl lf_X8_50_7 (fpi_7_12 (((1103515245 : Int32) * (σ v0 12)) + (12345 : Int32))) hv0.1.1 hv0.1.2 (pn_RVi hv0.1.2 (by decide)) ?_
  refine pn_aload_n dX8_draw_15 rfl rfl rfl ?_
  refine pn_geti dX8_draw_16 rfl lf_X8_50_7 hv0.1.1 hv0.1.2 (pn_RVi hv0.1.2 (by decide)) ?_
  refine pn_bipush dX8_draw_19 rfl bc_16 ?_
  refine pn_iushr dX8_draw_21 rfl ?_
  refine pn_sipush dX8_draw_22 rfl sc_32767 ?_
  refine pn_iand dX8_draw_25 rfl ?_
  exact pn_iretv dX8_draw_26 rfl rfl rfl

set_option maxRecDepth 20000 in
set_option maxHeartbeats 4000000 in
theorem wX10_fineAll_2 (Γ : pn_G) (v0 : Nat) (hv0 : pn_isV v0) : ∀ (n9 : Nat) (l2 : Int32) (σ : pn_S), pn_W9 Γ 2 mX10_fineAll pn_v 2 [.ref 0, .ref v0, .int l2] [] σ (fX10_fineAll_2 v0 n9 l2 σ) := by
  intro n9
  induction n9 with
  | zero => intro l2 σ; exact pn_none
  | succ n9 ih =>
    intro l2 σ
    rw [fX10_fineAll_2]
    refine pn_iload_n dX10_fineAll_2 rfl rfl rfl ?_
    refine pn_aload_n dX10_fineAll_3 rfl rfl rfl ?_
    refine pn_geti dX10_fineAll_4 rfl lf_X10_250_7 hv0.1.1 hv0.1.2 (pn_RVi hv0.1.2 (by decide)) ?_
    refine pn_icmp_ge (tgt := 52) dX10_fineAll_7 rfl rfl (fun c1 => ?_) (fun c1 => ?_)
    · exact pn_vretv dX10_fineAll_52 rfl rfl
    · refine pn_aload_n dX10_fineAll_10 rfl rfl rfl ?_
      refine pn_geta dX10_fineAll_11 rfl lf_X10_63_9 qt_0 qk_0 qr_0_9 qt_37 ?_
      refine pn_geti dX10_fineAll_14 rfl lf_X10_212_0 qt_37 qk_37 qr_37_4 ?_
      refine pn_iload_n dX10_fineAll_17 rfl rfl rfl ?_
      refine pn_cp (fun r9 h9 => pn_LKS dX10_fineAll_18 lm_X10_253 (ct_X10_hasBit Γ (σ 37 4) l2 σ r9 h9) (by decide) rfl rfl (Nat.le_of_ble_eq_true rfl)) rfl (fun x2 => ?_)
      refine pn_if_eq (tgt := 46) dX10_fineAll_21 rfl rfl (fun c3 => ?_) (fun c3 => ?_)
      · refine pn_iinc (ls' := [.ref 0, .ref v0, .int (l2 + (1 : Int32))]) dX10_fineAll_46 rfl (Nat.le_of_ble_eq_true rfl) rfl (congrArg (fun z => l2 + z) ic_1) rfl ?_
        refine pn_goto (pc' := 2) dX10_fineAll_49 rfl ?_
        exact ih (l2 + (1 : Int32)) σ
      · refine pn_aload_n dX10_fineAll_24 rfl rfl rfl ?_
        refine pn_iload_n dX10_fineAll_25 rfl rfl rfl ?_
        refine pn_iconst dX10_fineAll_26 rfl ic_3 ?_
        refine pn_iconst dX10_fineAll_27 rfl ic_0 ?_
        refine pn_aload_n dX10_fineAll_28 rfl rfl rfl ?_
        refine pn_iload_n dX10_fineAll_29 rfl rfl rfl ?_
        refine pn_iconst dX10_fineAll_30 rfl ic_3 ?_
        refine pn_cp (fun r9 h9 => pn_LKV dX10_fineAll_31 lm_X10_155 (ct_X8_of Γ v0 hv0 l2 (3 : Int32) σ r9 h9) (by decide) hv0.1.1 hv0.1.2 rfl rfl (Nat.le_of_ble_eq_true rfl)) rfl (fun x4 => ?_)
        refine pn_aload_n dX10_fineAll_34 rfl rfl rfl ?_
        refine pn_geti dX10_fineAll_35 rfl lf_X10_342_7 hv0.1.1 hv0.1.2 (pn_RVi hv0.1.2 (by decide)) ?_
        refine pn_isub dX10_fineAll_38 rfl ?_
        refine pn_cp (fun r9 h9 => pn_LKS dX10_fineAll_39 lm_X10_314 (ct_J9_max_7cf53 Γ (0 : Int32) (x4 - (σ v0 10)) σ r9 h9) (by decide) rfl rfl (Nat.le_of_ble_eq_true rfl)) rfl (fun x5 => ?_)
        refine pn_ci (fun r9 h9 => pn_LKV dX10_fineAll_42 lm_X10_185 (ct_X8_tell Γ v0 hv0 l2 (3 : Int32) x5 σ r9 h9) (by decide) hv0.1.1 hv0.1.2 rfl rfl (Nat.le_of_ble_eq_true rfl)) rfl (fun x6 σ6 => ?_)
        refine pn_popi dX10_fineAll_45 rfl ?_
        refine pn_iinc (ls' := [.ref 0, .ref v0, .int (l2 + (1 : Int32))]) dX10_fineAll_46 rfl (Nat.le_of_ble_eq_true rfl) rfl (congrArg (fun z => l2 + z) ic_1) rfl ?_
        refine pn_goto (pc' := 2) dX10_fineAll_49 rfl ?_
        exact ih (l2 + (1 : Int32)) σ6

set_option maxRecDepth 20000 in
set_option maxHeartbeats 4000000 in
theorem ct_X10_fineAll (Γ : pn_G) (v0 : Nat) (hv0 : pn_isV v0) (σ : pn_S) : ∀ r, fX10_fineAll v0 σ = some r → pn_C Γ 2 mX10_fineAll [.ref 0, .ref v0] σ (pn_v r) := by
  refine pn_of (ls := [.ref 0, .ref v0, .null]) (by decide) rfl (pn_cat rfl) rfl (Nat.le_of_ble_eq_true rfl) ?_
  rw [fX10_fineAll]
  refine pn_iconst dX10_fineAll_0 rfl ic_0 ?_
  refine pn_istore_n (ls' := [.ref 0, .ref v0, .int (0 : Int32)]) dX10_fineAll_1 rfl rfl (Nat.le_of_ble_eq_true rfl) rfl ?_
  exact wX10_fineAll_2 Γ v0 hv0 5000 (0 : Int32) σ

set_option maxRecDepth 20000 in
set_option maxHeartbeats 4000000 in
theorem wX10_endOfNoise_89 (Γ : pn_G) (v0 : Nat) (hv0 : pn_isV v0) (l3 : Int32) (σ : pn_S) : pn_W9 Γ 4 mX10_endOfNoise pn_i 89 [.ref 0, .ref v0, .null, .int l3] [] σ (fX10_endOfNoise_89 v0 l3 σ) := by
  rw [fX10_endOfNoise_89]
  refine pn_aload_n dX10_endOfNoise_89 rfl rfl rfl ?_
  refine pn_aload_n dX10_endOfNoise_90 rfl rfl rfl ?_
  refine pn_geti dX10_endOfNoise_91 rfl lf_X10_179_7 hv0.1.1 hv0.1.2 (pn_RVi hv0.1.2 (by decide)) ?_
  refine pn_iconst dX10_endOfNoise_94 rfl ic_2 ?_
  refine pn_iconst dX10_endOfNoise_95 rfl ic_0 ?_
  refine pn_iload_n dX10_endOfNoise_96 rfl rfl rfl ?_
  refine pn_aload_n dX10_endOfNoise_97 rfl rfl rfl ?_
  refine pn_geta dX10_endOfNoise_98 rfl lf_X10_63_9 qt_0 qk_0 qr_0_9 qt_37 ?_
  refine pn_geti dX10_endOfNoise_101 rfl lf_X10_222_0 qt_37 qk_37 qr_37_6 ?_
  refine pn_iconst dX10_endOfNoise_104 rfl ic_4 ?_
  refine pn_idivc dX10_endOfNoise_105 rfl (by decide) ?_
  refine pn_isub dX10_endOfNoise_106 rfl ?_
  refine pn_cp (fun r9 h9 => pn_LKS dX10_endOfNoise_107 lm_X10_314 (ct_J9_max_7cf53 Γ (0 : Int32) (l3 - ((σ 37 6) / (4 : Int32))) σ r9 h9) (by decide) rfl rfl (Nat.le_of_ble_eq_true rfl)) rfl (fun x5 => ?_)
  refine pn_ci (fun r9 h9 => pn_LKV dX10_endOfNoise_110 lm_X10_185 (ct_X8_tell Γ v0 hv0 (σ v0 4) (2 : Int32) x5 σ r9 h9) (by decide) hv0.1.1 hv0.1.2 rfl rfl (Nat.le_of_ble_eq_true rfl)) rfl (fun x6 σ6 => ?_)
  refine pn_popi dX10_endOfNoise_113 rfl ?_
  refine pn_iconst dX10_endOfNoise_114 rfl ic_3 ?_
  exact pn_iretv dX10_endOfNoise_115 rfl rfl rfl

set_option maxRecDepth 20000 in
set_option maxHeartbeats 4000000 in
theorem wX10_endOfNoise_37 (Γ : pn_G) (v0 : Nat) (hv0 : pn_isV v0)  (σ : pn_S) : pn_W9 Γ 4 mX10_endOfNoise pn_i 37 [.ref 0, .ref v0, .null, .null] [] σ (fX10_endOfNoise_37 v0  σ) := by
  rw [fX10_endOfNoise_37]
  refine pn_aload_n dX10_endOfNoise_37 rfl rfl rfl ?_
  refine pn_aload_n dX10_endOfNoise_38 rfl rfl rfl ?_
  refine pn_geti dX10_endOfNoise_39 rfl lf_X10_179_7 hv0.1.1 hv0.1.2 (pn_RVi hv0.1.2 (by decide)) ?_
  refine pn_iconst dX10_endOfNoise_42 rfl ic_2 ?_
  refine pn_cp (fun r9 h9 => pn_LKV dX10_endOfNoise_43 lm_X10_155 (ct_X8_of Γ v0 hv0 (σ v0 4) (2 : Int32) σ r9 h9) (by decide) hv0.1.1 hv0.1.2 rfl rfl (Nat.le_of_ble_eq_true rfl)) rfl (fun x3 => ?_)
  refine pn_istore_n (ls' := [.ref 0, .ref v0, .null, .int x3]) dX10_endOfNoise_46 rfl rfl (Nat.le_of_ble_eq_true rfl) rfl ?_
  refine pn_aload_n dX10_endOfNoise_47 rfl rfl rfl ?_
  refine pn_geta dX10_endOfNoise_48 rfl lf_X10_63_9 qt_0 qk_0 qr_0_9 qt_37 ?_
  refine pn_geti dX10_endOfNoise_51 rfl lf_X10_222_0 qt_37 qk_37 qr_37_6 ?_
  refine pn_iload_n dX10_endOfNoise_54 rfl rfl rfl ?_
  refine pn_icmp_lt (tgt := 89) dX10_endOfNoise_55 rfl rfl (fun c4 => ?_) (fun c4 => ?_)
  · exact wX10_endOfNoise_89 Γ v0 hv0 x3 σ
  · refine pn_aload_n dX10_endOfNoise_58 rfl rfl rfl ?_
    refine pn_aload_n dX10_endOfNoise_59 rfl rfl rfl ?_
    refine pn_geti dX10_endOfNoise_60 rfl lf_X10_179_7 hv0.1.1 hv0.1.2 (pn_RVi hv0.1.2 (by decide)) ?_
    refine pn_iconst dX10_endOfNoise_63 rfl ic_3 ?_
    refine pn_cp (fun r9 h9 => pn_LKV dX10_endOfNoise_64 lm_X10_155 (ct_X8_of Γ v0 hv0 (σ v0 4) (3 : Int32) σ r9 h9) (by decide) hv0.1.1 hv0.1.2 rfl rfl (Nat.le_of_ble_eq_true rfl)) rfl (fun x7 => ?_)
    refine pn_aload_n dX10_endOfNoise_67 rfl rfl rfl ?_
    refine pn_geti dX10_endOfNoise_68 rfl lf_X10_259_7 hv0.1.1 hv0.1.2 (pn_RVi hv0.1.2 (by decide)) ?_
    refine pn_aload_n dX10_endOfNoise_71 rfl rfl rfl ?_
    refine pn_geta dX10_endOfNoise_72 rfl lf_X10_63_9 qt_0 qk_0 qr_0_9 qt_37 ?_
    refine pn_geti dX10_endOfNoise_75 rfl lf_X10_256_0 qt_37 qk_37 qr_37_5 ?_
    refine pn_imul dX10_endOfNoise_78 rfl ?_
    refine pn_icmp_lt (tgt := 89) dX10_endOfNoise_79 rfl rfl (fun c8 => ?_) (fun c8 => ?_)
    · exact wX10_endOfNoise_89 Γ v0 hv0 x3 σ
    · refine pn_aload_n dX10_endOfNoise_82 rfl rfl rfl ?_
      refine pn_aload_n dX10_endOfNoise_83 rfl rfl rfl ?_
      refine pn_cv (fun r9 h9 => pn_LKV dX10_endOfNoise_84 lm_X10_196 (ct_X10_buyOff Γ v0 hv0 σ r9 h9) (by decide) qt_0 qk_0 rfl rfl (Nat.le_of_ble_eq_true rfl)) rfl (fun σ9 => ?_)
      refine pn_iconst dX10_endOfNoise_87 rfl ic_2 ?_
      exact pn_iretv dX10_endOfNoise_88 rfl rfl rfl

set_option maxRecDepth 20000 in
set_option maxHeartbeats 4000000 in
theorem ct_X10_endOfNoise (Γ : pn_G) (v0 : Nat) (hv0 : pn_isV v0) (a2 : Int32) (σ : pn_S) : ∀ r, fX10_endOfNoise v0 a2 σ = some r → pn_C Γ 4 mX10_endOfNoise [.ref 0, .ref v0, .int a2] σ (pn_i r) := by
  refine pn_of (ls := [.ref 0, .ref v0, .int a2, .null]) (by decide) rfl (pn_cat rfl) rfl (Nat.le_of_ble_eq_true rfl) ?_
  rw [fX10_endOfNoise]
  refine pn_aload_n dX10_endOfNoise_0 rfl rfl rfl ?_
  refine pn_geta dX10_endOfNoise_1 rfl lf_X10_63_9 qt_0 qk_0 qr_0_9 qt_37 ?_
  refine pn_geti dX10_endOfNoise_4 rfl lf_X10_256_0 qt_37 qk_37 qr_37_5 ?_
  refine pn_if_ne (tgt := 12) dX10_endOfNoise_7 rfl rfl (fun c1 => ?_) (fun c1 => ?_)
  · refine pn_iconst dX10_endOfNoise_10 rfl ic_0 ?_
    exact pn_iretv dX10_endOfNoise_11 rfl rfl rfl
  · refine pn_iload_n dX10_endOfNoise_12 rfl rfl rfl ?_
    refine pn_if_eq (tgt := 37) dX10_endOfNoise_13 rfl rfl (fun c2 => ?_) (fun c2 => ?_)
    · exact pn_wk (pn_leC rfl (pn_leC rfl (pn_leN (pn_leN pn_le0)))) (wX10_endOfNoise_37 Γ v0 hv0 σ)
    · refine pn_aload_n dX10_endOfNoise_16 rfl rfl rfl ?_
      refine pn_ci (fun r9 h9 => pn_LKV dX10_endOfNoise_17 lm_X10_377 (ct_X8_draw Γ v0 hv0 σ r9 h9) (by decide) hv0.1.1 hv0.1.2 rfl rfl (Nat.le_of_ble_eq_true rfl)) rfl (fun x10 σ10 => ?_)
      refine pn_bipush dX10_endOfNoise_20 rfl bc_100 ?_
      refine pn_iremc dX10_endOfNoise_22 rfl (by decide) ?_
      refine pn_aload_n dX10_endOfNoise_23 rfl rfl rfl ?_
      refine pn_geti dX10_endOfNoise_24 rfl lf_X10_339_7 hv0.1.1 hv0.1.2 (pn_RVi hv0.1.2 (by decide)) ?_
      refine pn_icmp_ge (tgt := 37) dX10_endOfNoise_27 rfl rfl (fun c11 => ?_) (fun c11 => ?_)
      · exact pn_wk (pn_leC rfl (pn_leC rfl (pn_leN (pn_leN pn_le0)))) (wX10_endOfNoise_37 Γ v0 hv0 σ10)
      · refine pn_aload_n dX10_endOfNoise_30 rfl rfl rfl ?_
        refine pn_aload_n dX10_endOfNoise_31 rfl rfl rfl ?_
        refine pn_cv (fun r9 h9 => pn_LKV dX10_endOfNoise_32 lm_X10_389 (ct_X10_fineAll Γ v0 hv0 σ10 r9 h9) (by decide) qt_0 qk_0 rfl rfl (Nat.le_of_ble_eq_true rfl)) rfl (fun σ12 => ?_)
        refine pn_iconst dX10_endOfNoise_35 rfl ic_1 ?_
        exact pn_iretv dX10_endOfNoise_36 rfl rfl rfl

set_option maxRecDepth 20000 in
set_option maxHeartbeats 4000000 in
theorem wX8_addRow_69 (Γ : pn_G) (v0 : Nat) (hv0 : pn_isV v0)  (σ : pn_S) : pn_W9 Γ 2 mX8_addRow pn_v 69 [.ref v0, .null, .null, .null, .null] [] σ (fX8_addRow_69 v0  σ) := by
  rw [fX8_addRow_69]
  refine pn_aload_n dX8_addRow_69 rfl rfl rfl ?_
  refine pn_aload_n dX8_addRow_70 rfl rfl rfl ?_
  refine pn_geti dX8_addRow_71 rfl lf_X8_56_7 hv0.1.1 hv0.1.2 (pn_RVi hv0.1.2 (by decide)) ?_
  refine pn_iconst dX8_addRow_74 rfl ic_1 ?_
  refine pn_iadd dX8_addRow_75 rfl ?_
  refine pn_bipush dX8_addRow_76 rfl bc_60 ?_
  refine pn_iremc dX8_addRow_78 rfl (by decide) ?_
  refine pn_puti dX8_addRow_79 rfl lf_X8_56_7 (fpi_7_14 (((σ v0 14) + (1 : Int32)) - ((σ v0 14) + (1 : Int32)) / (60 : Int32) * (60 : Int32))) hv0.1.1 hv0.1.2 (pn_RVi hv0.1.2 (by decide)) ?_
  refine pn_aload_n dX8_addRow_82 rfl rfl rfl ?_
  refine pn_bipush dX8_addRow_83 rfl bc_60 ?_
  refine pn_aload_n dX8_addRow_85 rfl rfl rfl ?_
  refine pn_geti dX8_addRow_86 rfl lf_X8_53_7 hv0.1.1 hv0.1.2 (pn_RVi hv0.1.2 (by decide)) ?_
  refine pn_iconst dX8_addRow_89 rfl ic_1 ?_
  refine pn_iadd dX8_addRow_90 rfl ?_
  refine pn_cp (fun r9 h9 => pn_LKS dX8_addRow_91 lm_X8_81 (ct_J9_min_7cf53 Γ (60 : Int32) (((pn_up σ v0 14 (((σ v0 14) + (1 : Int32)) - ((σ v0 14) + (1 : Int32)) / (60 : Int32) * (60 : Int32))) v0 13) + (1 : Int32)) (pn_up σ v0 14 (((σ v0 14) + (1 : Int32)) - ((σ v0 14) + (1 : Int32)) / (60 : Int32) * (60 : Int32))) r9 h9) (by decide) rfl rfl (Nat.le_of_ble_eq_true rfl)) rfl (fun x3 => ?_)
  refine pn_puti dX8_addRow_94 rfl lf_X8_53_7 (fpi_7_13 x3) hv0.1.1 hv0.1.2 (pn_RVi hv0.1.2 (by decide)) ?_
  exact pn_vretv dX8_addRow_97 rfl rfl

set_option maxRecDepth 20000 in
set_option maxHeartbeats 4000000 in
theorem ct_X8_addRow (Γ : pn_G) (v0 : Nat) (hv0 : pn_isV v0) (a1 : Int32) (a2 : Int32) (a3 : Int32) (σ : pn_S) : ∀ r, fX8_addRow v0 a1 a2 a3 σ = some r → pn_C Γ 2 mX8_addRow [.ref v0, .int a1, .int a2, .int a3] σ (pn_v r) := by
  refine pn_of (ls := [.ref v0, .int a1, .int a2, .int a3, .null]) (by decide) rfl (pn_cat rfl) rfl (Nat.le_of_ble_eq_true rfl) ?_
  rw [fX8_addRow]
  refine pn_aload_n dX8_addRow_0 rfl rfl rfl ?_
  refine pn_geti dX8_addRow_1 rfl lf_X8_56_7 hv0.1.1 hv0.1.2 (pn_RVi hv0.1.2 (by decide)) ?_
  refine pn_iconst dX8_addRow_4 rfl ic_4 ?_
  refine pn_imul dX8_addRow_5 rfl ?_
  refine pn_istore (ls' := [.ref v0, .int a1, .int a2, .int a3, .int ((σ v0 14) * (4 : Int32))]) dX8_addRow_6 rfl (Nat.le_of_ble_eq_true rfl) rfl ?_
  refine pn_iload dX8_addRow_8 rfl rfl ?_
  refine pn_if_lt (tgt := 25) dX8_addRow_10 rfl rfl (fun c1 => ?_) (fun c1 => ?_)
  · exact pn_vretv dX8_addRow_25 rfl rfl
  · refine pn_iload dX8_addRow_13 rfl rfl ?_
    refine pn_iconst dX8_addRow_15 rfl ic_4 ?_
    refine pn_iadd dX8_addRow_16 rfl ?_
    refine pn_aload_n dX8_addRow_17 rfl rfl rfl ?_
    refine pn_geta dX8_addRow_18 rfl lf_X8_15_7 hv0.1.1 hv0.1.2 (pn_RV1 hv0.1.2) hv0.2.2.1 ?_
    refine pn_alen dX8_addRow_21 rfl hv0.2.2.1 hv0.2.2.2.1 hv0.2.2.2.2 ?_
    refine pn_icmp_le (tgt := 26) dX8_addRow_22 rfl rfl (fun c2 => ?_) (fun c2 => ?_)
    · refine pn_aload_n dX8_addRow_26 rfl rfl rfl ?_
      refine pn_geta dX8_addRow_27 rfl lf_X8_15_7 hv0.1.1 hv0.1.2 (pn_RV1 hv0.1.2) hv0.2.2.1 ?_
      refine pn_iload dX8_addRow_30 rfl rfl ?_
      refine pn_iconst dX8_addRow_32 rfl ic_0 ?_
      refine pn_iadd dX8_addRow_33 rfl ?_
      refine pn_aload_n dX8_addRow_34 rfl rfl rfl ?_
      refine pn_geti dX8_addRow_35 rfl lf_X8_31_7 hv0.1.1 hv0.1.2 (pn_RVi hv0.1.2 (by decide)) ?_
      refine pn_iast dX8_addRow_38 rfl hv0.2.2.1 hv0.2.2.2.1 hv0.2.2.2.2 ?_
      refine pn_aload_n dX8_addRow_39 rfl rfl rfl ?_
      refine pn_geta dX8_addRow_40 rfl lf_X8_15_7 hv0.1.1 hv0.1.2 (pn_RV1 hv0.1.2) hv0.2.2.1 ?_
      refine pn_iload dX8_addRow_43 rfl rfl ?_
      refine pn_iconst dX8_addRow_45 rfl ic_1 ?_
      refine pn_iadd dX8_addRow_46 rfl ?_
      refine pn_iload_n dX8_addRow_47 rfl rfl rfl ?_
      refine pn_iast dX8_addRow_48 rfl hv0.2.2.1 hv0.2.2.2.1 hv0.2.2.2.2 ?_
      refine pn_aload_n dX8_addRow_49 rfl rfl rfl ?_
      refine pn_geta dX8_addRow_50 rfl lf_X8_15_7 hv0.1.1 hv0.1.2 (pn_RV1 hv0.1.2) hv0.2.2.1 ?_
      refine pn_iload dX8_addRow_53 rfl rfl ?_
      refine pn_iconst dX8_addRow_55 rfl ic_2 ?_
      refine pn_iadd dX8_addRow_56 rfl ?_
      refine pn_iload_n dX8_addRow_57 rfl rfl rfl ?_
      refine pn_iast dX8_addRow_58 rfl hv0.2.2.1 hv0.2.2.2.1 hv0.2.2.2.2 ?_
      refine pn_aload_n dX8_addRow_59 rfl rfl rfl ?_
      refine pn_geta dX8_addRow_60 rfl lf_X8_15_7 hv0.1.1 hv0.1.2 (pn_RV1 hv0.1.2) hv0.2.2.1 ?_
      refine pn_iload dX8_addRow_63 rfl rfl ?_
      refine pn_iconst dX8_addRow_65 rfl ic_3 ?_
      refine pn_iadd dX8_addRow_66 rfl ?_
      refine pn_iload_n dX8_addRow_67 rfl rfl rfl ?_
      refine pn_iast dX8_addRow_68 rfl hv0.2.2.1 hv0.2.2.2.1 hv0.2.2.2.2 ?_
      exact pn_wk (pn_leC rfl (pn_leN (pn_leN (pn_leN (pn_leN pn_le0))))) (wX8_addRow_69 Γ v0 hv0 (pn_up (pn_up (pn_up (pn_up σ (v0 + 2) (Int32.toNatClampNeg (((σ v0 14) * (4 : Int32)) + (0 : Int32))) (σ v0 6)) (v0 + 2) (Int32.toNatClampNeg (((σ v0 14) * (4 : Int32)) + (1 : Int32))) a1) (v0 + 2) (Int32.toNatClampNeg (((σ v0 14) * (4 : Int32)) + (2 : Int32))) a2) (v0 + 2) (Int32.toNatClampNeg (((σ v0 14) * (4 : Int32)) + (3 : Int32))) a3))
    · exact pn_vretv dX8_addRow_25 rfl rfl

set_option maxRecDepth 20000 in
set_option maxHeartbeats 4000000 in
theorem ct_X8_bear (Γ : pn_G) (v0 : Nat) (hv0 : pn_isV v0) (σ : pn_S) : ∀ r, fX8_bear v0 σ = some r → pn_C Γ 3 mX8_bear [.ref v0] σ (pn_v r) := by
  refine pn_of (ls := [.ref v0]) (by decide) rfl (pn_cat rfl) rfl (Nat.le_of_ble_eq_true rfl) ?_
  rw [fX8_bear]
  refine pn_aload_n dX8_bear_0 rfl rfl rfl ?_
  refine pn_geti dX8_bear_1 rfl lf_X8_25_7 hv0.1.1 hv0.1.2 (pn_RVi hv0.1.2 (by decide)) ?_
  refine pn_iconst dX8_bear_4 rfl ic_m1 ?_
  refine pn_icmp_ne (tgt := 9) dX8_bear_5 rfl rfl (fun c1 => ?_) (fun c1 => ?_)
  · exact pn_vretv dX8_bear_8 rfl rfl
  · refine pn_aload_n dX8_bear_9 rfl rfl rfl ?_
    refine pn_dupa dX8_bear_10 rfl ?_
    refine pn_geti dX8_bear_11 rfl lf_X8_28_7 hv0.1.1 hv0.1.2 (pn_RVi hv0.1.2 (by decide)) ?_
    refine pn_iconst dX8_bear_14 rfl ic_1 ?_
    refine pn_iadd dX8_bear_15 rfl ?_
    refine pn_puti dX8_bear_16 rfl lf_X8_28_7 (fpi_7_5 ((σ v0 5) + (1 : Int32))) hv0.1.1 hv0.1.2 (pn_RVi hv0.1.2 (by decide)) ?_
    refine pn_aload_n dX8_bear_19 rfl rfl rfl ?_
    refine pn_geti dX8_bear_20 rfl lf_X8_28_7 hv0.1.1 hv0.1.2 (pn_RVi hv0.1.2 (by decide)) ?_
    refine pn_iconst dX8_bear_23 rfl ic_3 ?_
    refine pn_icmp_lt (tgt := 31) dX8_bear_24 rfl rfl (fun c2 => ?_) (fun c2 => ?_)
    · exact pn_vretv dX8_bear_31 rfl rfl
    · refine pn_aload_n dX8_bear_27 rfl rfl rfl ?_
      refine pn_cv (fun r9 h9 => pn_LKV dX8_bear_28 lm_X8_69 (ct_X8_forgive Γ v0 hv0 (pn_up σ v0 5 ((σ v0 5) + (1 : Int32))) r9 h9) (by decide) hv0.1.1 hv0.1.2 rfl rfl (Nat.le_of_ble_eq_true rfl)) rfl (fun σ3 => ?_)
      exact pn_vretv dX8_bear_31 rfl rfl

set_option maxRecDepth 20000 in
set_option maxHeartbeats 4000000 in
theorem wX10_passNight_95 (Γ : pn_G) (v0 : Nat) (hv0 : pn_isV v0) (l4 : Int32) (σ : pn_S) : pn_W9 Γ 5 mX10_passNight pn_i 95 [.null, .ref v0, .null, .null, .int l4, .null] [] σ (fX10_passNight_95 v0 l4 σ) := by
  rw [fX10_passNight_95]
  refine pn_aload_n dX10_passNight_95 rfl rfl rfl ?_
  refine pn_sipush dX10_passNight_96 rfl sc_9999 ?_
  refine pn_aload_n dX10_passNight_99 rfl rfl rfl ?_
  refine pn_geti dX10_passNight_100 rfl lf_X10_327_7 hv0.1.1 hv0.1.2 (pn_RVi hv0.1.2 (by decide)) ?_
  refine pn_iconst dX10_passNight_103 rfl ic_1 ?_
  refine pn_iadd dX10_passNight_104 rfl ?_
  refine pn_cp (fun r9 h9 => pn_LKS dX10_passNight_105 lm_X10_203 (ct_J9_min_7cf53 Γ (9999 : Int32) ((σ v0 6) + (1 : Int32)) σ r9 h9) (by decide) rfl rfl (Nat.le_of_ble_eq_true rfl)) rfl (fun x3 => ?_)
  refine pn_puti dX10_passNight_108 rfl lf_X10_327_7 (fpi_7_6 x3) hv0.1.1 hv0.1.2 (pn_RVi hv0.1.2 (by decide)) ?_
  refine pn_iload dX10_passNight_111 rfl rfl ?_
  exact pn_iretv dX10_passNight_113 rfl rfl rfl

set_option maxRecDepth 20000 in
set_option maxHeartbeats 4000000 in
theorem wX10_passNight_24 (Γ : pn_G) (v0 : Nat) (hv0 : pn_isV v0) (l2 : Int32) (s1 : Int32) (σ : pn_S) : pn_W9 Γ 5 mX10_passNight pn_i 24 [.ref 0, .ref v0, .int l2, .null, .null, .null] [.int s1, .ref v0] σ (fX10_passNight_24 v0 l2 s1 σ) := by
  rw [fX10_passNight_24]
  refine pn_putb dX10_passNight_24 rfl lf_X10_330_7 fpz_7_7 hv0.1.1 hv0.1.2 (pn_RVi hv0.1.2 (by decide)) ?_
  refine pn_aload_n dX10_passNight_27 rfl rfl rfl ?_
  refine pn_geti dX10_passNight_28 rfl lf_X10_179_7 hv0.1.1 hv0.1.2 (pn_RVi hv0.1.2 (by decide)) ?_
  refine pn_istore_n (ls' := [.ref 0, .ref v0, .int l2, .int ((pn_up σ v0 7 s1) v0 4), .null, .null]) dX10_passNight_31 rfl rfl (Nat.le_of_ble_eq_true rfl) rfl ?_
  refine pn_iconst dX10_passNight_32 rfl ic_0 ?_
  refine pn_istore (ls' := [.ref 0, .ref v0, .int l2, .int ((pn_up σ v0 7 s1) v0 4), .int (0 : Int32), .null]) dX10_passNight_33 rfl (Nat.le_of_ble_eq_true rfl) rfl ?_
  refine pn_iload_n dX10_passNight_35 rfl rfl rfl ?_
  refine pn_iconst dX10_passNight_36 rfl ic_m1 ?_
  refine pn_icmp_eq (tgt := 95) dX10_passNight_37 rfl rfl (fun c2 => ?_) (fun c2 => ?_)
  · exact pn_wk (pn_leN (pn_leC rfl (pn_leN (pn_leN (pn_leC rfl (pn_leN pn_le0)))))) (wX10_passNight_95 Γ v0 hv0 (0 : Int32) (pn_up σ v0 7 s1))
  · refine pn_aload_n dX10_passNight_40 rfl rfl rfl ?_
    refine pn_geta dX10_passNight_41 rfl lf_X10_63_9 qt_0 qk_0 qr_0_9 qt_37 ?_
    refine pn_aload_n dX10_passNight_44 rfl rfl rfl ?_
    refine pn_aload_n dX10_passNight_45 rfl rfl rfl ?_
    refine pn_geta dX10_passNight_46 rfl lf_X10_32_9 qt_0 qk_0 qr_0_4 qt_14 ?_
    refine pn_iload_n dX10_passNight_49 rfl rfl rfl ?_
    refine pn_cv (fun r9 h9 => pn_LKV dX10_passNight_50 lm_X10_225 (ct_X0_invite Γ v0 hv0 14 qw_14 ((pn_up σ v0 7 s1) v0 4) (pn_up σ v0 7 s1) r9 h9) (by decide) qt_37 qk_37 rfl rfl (Nat.le_of_ble_eq_true rfl)) rfl (fun σ4 => ?_)
    refine pn_aload_n dX10_passNight_53 rfl rfl rfl ?_
    refine pn_geta dX10_passNight_54 rfl lf_X10_63_9 qt_0 qk_0 qr_0_9 qt_37 ?_
    refine pn_aload_n dX10_passNight_57 rfl rfl rfl ?_
    refine pn_cp (fun r9 h9 => pn_LKV dX10_passNight_58 lm_X10_247 (ct_X8_beginners Γ v0 hv0 σ4 r9 h9) (by decide) hv0.1.1 hv0.1.2 rfl rfl (Nat.le_of_ble_eq_true rfl)) rfl (fun x5 => ?_)
    refine pn_iconst dX10_passNight_61 rfl ic_0 ?_
    refine pn_cv (fun r9 h9 => pn_LKV dX10_passNight_62 lm_X10_352 (ct_X0_gather Γ x5 (0 : Int32) σ4 r9 h9) (by decide) qt_37 qk_37 rfl rfl (Nat.le_of_ble_eq_true rfl)) rfl (fun σ6 => ?_)
    refine pn_aload_n dX10_passNight_65 rfl rfl rfl ?_
    refine pn_geta dX10_passNight_66 rfl lf_X10_63_9 qt_0 qk_0 qr_0_9 qt_37 ?_
    refine pn_geti dX10_passNight_69 rfl lf_X10_256_0 qt_37 qk_37 qr_37_5 ?_
    refine pn_istore (ls' := [.ref 0, .ref v0, .int l2, .int ((pn_up σ v0 7 s1) v0 4), .int (σ6 37 5), .null]) dX10_passNight_72 rfl (Nat.le_of_ble_eq_true rfl) rfl ?_
    refine pn_aload_n dX10_passNight_74 rfl rfl rfl ?_
    refine pn_aload_n dX10_passNight_75 rfl rfl rfl ?_
    refine pn_iload_n dX10_passNight_76 rfl rfl rfl ?_
    refine pn_ci (fun r9 h9 => pn_LKV dX10_passNight_77 lm_X10_380 (ct_X10_endOfNoise Γ v0 hv0 l2 σ6 r9 h9) (by decide) qt_0 qk_0 rfl rfl (Nat.le_of_ble_eq_true rfl)) rfl (fun x7 σ7 => ?_)
    refine pn_istore (ls' := [.ref 0, .ref v0, .int l2, .int ((pn_up σ v0 7 s1) v0 4), .int (σ6 37 5), .int x7]) dX10_passNight_80 rfl (Nat.le_of_ble_eq_true rfl) rfl ?_
    refine pn_aload_n dX10_passNight_82 rfl rfl rfl ?_
    refine pn_iload_n dX10_passNight_83 rfl rfl rfl ?_
    refine pn_iload dX10_passNight_84 rfl rfl ?_
    refine pn_iload dX10_passNight_86 rfl rfl ?_
    refine pn_cv (fun r9 h9 => pn_LKV dX10_passNight_88 lm_X10_383 (ct_X8_addRow Γ v0 hv0 ((pn_up σ v0 7 s1) v0 4) (σ6 37 5) x7 σ7 r9 h9) (by decide) hv0.1.1 hv0.1.2 rfl rfl (Nat.le_of_ble_eq_true rfl)) rfl (fun σ8 => ?_)
    refine pn_aload_n dX10_passNight_91 rfl rfl rfl ?_
    refine pn_cv (fun r9 h9 => pn_LKV dX10_passNight_92 lm_X10_386 (ct_X8_bear Γ v0 hv0 σ8 r9 h9) (by decide) hv0.1.1 hv0.1.2 rfl rfl (Nat.le_of_ble_eq_true rfl)) rfl (fun σ9 => ?_)
    exact pn_wk (pn_leN (pn_leC rfl (pn_leN (pn_leN (pn_leC rfl (pn_leN pn_le0)))))) (wX10_passNight_95 Γ v0 hv0 (σ6 37 5) σ9)

set_option maxRecDepth 20000 in
set_option maxHeartbeats 4000000 in
theorem wX10_passNight_23 (Γ : pn_G) (v0 : Nat) (hv0 : pn_isV v0) (l2 : Int32) (σ : pn_S) : pn_W9 Γ 5 mX10_passNight pn_i 23 [.ref 0, .ref v0, .int l2, .null, .null, .null] [.ref v0] σ (fX10_passNight_23 v0 l2 σ) := by
  rw [fX10_passNight_23]
  refine pn_iconst dX10_passNight_23 rfl ic_0 ?_
  exact wX10_passNight_24 Γ v0 hv0 l2 (0 : Int32) σ

set_option maxRecDepth 20000 in
set_option maxHeartbeats 4000000 in
theorem ct_X10_passNight (Γ : pn_G) (v0 : Nat) (hv0 : pn_isV v0) (a2 : Int32) (σ : pn_S) : ∀ r, fX10_passNight v0 a2 σ = some r → pn_C Γ 5 mX10_passNight [.ref 0, .ref v0, .int a2] σ (pn_i r) := by
  refine pn_of (ls := [.ref 0, .ref v0, .int a2, .null, .null, .null]) (by decide) rfl (pn_cat rfl) rfl (Nat.le_of_ble_eq_true rfl) ?_
  rw [fX10_passNight]
  refine pn_aload_n dX10_passNight_0 rfl rfl rfl ?_
  refine pn_iload_n dX10_passNight_1 rfl rfl rfl ?_
  refine pn_if_eq (tgt := 23) dX10_passNight_2 rfl rfl (fun c1 => ?_) (fun c1 => ?_)
  · exact wX10_passNight_23 Γ v0 hv0 a2 σ
  · refine pn_aload_n dX10_passNight_5 rfl rfl rfl ?_
    refine pn_ci (fun r9 h9 => pn_LKV dX10_passNight_6 lm_X10_377 (ct_X8_draw Γ v0 hv0 σ r9 h9) (by decide) hv0.1.1 hv0.1.2 rfl rfl (Nat.le_of_ble_eq_true rfl)) rfl (fun x10 σ10 => ?_)
    refine pn_bipush dX10_passNight_9 rfl bc_100 ?_
    refine pn_iremc dX10_passNight_11 rfl (by decide) ?_
    refine pn_aload_n dX10_passNight_12 rfl rfl rfl ?_
    refine pn_geti dX10_passNight_13 rfl lf_X10_336_7 hv0.1.1 hv0.1.2 (pn_RVi hv0.1.2 (by decide)) ?_
    refine pn_icmp_ge (tgt := 23) dX10_passNight_16 rfl rfl (fun c11 => ?_) (fun c11 => ?_)
    · exact wX10_passNight_23 Γ v0 hv0 a2 σ10
    · refine pn_iconst dX10_passNight_19 rfl ic_1 ?_
      refine pn_goto (pc' := 24) dX10_passNight_20 rfl ?_
      exact wX10_passNight_24 Γ v0 hv0 a2 (1 : Int32) σ10

set_option maxRecDepth 20000 in
set_option maxHeartbeats 4000000 in
theorem wX10_nights_22 (Γ : pn_G)  : ∀ (n9 : Nat) (l1 : Int32) (l2 : Int32) (l3 : Int32) (σ : pn_S), pn_W9 Γ 6 mX10_nights pn_xi 22 [.ref 0, .int l1, .int l2, .int l3] [] σ (fX10_nights_22 n9 l1 l2 l3 σ) := by
  intro n9
  induction n9 with
  | zero => intro l1 l2 l3 σ; exact pn_none
  | succ n9 ih =>
    intro l1 l2 l3 σ
    rw [fX10_nights_22]
    refine pn_iload_n dX10_nights_22 rfl rfl rfl ?_
    refine pn_iload_n dX10_nights_23 rfl rfl rfl ?_
    refine pn_icmp_ge (tgt := 45) dX10_nights_24 rfl rfl (fun c3 => ?_) (fun c3 => ?_)
    · refine pn_iload_n dX10_nights_45 rfl rfl rfl ?_
      exact pn_iretv dX10_nights_46 rfl rfl rfl
    · refine pn_iload_n dX10_nights_27 rfl rfl rfl ?_
      refine pn_aload_n dX10_nights_28 rfl rfl rfl ?_
      refine pn_aload_n dX10_nights_29 rfl rfl rfl ?_
      refine pn_geta dX10_nights_30 rfl lf_X10_19_9 qt_0 qk_0 qr_0_1 qt_5 ?_
      refine pn_iconst dX10_nights_33 rfl ic_1 ?_
      refine pn_ci (fun r9 h9 => pn_LKV dX10_nights_34 lm_X10_208 (ct_X10_passNight Γ 5 qv_5 (1 : Int32) σ r9 h9) (by decide) qt_0 qk_0 rfl rfl (Nat.le_of_ble_eq_true rfl)) rfl (fun x4 σ4 => ?_)
      refine pn_iadd dX10_nights_37 rfl ?_
      refine pn_istore_n (ls' := [.ref 0, .int l1, .int (l2 + x4), .int l3]) dX10_nights_38 rfl rfl (Nat.le_of_ble_eq_true rfl) rfl ?_
      refine pn_iinc (ls' := [.ref 0, .int l1, .int (l2 + x4), .int (l3 + (1 : Int32))]) dX10_nights_39 rfl (Nat.le_of_ble_eq_true rfl) rfl (congrArg (fun z => l3 + z) ic_1) rfl ?_
      refine pn_goto (pc' := 22) dX10_nights_42 rfl ?_
      exact ih l1 (l2 + x4) (l3 + (1 : Int32)) σ4

set_option maxRecDepth 20000 in
set_option maxHeartbeats 4000000 in
theorem ct_X10_nights (Γ : pn_G) (a1 : Int32) (σ : pn_S) : ∀ r, fX10_nights a1 σ = some r → pn_C Γ 6 mX10_nights [.ref 0, .int a1] σ (pn_xi r) := by
  refine pn_of (ls := [.ref 0, .int a1, .null, .null]) (by decide) rfl (pn_cat rfl) rfl (Nat.le_of_ble_eq_true rfl) ?_
  rw [fX10_nights]
  refine pn_iload_n dX10_nights_0 rfl rfl rfl ?_
  refine pn_iconst dX10_nights_1 rfl ic_1 ?_
  refine pn_bipush dX10_nights_2 rfl bc_60 ?_
  refine pn_cxv (fun _ _ => rfl) rfl (fun r9 h9 => pn_LKS dX10_nights_4 lm_X10_199 (ct_X10_checkNumber Γ a1 (1 : Int32) (60 : Int32) σ r9 h9) (by decide) rfl rfl (Nat.le_of_ble_eq_true rfl)) rfl (fun σ1 => ?_)
  refine pn_aload_n dX10_nights_7 rfl rfl rfl ?_
  refine pn_geta dX10_nights_8 rfl lf_X10_70_9 qt_0 qk_0 qr_0_10 qt_41 ?_
  refine pn_aload_n dX10_nights_11 rfl rfl rfl ?_
  refine pn_geta dX10_nights_12 rfl lf_X10_19_9 qt_0 qk_0 qr_0_1 qt_5 ?_
  refine pn_cv (fun r9 h9 => pn_LKV dX10_nights_15 lm_X10_176 (ct_X5_remember Γ 5 qv_5 σ1 r9 h9) (by decide) qt_41 qk_41 rfl rfl (Nat.le_of_ble_eq_true rfl)) rfl (fun σ2 => ?_)
  refine pn_iconst dX10_nights_18 rfl ic_0 ?_
  refine pn_istore_n (ls' := [.ref 0, .int a1, .int (0 : Int32), .null]) dX10_nights_19 rfl rfl (Nat.le_of_ble_eq_true rfl) rfl ?_
  refine pn_iconst dX10_nights_20 rfl ic_0 ?_
  refine pn_istore_n (ls' := [.ref 0, .int a1, .int (0 : Int32), .int (0 : Int32)]) dX10_nights_21 rfl rfl (Nat.le_of_ble_eq_true rfl) rfl ?_
  exact wX10_nights_22 Γ 5000 a1 (0 : Int32) (0 : Int32) σ2

set_option maxRecDepth 20000 in
set_option maxHeartbeats 4000000 in
theorem ct_X10_comes (Γ : pn_G) (a1 : Int32) (σ : pn_S) : ∀ r, fX10_comes a1 σ = some r → pn_C Γ 6 mX10_comes [.ref 0, .int a1] σ (pn_xi r) := by
  refine pn_of (ls := [.ref 0, .int a1]) (by decide) rfl (pn_cat rfl) rfl (Nat.le_of_ble_eq_true rfl) ?_
  rw [fX10_comes]
  refine pn_aload_n dX10_comes_0 rfl rfl rfl ?_
  refine pn_iload_n dX10_comes_1 rfl rfl rfl ?_
  refine pn_cxv (fun _ _ => rfl) rfl (fun r9 h9 => pn_LKV dX10_comes_2 lm_X10_149 (ct_X10_checkPerson Γ a1 σ r9 h9) (by decide) qt_0 qk_0 rfl rfl (Nat.le_of_ble_eq_true rfl)) rfl (fun σ1 => ?_)
  refine pn_aload_n dX10_comes_5 rfl rfl rfl ?_
  refine pn_iload_n dX10_comes_6 rfl rfl rfl ?_
  refine pn_cv (fun r9 h9 => pn_LKV dX10_comes_7 lm_X10_189 (ct_X10_summonTo Γ a1 σ1 r9 h9) (by decide) qt_0 qk_0 rfl rfl (Nat.le_of_ble_eq_true rfl)) rfl (fun σ2 => ?_)
  refine pn_aload_n dX10_comes_10 rfl rfl rfl ?_
  refine pn_geta dX10_comes_11 rfl lf_X10_63_9 qt_0 qk_0 qr_0_9 qt_37 ?_
  refine pn_geti dX10_comes_14 rfl lf_X10_212_0 qt_37 qk_37 qr_37_4 ?_
  exact pn_iretv dX10_comes_17 rfl rfl rfl

set_option maxRecDepth 20000 in
set_option maxHeartbeats 4000000 in
theorem ct_X10_rounds (Γ : pn_G) (a1 : Int32) (σ : pn_S) : ∀ r, fX10_rounds a1 σ = some r → pn_C Γ 6 mX10_rounds [.ref 0, .int a1] σ (pn_xi r) := by
  refine pn_of (ls := [.ref 0, .int a1]) (by decide) rfl (pn_cat rfl) rfl (Nat.le_of_ble_eq_true rfl) ?_
  rw [fX10_rounds]
  refine pn_aload_n dX10_rounds_0 rfl rfl rfl ?_
  refine pn_iload_n dX10_rounds_1 rfl rfl rfl ?_
  refine pn_cxv (fun _ _ => rfl) rfl (fun r9 h9 => pn_LKV dX10_rounds_2 lm_X10_149 (ct_X10_checkPerson Γ a1 σ r9 h9) (by decide) qt_0 qk_0 rfl rfl (Nat.le_of_ble_eq_true rfl)) rfl (fun σ1 => ?_)
  refine pn_aload_n dX10_rounds_5 rfl rfl rfl ?_
  refine pn_iload_n dX10_rounds_6 rfl rfl rfl ?_
  refine pn_cv (fun r9 h9 => pn_LKV dX10_rounds_7 lm_X10_189 (ct_X10_summonTo Γ a1 σ1 r9 h9) (by decide) qt_0 qk_0 rfl rfl (Nat.le_of_ble_eq_true rfl)) rfl (fun σ2 => ?_)
  refine pn_aload_n dX10_rounds_10 rfl rfl rfl ?_
  refine pn_geta dX10_rounds_11 rfl lf_X10_63_9 qt_0 qk_0 qr_0_9 qt_37 ?_
  refine pn_geti dX10_rounds_14 rfl lf_X10_215_0 qt_37 qk_37 qr_37_7 ?_
  exact pn_iretv dX10_rounds_17 rfl rfl rfl

set_option maxRecDepth 20000 in
set_option maxHeartbeats 4000000 in
theorem ct_X0_roundOf (Γ : pn_G) (a1 : Int32) (σ : pn_S) : ∀ r, fX0_roundOf a1 σ = some r → pn_C Γ 1 mX0_roundOf [.ref 37, .int a1] σ ((pn_p σ) r) := by
  refine pn_of (ls := [.ref 37, .int a1]) (by decide) rfl (pn_cat rfl) rfl (Nat.le_of_ble_eq_true rfl) ?_
  rw [fX0_roundOf]
  refine pn_iload_n dX0_roundOf_0 rfl rfl rfl ?_
  refine pn_if_lt (tgt := 19) dX0_roundOf_1 rfl rfl (fun c1 => ?_) (fun c1 => ?_)
  · refine pn_iconst dX0_roundOf_19 rfl ic_m1 ?_
    exact pn_iretv dX0_roundOf_20 rfl rfl rfl
  · refine pn_iload_n dX0_roundOf_4 rfl rfl rfl ?_
    refine pn_bipush dX0_roundOf_5 rfl bc_8 ?_
    refine pn_icmp_ge (tgt := 19) dX0_roundOf_7 rfl rfl (fun c2 => ?_) (fun c2 => ?_)
    · refine pn_iconst dX0_roundOf_19 rfl ic_m1 ?_
      exact pn_iretv dX0_roundOf_20 rfl rfl rfl
    · refine pn_aload_n dX0_roundOf_10 rfl rfl rfl ?_
      refine pn_geta dX0_roundOf_11 rfl lf_X0_18_0 qt_37 qk_37 qr_37_2 qt_40 ?_
      refine pn_iload_n dX0_roundOf_14 rfl rfl rfl ?_
      refine pn_iald dX0_roundOf_15 rfl qt_40 qk_40 ql_40 ?_
      refine pn_goto (pc' := 20) dX0_roundOf_16 rfl ?_
      exact pn_iretv dX0_roundOf_20 rfl rfl rfl

set_option maxRecDepth 20000 in
set_option maxHeartbeats 4000000 in
theorem ct_X10_when (Γ : pn_G) (a1 : Int32) (a2 : Int32) (σ : pn_S) : ∀ r, fX10_when a1 a2 σ = some r → pn_C Γ 6 mX10_when [.ref 0, .int a1, .int a2] σ (pn_xi r) := by
  refine pn_of (ls := [.ref 0, .int a1, .int a2]) (by decide) rfl (pn_cat rfl) rfl (Nat.le_of_ble_eq_true rfl) ?_
  rw [fX10_when]
  refine pn_aload_n dX10_when_0 rfl rfl rfl ?_
  refine pn_iload_n dX10_when_1 rfl rfl rfl ?_
  refine pn_iload_n dX10_when_2 rfl rfl rfl ?_
  refine pn_cxv (fun _ _ => rfl) rfl (fun r9 h9 => pn_LKV dX10_when_3 lm_X10_159 (ct_X10_checkTwo Γ a1 a2 σ r9 h9) (by decide) qt_0 qk_0 rfl rfl (Nat.le_of_ble_eq_true rfl)) rfl (fun σ1 => ?_)
  refine pn_aload_n dX10_when_6 rfl rfl rfl ?_
  refine pn_iload_n dX10_when_7 rfl rfl rfl ?_
  refine pn_cv (fun r9 h9 => pn_LKV dX10_when_8 lm_X10_189 (ct_X10_summonTo Γ a2 σ1 r9 h9) (by decide) qt_0 qk_0 rfl rfl (Nat.le_of_ble_eq_true rfl)) rfl (fun σ2 => ?_)
  refine pn_aload_n dX10_when_11 rfl rfl rfl ?_
  refine pn_geta dX10_when_12 rfl lf_X10_63_9 qt_0 qk_0 qr_0_9 qt_37 ?_
  refine pn_iload_n dX10_when_15 rfl rfl rfl ?_
  refine pn_cp (fun r9 h9 => pn_LKV dX10_when_16 lm_X10_218 (ct_X0_roundOf Γ a1 σ2 r9 h9) (by decide) qt_37 qk_37 rfl rfl (Nat.le_of_ble_eq_true rfl)) rfl (fun x3 => ?_)
  exact pn_iretv dX10_when_19 rfl rfl rfl

set_option maxRecDepth 20000 in
set_option maxHeartbeats 4000000 in
theorem ct_X10_loud (Γ : pn_G) (a1 : Int32) (σ : pn_S) : ∀ r, fX10_loud a1 σ = some r → pn_C Γ 6 mX10_loud [.ref 0, .int a1] σ (pn_xi r) := by
  refine pn_of (ls := [.ref 0, .int a1]) (by decide) rfl (pn_cat rfl) rfl (Nat.le_of_ble_eq_true rfl) ?_
  rw [fX10_loud]
  refine pn_aload_n dX10_loud_0 rfl rfl rfl ?_
  refine pn_iload_n dX10_loud_1 rfl rfl rfl ?_
  refine pn_cxv (fun _ _ => rfl) rfl (fun r9 h9 => pn_LKV dX10_loud_2 lm_X10_149 (ct_X10_checkPerson Γ a1 σ r9 h9) (by decide) qt_0 qk_0 rfl rfl (Nat.le_of_ble_eq_true rfl)) rfl (fun σ1 => ?_)
  refine pn_aload_n dX10_loud_5 rfl rfl rfl ?_
  refine pn_iload_n dX10_loud_6 rfl rfl rfl ?_
  refine pn_cv (fun r9 h9 => pn_LKV dX10_loud_7 lm_X10_189 (ct_X10_summonTo Γ a1 σ1 r9 h9) (by decide) qt_0 qk_0 rfl rfl (Nat.le_of_ble_eq_true rfl)) rfl (fun σ2 => ?_)
  refine pn_aload_n dX10_loud_10 rfl rfl rfl ?_
  refine pn_geta dX10_loud_11 rfl lf_X10_63_9 qt_0 qk_0 qr_0_9 qt_37 ?_
  refine pn_geti dX10_loud_14 rfl lf_X10_222_0 qt_37 qk_37 qr_37_6 ?_
  exact pn_iretv dX10_loud_17 rfl rfl rfl

set_option maxRecDepth 20000 in
set_option maxHeartbeats 4000000 in
theorem ct_X10_isPart (Γ : pn_G) (a0 : Int32) (a1 : Int32) (σ : pn_S) : ∀ r, fX10_isPart a0 a1 σ = some r → pn_C Γ 1 mX10_isPart [.int a0, .int a1] σ ((pn_p σ) r) := by
  refine pn_of (ls := [.int a0, .int a1]) (by decide) rfl (pn_cat rfl) rfl (Nat.le_of_ble_eq_true rfl) ?_
  rw [fX10_isPart]
  refine pn_iload_n dX10_isPart_0 rfl rfl rfl ?_
  refine pn_iload_n dX10_isPart_1 rfl rfl rfl ?_
  refine pn_iconst dX10_isPart_2 rfl ic_m1 ?_
  refine pn_ixor dX10_isPart_3 rfl ?_
  refine pn_iand dX10_isPart_4 rfl ?_
  refine pn_if_ne (tgt := 12) dX10_isPart_5 rfl rfl (fun c1 => ?_) (fun c1 => ?_)
  · refine pn_iconst dX10_isPart_8 rfl ic_1 ?_
    refine pn_goto (pc' := 13) dX10_isPart_9 rfl ?_
    exact pn_iretv dX10_isPart_13 rfl rfl rfl
  · refine pn_iconst dX10_isPart_12 rfl ic_0 ?_
    exact pn_iretv dX10_isPart_13 rfl rfl rfl

set_option maxRecDepth 20000 in
set_option maxHeartbeats 4000000 in
theorem ct_X10_sizeBy (Γ : pn_G) (a1 : Int32) (a2 : Int32) (σ : pn_S) : ∀ r, fX10_sizeBy a1 a2 σ = some r → pn_C Γ 4 mX10_sizeBy [.ref 0, .int a1, .int a2] σ (pn_i r) := by
  refine pn_of (ls := [.ref 0, .int a1, .int a2]) (by decide) rfl (pn_cat rfl) rfl (Nat.le_of_ble_eq_true rfl) ?_
  rw [fX10_sizeBy]
  refine pn_aload_n dX10_sizeBy_0 rfl rfl rfl ?_
  refine pn_geta dX10_sizeBy_1 rfl lf_X10_63_9 qt_0 qk_0 qr_0_9 qt_37 ?_
  refine pn_iload_n dX10_sizeBy_4 rfl rfl rfl ?_
  refine pn_iload_n dX10_sizeBy_5 rfl rfl rfl ?_
  refine pn_cv (fun r9 h9 => pn_LKV dX10_sizeBy_6 lm_X10_352 (ct_X0_gather Γ a1 a2 σ r9 h9) (by decide) qt_37 qk_37 rfl rfl (Nat.le_of_ble_eq_true rfl)) rfl (fun σ1 => ?_)
  refine pn_aload_n dX10_sizeBy_9 rfl rfl rfl ?_
  refine pn_geta dX10_sizeBy_10 rfl lf_X10_63_9 qt_0 qk_0 qr_0_9 qt_37 ?_
  refine pn_geti dX10_sizeBy_13 rfl lf_X10_256_0 qt_37 qk_37 qr_37_5 ?_
  exact pn_iretv dX10_sizeBy_16 rfl rfl rfl

set_option maxRecDepth 20000 in
set_option maxHeartbeats 4000000 in
theorem wX10_fewest_46 (Γ : pn_G)  : ∀ (n9 : Nat) (l2 : Int32) (l3 : Int32) (l4 : Int32) (l5 : Int32) (l6 : Int32) (σ : pn_S), pn_W9 Γ 5 mX10_fewest pn_xi 46 [.ref 0, .null, .int l2, .int l3, .int l4, .int l5, .int l6] [] σ (fX10_fewest_46 n9 l2 l3 l4 l5 l6 σ) := by
  intro n9
  induction n9 with
  | zero => intro l2 l3 l4 l5 l6 σ; exact pn_none
  | succ n9 ih =>
    intro l2 l3 l4 l5 l6 σ
    rw [fX10_fewest_46]
    refine pn_iload dX10_fewest_46 rfl rfl ?_
    refine pn_iload_n dX10_fewest_48 rfl rfl rfl ?_
    refine pn_icmp_gt (tgt := 99) dX10_fewest_49 rfl rfl (fun c4 => ?_) (fun c4 => ?_)
    · refine pn_iload dX10_fewest_99 rfl rfl ?_
      exact pn_iretv dX10_fewest_101 rfl rfl rfl
    · refine pn_iload dX10_fewest_52 rfl rfl ?_
      refine pn_iload_n dX10_fewest_54 rfl rfl rfl ?_
      refine pn_cp (fun r9 h9 => pn_LKS dX10_fewest_55 lm_X10_232 (ct_X10_isPart Γ l6 l3 σ r9 h9) (by decide) rfl rfl (Nat.le_of_ble_eq_true rfl)) rfl (fun x5 => ?_)
      refine pn_if_eq (tgt := 93) dX10_fewest_58 rfl rfl (fun c6 => ?_) (fun c6 => ?_)
      · refine pn_iinc (ls' := [.ref 0, .null, .int l2, .int l3, .int l4, .int l5, .int (l6 + (1 : Int32))]) dX10_fewest_93 rfl (Nat.le_of_ble_eq_true rfl) rfl (congrArg (fun z => l6 + z) ic_1) rfl ?_
        refine pn_goto (pc' := 46) dX10_fewest_96 rfl ?_
        exact ih l2 l3 l4 l5 (l6 + (1 : Int32)) σ
      · refine pn_iload dX10_fewest_61 rfl rfl ?_
        refine pn_cp (fun r9 h9 => pn_LKS dX10_fewest_63 lm_X10_236 (ct_J6_bitCount_0f7a4 Γ l6 σ r9 h9) (by decide) rfl rfl (Nat.le_of_ble_eq_true rfl)) rfl (fun x7 => ?_)
        refine pn_iload dX10_fewest_66 rfl rfl ?_
        refine pn_icmp_ge (tgt := 93) dX10_fewest_68 rfl rfl (fun c8 => ?_) (fun c8 => ?_)
        · refine pn_iinc (ls' := [.ref 0, .null, .int l2, .int l3, .int l4, .int l5, .int (l6 + (1 : Int32))]) dX10_fewest_93 rfl (Nat.le_of_ble_eq_true rfl) rfl (congrArg (fun z => l6 + z) ic_1) rfl ?_
          refine pn_goto (pc' := 46) dX10_fewest_96 rfl ?_
          exact ih l2 l3 l4 l5 (l6 + (1 : Int32)) σ
        · refine pn_aload_n dX10_fewest_71 rfl rfl rfl ?_
          refine pn_iload dX10_fewest_72 rfl rfl ?_
          refine pn_iconst dX10_fewest_74 rfl ic_0 ?_
          refine pn_ci (fun r9 h9 => pn_LKV dX10_fewest_75 lm_X10_241 (ct_X10_sizeBy Γ l6 (0 : Int32) σ r9 h9) (by decide) qt_0 qk_0 rfl rfl (Nat.le_of_ble_eq_true rfl)) rfl (fun x9 σ9 => ?_)
          refine pn_iload_n dX10_fewest_78 rfl rfl rfl ?_
          refine pn_icmp_lt (tgt := 93) dX10_fewest_79 rfl rfl (fun c10 => ?_) (fun c10 => ?_)
          · refine pn_iinc (ls' := [.ref 0, .null, .int l2, .int l3, .int l4, .int l5, .int (l6 + (1 : Int32))]) dX10_fewest_93 rfl (Nat.le_of_ble_eq_true rfl) rfl (congrArg (fun z => l6 + z) ic_1) rfl ?_
            refine pn_goto (pc' := 46) dX10_fewest_96 rfl ?_
            exact ih l2 l3 l4 l5 (l6 + (1 : Int32)) σ9
          · refine pn_iload dX10_fewest_82 rfl rfl ?_
            refine pn_istore (ls' := [.ref 0, .null, .int l2, .int l3, .int l6, .int l5, .int l6]) dX10_fewest_84 rfl (Nat.le_of_ble_eq_true rfl) rfl ?_
            refine pn_iload dX10_fewest_86 rfl rfl ?_
            refine pn_cp (fun r9 h9 => pn_LKS dX10_fewest_88 lm_X10_236 (ct_J6_bitCount_0f7a4 Γ l6 σ9 r9 h9) (by decide) rfl rfl (Nat.le_of_ble_eq_true rfl)) rfl (fun x11 => ?_)
            refine pn_istore (ls' := [.ref 0, .null, .int l2, .int l3, .int l6, .int x11, .int l6]) dX10_fewest_91 rfl (Nat.le_of_ble_eq_true rfl) rfl ?_
            refine pn_iinc (ls' := [.ref 0, .null, .int l2, .int l3, .int l6, .int x11, .int (l6 + (1 : Int32))]) dX10_fewest_93 rfl (Nat.le_of_ble_eq_true rfl) rfl (congrArg (fun z => l6 + z) ic_1) rfl ?_
            refine pn_goto (pc' := 46) dX10_fewest_96 rfl ?_
            exact ih l2 l3 l6 x11 (l6 + (1 : Int32)) σ9

set_option maxRecDepth 20000 in
set_option maxHeartbeats 4000000 in
theorem ct_X10_fewest (Γ : pn_G) (a1 : Int32) (a2 : Int32) (σ : pn_S) : ∀ r, fX10_fewest a1 a2 σ = some r → pn_C Γ 5 mX10_fewest [.ref 0, .int a1, .int a2] σ (pn_xi r) := by
  refine pn_of (ls := [.ref 0, .int a1, .int a2, .null, .null, .null, .null]) (by decide) rfl (pn_cat rfl) rfl (Nat.le_of_ble_eq_true rfl) ?_
  rw [fX10_fewest]
  refine pn_aload_n dX10_fewest_0 rfl rfl rfl ?_
  refine pn_iload_n dX10_fewest_1 rfl rfl rfl ?_
  refine pn_cxv (fun _ _ => rfl) rfl (fun r9 h9 => pn_LKV dX10_fewest_2 lm_X10_149 (ct_X10_checkPerson Γ a1 σ r9 h9) (by decide) qt_0 qk_0 rfl rfl (Nat.le_of_ble_eq_true rfl)) rfl (fun σ1 => ?_)
  refine pn_iload_n dX10_fewest_5 rfl rfl rfl ?_
  refine pn_iconst dX10_fewest_6 rfl ic_0 ?_
  refine pn_bipush dX10_fewest_7 rfl bc_8 ?_
  refine pn_cxv (fun _ _ => rfl) rfl (fun r9 h9 => pn_LKS dX10_fewest_9 lm_X10_199 (ct_X10_checkNumber Γ a2 (0 : Int32) (8 : Int32) σ1 r9 h9) (by decide) rfl rfl (Nat.le_of_ble_eq_true rfl)) rfl (fun σ2 => ?_)
  refine pn_aload_n dX10_fewest_12 rfl rfl rfl ?_
  refine pn_geta dX10_fewest_13 rfl lf_X10_63_9 qt_0 qk_0 qr_0_9 qt_37 ?_
  refine pn_aload_n dX10_fewest_16 rfl rfl rfl ?_
  refine pn_geta dX10_fewest_17 rfl lf_X10_19_9 qt_0 qk_0 qr_0_1 qt_5 ?_
  refine pn_aload_n dX10_fewest_20 rfl rfl rfl ?_
  refine pn_geta dX10_fewest_21 rfl lf_X10_32_9 qt_0 qk_0 qr_0_4 qt_14 ?_
  refine pn_iload_n dX10_fewest_24 rfl rfl rfl ?_
  refine pn_cv (fun r9 h9 => pn_LKV dX10_fewest_25 lm_X10_225 (ct_X0_invite Γ 5 qv_5 14 qw_14 a1 σ2 r9 h9) (by decide) qt_37 qk_37 rfl rfl (Nat.le_of_ble_eq_true rfl)) rfl (fun σ3 => ?_)
  refine pn_aload_n dX10_fewest_28 rfl rfl rfl ?_
  refine pn_geta dX10_fewest_29 rfl lf_X10_63_9 qt_0 qk_0 qr_0_9 qt_37 ?_
  refine pn_geti dX10_fewest_32 rfl lf_X10_229_0 qt_37 qk_37 qr_37_3 ?_
  refine pn_istore_n (ls' := [.ref 0, .int a1, .int a2, .int (σ3 37 3), .null, .null, .null]) dX10_fewest_35 rfl rfl (Nat.le_of_ble_eq_true rfl) rfl ?_
  refine pn_iconst dX10_fewest_36 rfl ic_m1 ?_
  refine pn_istore (ls' := [.ref 0, .int a1, .int a2, .int (σ3 37 3), .int (-1 : Int32), .null, .null]) dX10_fewest_37 rfl (Nat.le_of_ble_eq_true rfl) rfl ?_
  refine pn_bipush dX10_fewest_39 rfl bc_9 ?_
  refine pn_istore (ls' := [.ref 0, .int a1, .int a2, .int (σ3 37 3), .int (-1 : Int32), .int (9 : Int32), .null]) dX10_fewest_41 rfl (Nat.le_of_ble_eq_true rfl) rfl ?_
  refine pn_iconst dX10_fewest_43 rfl ic_0 ?_
  refine pn_istore (ls' := [.ref 0, .int a1, .int a2, .int (σ3 37 3), .int (-1 : Int32), .int (9 : Int32), .int (0 : Int32)]) dX10_fewest_44 rfl (Nat.le_of_ble_eq_true rfl) rfl ?_
  exact pn_wk (pn_leC rfl (pn_leN (pn_leC rfl (pn_leC rfl (pn_leC rfl (pn_leC rfl (pn_leC rfl pn_le0))))))) (wX10_fewest_46 Γ 5000 a2 (σ3 37 3) (-1 : Int32) (9 : Int32) (0 : Int32) σ3)

set_option maxRecDepth 20000 in
set_option maxHeartbeats 4000000 in
theorem ct_X10_isCalmWithout (Γ : pn_G) (a1 : Int32) (a2 : Int32) (σ : pn_S) : ∀ r, fX10_isCalmWithout a1 a2 σ = some r → pn_C Γ 4 mX10_isCalmWithout [.ref 0, .int a1, .int a2] σ (pn_i r) := by
  refine pn_of (ls := [.ref 0, .int a1, .int a2]) (by decide) rfl (pn_cat rfl) rfl (Nat.le_of_ble_eq_true rfl) ?_
  rw [fX10_isCalmWithout]
  refine pn_aload_n dX10_isCalmWithout_0 rfl rfl rfl ?_
  refine pn_geta dX10_isCalmWithout_1 rfl lf_X10_63_9 qt_0 qk_0 qr_0_9 qt_37 ?_
  refine pn_aload_n dX10_isCalmWithout_4 rfl rfl rfl ?_
  refine pn_geta dX10_isCalmWithout_5 rfl lf_X10_19_9 qt_0 qk_0 qr_0_1 qt_5 ?_
  refine pn_cp (fun r9 h9 => pn_LKV dX10_isCalmWithout_8 lm_X10_247 (ct_X8_beginners Γ 5 qv_5 σ r9 h9) (by decide) qt_5 qk_5 rfl rfl (Nat.le_of_ble_eq_true rfl)) rfl (fun x1 => ?_)
  refine pn_iload_n dX10_isCalmWithout_11 rfl rfl rfl ?_
  refine pn_cv (fun r9 h9 => pn_LKV dX10_isCalmWithout_12 lm_X10_352 (ct_X0_gather Γ x1 a1 σ r9 h9) (by decide) qt_37 qk_37 rfl rfl (Nat.le_of_ble_eq_true rfl)) rfl (fun σ2 => ?_)
  refine pn_aload_n dX10_isCalmWithout_15 rfl rfl rfl ?_
  refine pn_geta dX10_isCalmWithout_16 rfl lf_X10_63_9 qt_0 qk_0 qr_0_9 qt_37 ?_
  refine pn_geti dX10_isCalmWithout_19 rfl lf_X10_222_0 qt_37 qk_37 qr_37_6 ?_
  refine pn_aload_n dX10_isCalmWithout_22 rfl rfl rfl ?_
  refine pn_geta dX10_isCalmWithout_23 rfl lf_X10_19_9 qt_0 qk_0 qr_0_1 qt_5 ?_
  refine pn_iload_n dX10_isCalmWithout_26 rfl rfl rfl ?_
  refine pn_iconst dX10_isCalmWithout_27 rfl ic_2 ?_
  refine pn_cp (fun r9 h9 => pn_LKV dX10_isCalmWithout_28 lm_X10_155 (ct_X8_of Γ 5 qv_5 a2 (2 : Int32) σ2 r9 h9) (by decide) qt_5 qk_5 rfl rfl (Nat.le_of_ble_eq_true rfl)) rfl (fun x3 => ?_)
  refine pn_icmp_ge (tgt := 38) dX10_isCalmWithout_31 rfl rfl (fun c4 => ?_) (fun c4 => ?_)
  · refine pn_iconst dX10_isCalmWithout_38 rfl ic_0 ?_
    exact pn_iretv dX10_isCalmWithout_39 rfl rfl rfl
  · refine pn_iconst dX10_isCalmWithout_34 rfl ic_1 ?_
    refine pn_goto (pc' := 39) dX10_isCalmWithout_35 rfl ?_
    exact pn_iretv dX10_isCalmWithout_39 rfl rfl rfl

set_option maxRecDepth 20000 in
set_option maxHeartbeats 4000000 in
theorem wX10_keep_27 (Γ : pn_G)  : ∀ (n9 : Nat) (l1 : Int32) (l2 : Int32) (l3 : Int32) (l4 : Int32) (l5 : Int32) (σ : pn_S), pn_W9 Γ 6 mX10_keep pn_xi 27 [.ref 0, .int l1, .int l2, .int l3, .int l4, .int l5] [] σ (fX10_keep_27 n9 l1 l2 l3 l4 l5 σ) := by
  intro n9
  induction n9 with
  | zero => intro l1 l2 l3 l4 l5 σ; exact pn_none
  | succ n9 ih =>
    intro l1 l2 l3 l4 l5 σ
    rw [fX10_keep_27]
    refine pn_iload dX10_keep_27 rfl rfl ?_
    refine pn_iload_n dX10_keep_29 rfl rfl rfl ?_
    refine pn_icmp_gt (tgt := 78) dX10_keep_30 rfl rfl (fun c3 => ?_) (fun c3 => ?_)
    · refine pn_iload_n dX10_keep_78 rfl rfl rfl ?_
      exact pn_iretv dX10_keep_79 rfl rfl rfl
    · refine pn_iload dX10_keep_33 rfl rfl ?_
      refine pn_iload_n dX10_keep_35 rfl rfl rfl ?_
      refine pn_cp (fun r9 h9 => pn_LKS dX10_keep_36 lm_X10_232 (ct_X10_isPart Γ l5 l2 σ r9 h9) (by decide) rfl rfl (Nat.le_of_ble_eq_true rfl)) rfl (fun x4 => ?_)
      refine pn_if_eq (tgt := 72) dX10_keep_39 rfl rfl (fun c5 => ?_) (fun c5 => ?_)
      · refine pn_iinc (ls' := [.ref 0, .int l1, .int l2, .int l3, .int l4, .int (l5 + (1 : Int32))]) dX10_keep_72 rfl (Nat.le_of_ble_eq_true rfl) rfl (congrArg (fun z => l5 + z) ic_1) rfl ?_
        refine pn_goto (pc' := 27) dX10_keep_75 rfl ?_
        exact ih l1 l2 l3 l4 (l5 + (1 : Int32)) σ
      · refine pn_iload dX10_keep_42 rfl rfl ?_
        refine pn_cp (fun r9 h9 => pn_LKS dX10_keep_44 lm_X10_236 (ct_J6_bitCount_0f7a4 Γ l5 σ r9 h9) (by decide) rfl rfl (Nat.le_of_ble_eq_true rfl)) rfl (fun x6 => ?_)
        refine pn_iload dX10_keep_47 rfl rfl ?_
        refine pn_icmp_ge (tgt := 72) dX10_keep_49 rfl rfl (fun c7 => ?_) (fun c7 => ?_)
        · refine pn_iinc (ls' := [.ref 0, .int l1, .int l2, .int l3, .int l4, .int (l5 + (1 : Int32))]) dX10_keep_72 rfl (Nat.le_of_ble_eq_true rfl) rfl (congrArg (fun z => l5 + z) ic_1) rfl ?_
          refine pn_goto (pc' := 27) dX10_keep_75 rfl ?_
          exact ih l1 l2 l3 l4 (l5 + (1 : Int32)) σ
        · refine pn_aload_n dX10_keep_52 rfl rfl rfl ?_
          refine pn_iload dX10_keep_53 rfl rfl ?_
          refine pn_iload_n dX10_keep_55 rfl rfl rfl ?_
          refine pn_ci (fun r9 h9 => pn_LKV dX10_keep_56 lm_X10_244 (ct_X10_isCalmWithout Γ l5 l1 σ r9 h9) (by decide) qt_0 qk_0 rfl rfl (Nat.le_of_ble_eq_true rfl)) rfl (fun x8 σ8 => ?_)
          refine pn_if_eq (tgt := 72) dX10_keep_59 rfl rfl (fun c9 => ?_) (fun c9 => ?_)
          · refine pn_iinc (ls' := [.ref 0, .int l1, .int l2, .int l3, .int l4, .int (l5 + (1 : Int32))]) dX10_keep_72 rfl (Nat.le_of_ble_eq_true rfl) rfl (congrArg (fun z => l5 + z) ic_1) rfl ?_
            refine pn_goto (pc' := 27) dX10_keep_75 rfl ?_
            exact ih l1 l2 l3 l4 (l5 + (1 : Int32)) σ8
          · refine pn_iload dX10_keep_62 rfl rfl ?_
            refine pn_istore_n (ls' := [.ref 0, .int l1, .int l2, .int l5, .int l4, .int l5]) dX10_keep_64 rfl rfl (Nat.le_of_ble_eq_true rfl) rfl ?_
            refine pn_iload dX10_keep_65 rfl rfl ?_
            refine pn_cp (fun r9 h9 => pn_LKS dX10_keep_67 lm_X10_236 (ct_J6_bitCount_0f7a4 Γ l5 σ8 r9 h9) (by decide) rfl rfl (Nat.le_of_ble_eq_true rfl)) rfl (fun x10 => ?_)
            refine pn_istore (ls' := [.ref 0, .int l1, .int l2, .int l5, .int x10, .int l5]) dX10_keep_70 rfl (Nat.le_of_ble_eq_true rfl) rfl ?_
            refine pn_iinc (ls' := [.ref 0, .int l1, .int l2, .int l5, .int x10, .int (l5 + (1 : Int32))]) dX10_keep_72 rfl (Nat.le_of_ble_eq_true rfl) rfl (congrArg (fun z => l5 + z) ic_1) rfl ?_
            refine pn_goto (pc' := 27) dX10_keep_75 rfl ?_
            exact ih l1 l2 l5 x10 (l5 + (1 : Int32)) σ8

set_option maxRecDepth 20000 in
set_option maxHeartbeats 4000000 in
theorem ct_X10_keep (Γ : pn_G) (a1 : Int32) (σ : pn_S) : ∀ r, fX10_keep a1 σ = some r → pn_C Γ 6 mX10_keep [.ref 0, .int a1] σ (pn_xi r) := by
  refine pn_of (ls := [.ref 0, .int a1, .null, .null, .null, .null]) (by decide) rfl (pn_cat rfl) rfl (Nat.le_of_ble_eq_true rfl) ?_
  rw [fX10_keep]
  refine pn_aload_n dX10_keep_0 rfl rfl rfl ?_
  refine pn_iload_n dX10_keep_1 rfl rfl rfl ?_
  refine pn_cxv (fun _ _ => rfl) rfl (fun r9 h9 => pn_LKV dX10_keep_2 lm_X10_149 (ct_X10_checkPerson Γ a1 σ r9 h9) (by decide) qt_0 qk_0 rfl rfl (Nat.le_of_ble_eq_true rfl)) rfl (fun σ1 => ?_)
  refine pn_aload_n dX10_keep_5 rfl rfl rfl ?_
  refine pn_iload_n dX10_keep_6 rfl rfl rfl ?_
  refine pn_cv (fun r9 h9 => pn_LKV dX10_keep_7 lm_X10_189 (ct_X10_summonTo Γ a1 σ1 r9 h9) (by decide) qt_0 qk_0 rfl rfl (Nat.le_of_ble_eq_true rfl)) rfl (fun σ2 => ?_)
  refine pn_aload_n dX10_keep_10 rfl rfl rfl ?_
  refine pn_geta dX10_keep_11 rfl lf_X10_63_9 qt_0 qk_0 qr_0_9 qt_37 ?_
  refine pn_geti dX10_keep_14 rfl lf_X10_212_0 qt_37 qk_37 qr_37_4 ?_
  refine pn_istore_n (ls' := [.ref 0, .int a1, .int (σ2 37 4), .null, .null, .null]) dX10_keep_17 rfl rfl (Nat.le_of_ble_eq_true rfl) rfl ?_
  refine pn_iconst dX10_keep_18 rfl ic_m1 ?_
  refine pn_istore_n (ls' := [.ref 0, .int a1, .int (σ2 37 4), .int (-1 : Int32), .null, .null]) dX10_keep_19 rfl rfl (Nat.le_of_ble_eq_true rfl) rfl ?_
  refine pn_bipush dX10_keep_20 rfl bc_9 ?_
  refine pn_istore (ls' := [.ref 0, .int a1, .int (σ2 37 4), .int (-1 : Int32), .int (9 : Int32), .null]) dX10_keep_22 rfl (Nat.le_of_ble_eq_true rfl) rfl ?_
  refine pn_iconst dX10_keep_24 rfl ic_0 ?_
  refine pn_istore (ls' := [.ref 0, .int a1, .int (σ2 37 4), .int (-1 : Int32), .int (9 : Int32), .int (0 : Int32)]) dX10_keep_25 rfl (Nat.le_of_ble_eq_true rfl) rfl ?_
  exact wX10_keep_27 Γ 5000 a1 (σ2 37 4) (-1 : Int32) (9 : Int32) (0 : Int32) σ2

set_option maxRecDepth 20000 in
set_option maxHeartbeats 4000000 in
theorem wX10_tips_71 (Γ : pn_G)  (rec36 : Int32 → Int32 → Int32 → Int32 → Int32 → pn_S → Option ((Int32 ⊕ String) × pn_S)) (hrec36 : ∀ (l2 : Int32) (l3 : Int32) (l4 : Int32) (l5 : Int32) (l6 : Int32) (σ : pn_S), pn_W9 Γ 6 mX10_tips pn_xi 36 [.ref 0, .null, .int l2, .int l3, .int l4, .int l5, .int l6, .null] [] σ (rec36 l2 l3 l4 l5 l6 σ)) (l2 : Int32) (l3 : Int32) (l4 : Int32) (l5 : Int32) (l6 : Int32) (s0 : Int32) (σ : pn_S) : pn_W9 Γ 6 mX10_tips pn_xi 71 [.ref 0, .null, .int l2, .int l3, .int l4, .int l5, .int l6, .null] [.int s0] σ (fX10_tips_71 rec36 l2 l3 l4 l5 l6 s0 σ) := by
  rw [fX10_tips_71]
  refine pn_istore (ls' := [.ref 0, .null, .int l2, .int l3, .int l4, .int l5, .int l6, .int s0]) dX10_tips_71 rfl (Nat.le_of_ble_eq_true rfl) rfl ?_
  refine pn_iload dX10_tips_73 rfl rfl ?_
  refine pn_iload dX10_tips_75 rfl rfl ?_
  refine pn_icmp_ge (tgt := 88) dX10_tips_77 rfl rfl (fun c7 => ?_) (fun c7 => ?_)
  · refine pn_iinc (ls' := [.ref 0, .null, .int l2, .int l3, .int l4, .int l5, .int (l6 + (1 : Int32)), .int s0]) dX10_tips_88 rfl (Nat.le_of_ble_eq_true rfl) rfl (congrArg (fun z => l6 + z) ic_1) rfl ?_
    refine pn_goto (pc' := 36) dX10_tips_91 rfl ?_
    exact pn_wk (pn_leC rfl (pn_leN (pn_leC rfl (pn_leC rfl (pn_leC rfl (pn_leC rfl (pn_leC rfl (pn_leN pn_le0)))))))) (hrec36 l2 l3 l4 l5 (l6 + (1 : Int32)) σ)
  · refine pn_iload dX10_tips_80 rfl rfl ?_
    refine pn_istore (ls' := [.ref 0, .null, .int l2, .int l3, .int l4, .int s0, .int l6, .int s0]) dX10_tips_82 rfl (Nat.le_of_ble_eq_true rfl) rfl ?_
    refine pn_iload dX10_tips_84 rfl rfl ?_
    refine pn_istore (ls' := [.ref 0, .null, .int l2, .int l3, .int l6, .int s0, .int l6, .int s0]) dX10_tips_86 rfl (Nat.le_of_ble_eq_true rfl) rfl ?_
    refine pn_iinc (ls' := [.ref 0, .null, .int l2, .int l3, .int l6, .int s0, .int (l6 + (1 : Int32)), .int s0]) dX10_tips_88 rfl (Nat.le_of_ble_eq_true rfl) rfl (congrArg (fun z => l6 + z) ic_1) rfl ?_
    refine pn_goto (pc' := 36) dX10_tips_91 rfl ?_
    exact pn_wk (pn_leC rfl (pn_leN (pn_leC rfl (pn_leC rfl (pn_leC rfl (pn_leC rfl (pn_leC rfl (pn_leN pn_le0)))))))) (hrec36 l2 l3 l6 s0 (l6 + (1 : Int32)) σ)

set_option maxRecDepth 20000 in
set_option maxHeartbeats 4000000 in
theorem wX10_tips_36 (Γ : pn_G)  : ∀ (n9 : Nat) (l2 : Int32) (l3 : Int32) (l4 : Int32) (l5 : Int32) (l6 : Int32) (σ : pn_S), pn_W9 Γ 6 mX10_tips pn_xi 36 [.ref 0, .null, .int l2, .int l3, .int l4, .int l5, .int l6, .null] [] σ (fX10_tips_36 n9 l2 l3 l4 l5 l6 σ) := by
  intro n9
  induction n9 with
  | zero => intro l2 l3 l4 l5 l6 σ; exact pn_none
  | succ n9 ih =>
    intro l2 l3 l4 l5 l6 σ
    rw [fX10_tips_36]
    refine pn_iload dX10_tips_36 rfl rfl ?_
    refine pn_aload_n dX10_tips_38 rfl rfl rfl ?_
    refine pn_geta dX10_tips_39 rfl lf_X10_19_9 qt_0 qk_0 qr_0_1 qt_5 ?_
    refine pn_geti dX10_tips_42 rfl lf_X10_250_7 qt_5 qk_5 qr_5_2 ?_
    refine pn_icmp_ge (tgt := 94) dX10_tips_45 rfl rfl (fun c4 => ?_) (fun c4 => ?_)
    · refine pn_iload dX10_tips_94 rfl rfl ?_
      exact pn_iretv dX10_tips_96 rfl rfl rfl
    · refine pn_iload_n dX10_tips_48 rfl rfl rfl ?_
      refine pn_iload dX10_tips_49 rfl rfl ?_
      refine pn_cp (fun r9 h9 => pn_LKS dX10_tips_51 lm_X10_253 (ct_X10_hasBit Γ l2 l6 σ r9 h9) (by decide) rfl rfl (Nat.le_of_ble_eq_true rfl)) rfl (fun x5 => ?_)
      refine pn_if_eq (tgt := 69) dX10_tips_54 rfl rfl (fun c6 => ?_) (fun c6 => ?_)
      · refine pn_iload dX10_tips_69 rfl rfl ?_
        exact wX10_tips_71 Γ (fX10_tips_36 n9) (ih) l2 l3 l4 l5 l6 l5 σ
      · refine pn_aload_n dX10_tips_57 rfl rfl rfl ?_
        refine pn_iload_n dX10_tips_58 rfl rfl rfl ?_
        refine pn_iconst dX10_tips_59 rfl ic_1 ?_
        refine pn_iload dX10_tips_60 rfl rfl ?_
        refine pn_ishl dX10_tips_62 rfl ?_
        refine pn_ci (fun r9 h9 => pn_LKV dX10_tips_63 lm_X10_241 (ct_X10_sizeBy Γ l3 ((1 : Int32) <<< (l6 &&& 31)) σ r9 h9) (by decide) qt_0 qk_0 rfl rfl (Nat.le_of_ble_eq_true rfl)) rfl (fun x8 σ8 => ?_)
        refine pn_goto (pc' := 71) dX10_tips_66 rfl ?_
        exact wX10_tips_71 Γ (fX10_tips_36 n9) (ih) l2 l3 l4 l5 l6 x8 σ8

set_option maxRecDepth 20000 in
set_option maxHeartbeats 4000000 in
theorem ct_X10_tips (Γ : pn_G) (a1 : Int32) (σ : pn_S) : ∀ r, fX10_tips a1 σ = some r → pn_C Γ 6 mX10_tips [.ref 0, .int a1] σ (pn_xi r) := by
  refine pn_of (ls := [.ref 0, .int a1, .null, .null, .null, .null, .null, .null]) (by decide) rfl (pn_cat rfl) rfl (Nat.le_of_ble_eq_true rfl) ?_
  rw [fX10_tips]
  refine pn_aload_n dX10_tips_0 rfl rfl rfl ?_
  refine pn_iload_n dX10_tips_1 rfl rfl rfl ?_
  refine pn_cxv (fun _ _ => rfl) rfl (fun r9 h9 => pn_LKV dX10_tips_2 lm_X10_149 (ct_X10_checkPerson Γ a1 σ r9 h9) (by decide) qt_0 qk_0 rfl rfl (Nat.le_of_ble_eq_true rfl)) rfl (fun σ1 => ?_)
  refine pn_aload_n dX10_tips_5 rfl rfl rfl ?_
  refine pn_iload_n dX10_tips_6 rfl rfl rfl ?_
  refine pn_cv (fun r9 h9 => pn_LKV dX10_tips_7 lm_X10_189 (ct_X10_summonTo Γ a1 σ1 r9 h9) (by decide) qt_0 qk_0 rfl rfl (Nat.le_of_ble_eq_true rfl)) rfl (fun σ2 => ?_)
  refine pn_aload_n dX10_tips_10 rfl rfl rfl ?_
  refine pn_geta dX10_tips_11 rfl lf_X10_63_9 qt_0 qk_0 qr_0_9 qt_37 ?_
  refine pn_geti dX10_tips_14 rfl lf_X10_212_0 qt_37 qk_37 qr_37_4 ?_
  refine pn_istore_n (ls' := [.ref 0, .int a1, .int (σ2 37 4), .null, .null, .null, .null, .null]) dX10_tips_17 rfl rfl (Nat.le_of_ble_eq_true rfl) rfl ?_
  refine pn_aload_n dX10_tips_18 rfl rfl rfl ?_
  refine pn_geta dX10_tips_19 rfl lf_X10_19_9 qt_0 qk_0 qr_0_1 qt_5 ?_
  refine pn_cp (fun r9 h9 => pn_LKV dX10_tips_22 lm_X10_247 (ct_X8_beginners Γ 5 qv_5 σ2 r9 h9) (by decide) qt_5 qk_5 rfl rfl (Nat.le_of_ble_eq_true rfl)) rfl (fun x3 => ?_)
  refine pn_istore_n (ls' := [.ref 0, .int a1, .int (σ2 37 4), .int x3, .null, .null, .null, .null]) dX10_tips_25 rfl rfl (Nat.le_of_ble_eq_true rfl) rfl ?_
  refine pn_iconst dX10_tips_26 rfl ic_m1 ?_
  refine pn_istore (ls' := [.ref 0, .int a1, .int (σ2 37 4), .int x3, .int (-1 : Int32), .null, .null, .null]) dX10_tips_27 rfl (Nat.le_of_ble_eq_true rfl) rfl ?_
  refine pn_bipush dX10_tips_29 rfl bc_9 ?_
  refine pn_istore (ls' := [.ref 0, .int a1, .int (σ2 37 4), .int x3, .int (-1 : Int32), .int (9 : Int32), .null, .null]) dX10_tips_31 rfl (Nat.le_of_ble_eq_true rfl) rfl ?_
  refine pn_iconst dX10_tips_33 rfl ic_0 ?_
  refine pn_istore (ls' := [.ref 0, .int a1, .int (σ2 37 4), .int x3, .int (-1 : Int32), .int (9 : Int32), .int (0 : Int32), .null]) dX10_tips_34 rfl (Nat.le_of_ble_eq_true rfl) rfl ?_
  exact pn_wk (pn_leC rfl (pn_leN (pn_leC rfl (pn_leC rfl (pn_leC rfl (pn_leC rfl (pn_leC rfl (pn_leN pn_le0)))))))) (wX10_tips_36 Γ 5000 (σ2 37 4) x3 (-1 : Int32) (9 : Int32) (0 : Int32) σ2)

set_option maxRecDepth 20000 in
set_option maxHeartbeats 4000000 in
theorem ct_X10_price (Γ : pn_G) (a1 : Int32) (σ : pn_S) : ∀ r, fX10_price a1 σ = some r → pn_C Γ 6 mX10_price [.ref 0, .int a1] σ (pn_xi r) := by
  refine pn_of (ls := [.ref 0, .int a1]) (by decide) rfl (pn_cat rfl) rfl (Nat.le_of_ble_eq_true rfl) ?_
  rw [fX10_price]
  refine pn_aload_n dX10_price_0 rfl rfl rfl ?_
  refine pn_iload_n dX10_price_1 rfl rfl rfl ?_
  refine pn_cxv (fun _ _ => rfl) rfl (fun r9 h9 => pn_LKV dX10_price_2 lm_X10_149 (ct_X10_checkPerson Γ a1 σ r9 h9) (by decide) qt_0 qk_0 rfl rfl (Nat.le_of_ble_eq_true rfl)) rfl (fun σ1 => ?_)
  refine pn_aload_n dX10_price_5 rfl rfl rfl ?_
  refine pn_iload_n dX10_price_6 rfl rfl rfl ?_
  refine pn_cv (fun r9 h9 => pn_LKV dX10_price_7 lm_X10_189 (ct_X10_summonTo Γ a1 σ1 r9 h9) (by decide) qt_0 qk_0 rfl rfl (Nat.le_of_ble_eq_true rfl)) rfl (fun σ2 => ?_)
  refine pn_aload_n dX10_price_10 rfl rfl rfl ?_
  refine pn_cp (fun r9 h9 => pn_LKV dX10_price_11 lm_X10_192 (ct_X10_priceOf Γ σ2 r9 h9) (by decide) qt_0 qk_0 rfl rfl (Nat.le_of_ble_eq_true rfl)) rfl (fun x3 => ?_)
  exact pn_iretv dX10_price_14 rfl rfl rfl

set_option maxRecDepth 20000 in
set_option maxHeartbeats 4000000 in
theorem ct_X10_can (Γ : pn_G) (a1 : Int32) (σ : pn_S) : ∀ r, fX10_can a1 σ = some r → pn_C Γ 6 mX10_can [.ref 0, .int a1] σ (pn_xi r) := by
  refine pn_of (ls := [.ref 0, .int a1]) (by decide) rfl (pn_cat rfl) rfl (Nat.le_of_ble_eq_true rfl) ?_
  rw [fX10_can]
  refine pn_aload_n dX10_can_0 rfl rfl rfl ?_
  refine pn_iload_n dX10_can_1 rfl rfl rfl ?_
  refine pn_cxv (fun _ _ => rfl) rfl (fun r9 h9 => pn_LKV dX10_can_2 lm_X10_149 (ct_X10_checkPerson Γ a1 σ r9 h9) (by decide) qt_0 qk_0 rfl rfl (Nat.le_of_ble_eq_true rfl)) rfl (fun σ1 => ?_)
  refine pn_aload_n dX10_can_5 rfl rfl rfl ?_
  refine pn_iload_n dX10_can_6 rfl rfl rfl ?_
  refine pn_cv (fun r9 h9 => pn_LKV dX10_can_7 lm_X10_189 (ct_X10_summonTo Γ a1 σ1 r9 h9) (by decide) qt_0 qk_0 rfl rfl (Nat.le_of_ble_eq_true rfl)) rfl (fun σ2 => ?_)
  refine pn_aload_n dX10_can_10 rfl rfl rfl ?_
  refine pn_geta dX10_can_11 rfl lf_X10_19_9 qt_0 qk_0 qr_0_1 qt_5 ?_
  refine pn_iload_n dX10_can_14 rfl rfl rfl ?_
  refine pn_iconst dX10_can_15 rfl ic_3 ?_
  refine pn_cp (fun r9 h9 => pn_LKV dX10_can_16 lm_X10_155 (ct_X8_of Γ 5 qv_5 a1 (3 : Int32) σ2 r9 h9) (by decide) qt_5 qk_5 rfl rfl (Nat.le_of_ble_eq_true rfl)) rfl (fun x3 => ?_)
  refine pn_aload_n dX10_can_19 rfl rfl rfl ?_
  refine pn_cp (fun r9 h9 => pn_LKV dX10_can_20 lm_X10_192 (ct_X10_priceOf Γ σ2 r9 h9) (by decide) qt_0 qk_0 rfl rfl (Nat.le_of_ble_eq_true rfl)) rfl (fun x4 => ?_)
  refine pn_icmp_lt (tgt := 30) dX10_can_23 rfl rfl (fun c5 => ?_) (fun c5 => ?_)
  · refine pn_iconst dX10_can_30 rfl ic_0 ?_
    exact pn_iretv dX10_can_31 rfl rfl rfl
  · refine pn_iconst dX10_can_26 rfl ic_1 ?_
    refine pn_goto (pc' := 31) dX10_can_27 rfl ?_
    exact pn_iretv dX10_can_31 rfl rfl rfl

set_option maxRecDepth 20000 in
set_option maxHeartbeats 4000000 in
theorem ct_X10_wouldPay (Γ : pn_G) (a1 : Int32) (a2 : Int32) (σ : pn_S) : ∀ r, fX10_wouldPay a1 a2 σ = some r → pn_C Γ 2 mX10_wouldPay [.ref 0, .int a1, .int a2] σ ((pn_p σ) r) := by
  refine pn_of (ls := [.ref 0, .int a1, .int a2]) (by decide) rfl (pn_cat rfl) rfl (Nat.le_of_ble_eq_true rfl) ?_
  rw [fX10_wouldPay]
  refine pn_aload_n dX10_wouldPay_0 rfl rfl rfl ?_
  refine pn_geta dX10_wouldPay_1 rfl lf_X10_63_9 qt_0 qk_0 qr_0_9 qt_37 ?_
  refine pn_geti dX10_wouldPay_4 rfl lf_X10_222_0 qt_37 qk_37 qr_37_6 ?_
  refine pn_aload_n dX10_wouldPay_7 rfl rfl rfl ?_
  refine pn_geta dX10_wouldPay_8 rfl lf_X10_19_9 qt_0 qk_0 qr_0_1 qt_5 ?_
  refine pn_iload_n dX10_wouldPay_11 rfl rfl rfl ?_
  refine pn_iconst dX10_wouldPay_12 rfl ic_2 ?_
  refine pn_cp (fun r9 h9 => pn_LKV dX10_wouldPay_13 lm_X10_155 (ct_X8_of Γ 5 qv_5 a1 (2 : Int32) σ r9 h9) (by decide) qt_5 qk_5 rfl rfl (Nat.le_of_ble_eq_true rfl)) rfl (fun x1 => ?_)
  refine pn_icmp_lt (tgt := 44) dX10_wouldPay_16 rfl rfl (fun c2 => ?_) (fun c2 => ?_)
  · refine pn_iconst dX10_wouldPay_44 rfl ic_0 ?_
    exact pn_iretv dX10_wouldPay_45 rfl rfl rfl
  · refine pn_aload_n dX10_wouldPay_19 rfl rfl rfl ?_
    refine pn_geta dX10_wouldPay_20 rfl lf_X10_19_9 qt_0 qk_0 qr_0_1 qt_5 ?_
    refine pn_iload_n dX10_wouldPay_23 rfl rfl rfl ?_
    refine pn_iconst dX10_wouldPay_24 rfl ic_3 ?_
    refine pn_cp (fun r9 h9 => pn_LKV dX10_wouldPay_25 lm_X10_155 (ct_X8_of Γ 5 qv_5 a1 (3 : Int32) σ r9 h9) (by decide) qt_5 qk_5 rfl rfl (Nat.le_of_ble_eq_true rfl)) rfl (fun x3 => ?_)
    refine pn_iload_n dX10_wouldPay_28 rfl rfl rfl ?_
    refine pn_aload_n dX10_wouldPay_29 rfl rfl rfl ?_
    refine pn_geta dX10_wouldPay_30 rfl lf_X10_63_9 qt_0 qk_0 qr_0_9 qt_37 ?_
    refine pn_geti dX10_wouldPay_33 rfl lf_X10_256_0 qt_37 qk_37 qr_37_5 ?_
    refine pn_imul dX10_wouldPay_36 rfl ?_
    refine pn_icmp_lt (tgt := 44) dX10_wouldPay_37 rfl rfl (fun c4 => ?_) (fun c4 => ?_)
    · refine pn_iconst dX10_wouldPay_44 rfl ic_0 ?_
      exact pn_iretv dX10_wouldPay_45 rfl rfl rfl
    · refine pn_iconst dX10_wouldPay_40 rfl ic_1 ?_
      refine pn_goto (pc' := 45) dX10_wouldPay_41 rfl ?_
      exact pn_iretv dX10_wouldPay_45 rfl rfl rfl

set_option maxRecDepth 20000 in
set_option maxHeartbeats 4000000 in
theorem wX10_dearest_6 (Γ : pn_G)  : ∀ (n9 : Nat) (l1 : Int32) (l2 : Int32) (l3 : Int32) (σ : pn_S), pn_W9 Γ 6 mX10_dearest pn_i 6 [.ref 0, .int l1, .int l2, .int l3] [] σ (fX10_dearest_6 n9 l1 l2 l3 σ) := by
  intro n9
  induction n9 with
  | zero => intro l1 l2 l3 σ; exact pn_none
  | succ n9 ih =>
    intro l1 l2 l3 σ
    rw [fX10_dearest_6]
    refine pn_iload_n dX10_dearest_6 rfl rfl rfl ?_
    refine pn_aload_n dX10_dearest_7 rfl rfl rfl ?_
    refine pn_geta dX10_dearest_8 rfl lf_X10_19_9 qt_0 qk_0 qr_0_1 qt_5 ?_
    refine pn_geti dX10_dearest_11 rfl lf_X10_250_7 qt_5 qk_5 qr_5_2 ?_
    refine pn_icmp_ge (tgt := 68) dX10_dearest_14 rfl rfl (fun c1 => ?_) (fun c1 => ?_)
    · refine pn_iload_n dX10_dearest_68 rfl rfl rfl ?_
      exact pn_iretv dX10_dearest_69 rfl rfl rfl
    · refine pn_aload_n dX10_dearest_17 rfl rfl rfl ?_
      refine pn_iload_n dX10_dearest_18 rfl rfl rfl ?_
      refine pn_cv (fun r9 h9 => pn_LKV dX10_dearest_19 lm_X10_189 (ct_X10_summonTo Γ l3 σ r9 h9) (by decide) qt_0 qk_0 rfl rfl (Nat.le_of_ble_eq_true rfl)) rfl (fun σ2 => ?_)
      refine pn_aload_n dX10_dearest_22 rfl rfl rfl ?_
      refine pn_geta dX10_dearest_23 rfl lf_X10_63_9 qt_0 qk_0 qr_0_9 qt_37 ?_
      refine pn_geti dX10_dearest_26 rfl lf_X10_256_0 qt_37 qk_37 qr_37_5 ?_
      refine pn_if_le (tgt := 62) dX10_dearest_29 rfl rfl (fun c3 => ?_) (fun c3 => ?_)
      · refine pn_iinc (ls' := [.ref 0, .int l1, .int l2, .int (l3 + (1 : Int32))]) dX10_dearest_62 rfl (Nat.le_of_ble_eq_true rfl) rfl (congrArg (fun z => l3 + z) ic_1) rfl ?_
        refine pn_goto (pc' := 6) dX10_dearest_65 rfl ?_
        exact ih l1 l2 (l3 + (1 : Int32)) σ2
      · refine pn_aload_n dX10_dearest_32 rfl rfl rfl ?_
        refine pn_iload_n dX10_dearest_33 rfl rfl rfl ?_
        refine pn_aload_n dX10_dearest_34 rfl rfl rfl ?_
        refine pn_geta dX10_dearest_35 rfl lf_X10_19_9 qt_0 qk_0 qr_0_1 qt_5 ?_
        refine pn_geti dX10_dearest_38 rfl lf_X10_259_7 qt_5 qk_5 qr_5_11 ?_
        refine pn_cp (fun r9 h9 => pn_LKV dX10_dearest_41 lm_X10_262 (ct_X10_wouldPay Γ l3 (σ2 5 11) σ2 r9 h9) (by decide) qt_0 qk_0 rfl rfl (Nat.le_of_ble_eq_true rfl)) rfl (fun x4 => ?_)
        refine pn_if_eq (tgt := 62) dX10_dearest_44 rfl rfl (fun c5 => ?_) (fun c5 => ?_)
        · refine pn_iinc (ls' := [.ref 0, .int l1, .int l2, .int (l3 + (1 : Int32))]) dX10_dearest_62 rfl (Nat.le_of_ble_eq_true rfl) rfl (congrArg (fun z => l3 + z) ic_1) rfl ?_
          refine pn_goto (pc' := 6) dX10_dearest_65 rfl ?_
          exact ih l1 l2 (l3 + (1 : Int32)) σ2
        · refine pn_aload_n dX10_dearest_47 rfl rfl rfl ?_
          refine pn_cp (fun r9 h9 => pn_LKV dX10_dearest_48 lm_X10_192 (ct_X10_priceOf Γ σ2 r9 h9) (by decide) qt_0 qk_0 rfl rfl (Nat.le_of_ble_eq_true rfl)) rfl (fun x6 => ?_)
          refine pn_iload_n dX10_dearest_51 rfl rfl rfl ?_
          refine pn_icmp_le (tgt := 62) dX10_dearest_52 rfl rfl (fun c7 => ?_) (fun c7 => ?_)
          · refine pn_iinc (ls' := [.ref 0, .int l1, .int l2, .int (l3 + (1 : Int32))]) dX10_dearest_62 rfl (Nat.le_of_ble_eq_true rfl) rfl (congrArg (fun z => l3 + z) ic_1) rfl ?_
            refine pn_goto (pc' := 6) dX10_dearest_65 rfl ?_
            exact ih l1 l2 (l3 + (1 : Int32)) σ2
          · refine pn_aload_n dX10_dearest_55 rfl rfl rfl ?_
            refine pn_cp (fun r9 h9 => pn_LKV dX10_dearest_56 lm_X10_192 (ct_X10_priceOf Γ σ2 r9 h9) (by decide) qt_0 qk_0 rfl rfl (Nat.le_of_ble_eq_true rfl)) rfl (fun x8 => ?_)
            refine pn_istore_n (ls' := [.ref 0, .int l1, .int x8, .int l3]) dX10_dearest_59 rfl rfl (Nat.le_of_ble_eq_true rfl) rfl ?_
            refine pn_iload_n dX10_dearest_60 rfl rfl rfl ?_
            refine pn_istore_n (ls' := [.ref 0, .int l3, .int x8, .int l3]) dX10_dearest_61 rfl rfl (Nat.le_of_ble_eq_true rfl) rfl ?_
            refine pn_iinc (ls' := [.ref 0, .int l3, .int x8, .int (l3 + (1 : Int32))]) dX10_dearest_62 rfl (Nat.le_of_ble_eq_true rfl) rfl (congrArg (fun z => l3 + z) ic_1) rfl ?_
            refine pn_goto (pc' := 6) dX10_dearest_65 rfl ?_
            exact ih l3 x8 (l3 + (1 : Int32)) σ2

set_option maxRecDepth 20000 in
set_option maxHeartbeats 4000000 in
theorem ct_X10_dearest (Γ : pn_G)  (σ : pn_S) : ∀ r, fX10_dearest  σ = some r → pn_C Γ 6 mX10_dearest [.ref 0] σ (pn_i r) := by
  refine pn_of (ls := [.ref 0, .null, .null, .null]) (by decide) rfl (pn_cat rfl) rfl (Nat.le_of_ble_eq_true rfl) ?_
  rw [fX10_dearest]
  refine pn_iconst dX10_dearest_0 rfl ic_m1 ?_
  refine pn_istore_n (ls' := [.ref 0, .int (-1 : Int32), .null, .null]) dX10_dearest_1 rfl rfl (Nat.le_of_ble_eq_true rfl) rfl ?_
  refine pn_iconst dX10_dearest_2 rfl ic_m1 ?_
  refine pn_istore_n (ls' := [.ref 0, .int (-1 : Int32), .int (-1 : Int32), .null]) dX10_dearest_3 rfl rfl (Nat.le_of_ble_eq_true rfl) rfl ?_
  refine pn_iconst dX10_dearest_4 rfl ic_0 ?_
  refine pn_istore_n (ls' := [.ref 0, .int (-1 : Int32), .int (-1 : Int32), .int (0 : Int32)]) dX10_dearest_5 rfl rfl (Nat.le_of_ble_eq_true rfl) rfl ?_
  exact wX10_dearest_6 Γ 5000 (-1 : Int32) (-1 : Int32) (0 : Int32) σ

set_option maxRecDepth 20000 in
set_option maxHeartbeats 4000000 in
theorem wX10_sumPrices_63 (Γ : pn_G)  (rec10 : Int32 → pn_S → Option (pn_S)) (hrec10 : ∀ (l1 : Int32) (σ : pn_S), pn_W9 Γ 6 mX10_sumPrices pn_v 10 [.ref 0, .int l1, .null] [] σ (rec10 l1 σ)) (rec28 : Int32 → Int32 → pn_S → Option (pn_S)) (hrec28 : ∀ (l1 : Int32) (l2 : Int32) (σ : pn_S), pn_W9 Γ 6 mX10_sumPrices pn_v 28 [.ref 0, .int l1, .int l2] [] σ (rec28 l1 l2 σ)) (l1 : Int32) (l2 : Int32) (s1 : Int32) (s2 : Int32) (s3 : Int32) (σ : pn_S) : pn_W9 Γ 6 mX10_sumPrices pn_v 63 [.ref 0, .int l1, .int l2] [.int s3, .int s2, .int s1, .ref 84] σ (fX10_sumPrices_63 rec10 rec28 l1 l2 s1 s2 s3 σ) := by
  rw [fX10_sumPrices_63]
  refine pn_iadd dX10_sumPrices_63 rfl ?_
  refine pn_iast dX10_sumPrices_64 rfl qt_84 qk_84 ql_84 ?_
  refine pn_iinc (ls' := [.ref 0, .int l1, .int (l2 + (1 : Int32))]) dX10_sumPrices_65 rfl (Nat.le_of_ble_eq_true rfl) rfl (congrArg (fun z => l2 + z) ic_1) rfl ?_
  refine pn_goto (pc' := 28) dX10_sumPrices_68 rfl ?_
  exact hrec28 l1 (l2 + (1 : Int32)) (pn_up σ 84 (Int32.toNatClampNeg s1) (s2 + s3))

set_option maxRecDepth 20000 in
set_option maxHeartbeats 4000000 in
theorem wX10_sumPrices_28 (Γ : pn_G)  (rec10 : Int32 → pn_S → Option (pn_S)) (hrec10 : ∀ (l1 : Int32) (σ : pn_S), pn_W9 Γ 6 mX10_sumPrices pn_v 10 [.ref 0, .int l1, .null] [] σ (rec10 l1 σ)) : ∀ (n9 : Nat) (l1 : Int32) (l2 : Int32) (σ : pn_S), pn_W9 Γ 6 mX10_sumPrices pn_v 28 [.ref 0, .int l1, .int l2] [] σ (fX10_sumPrices_28 rec10 n9 l1 l2 σ) := by
  intro n9
  induction n9 with
  | zero => intro l1 l2 σ; exact pn_none
  | succ n9 ih =>
    intro l1 l2 σ
    rw [fX10_sumPrices_28]
    refine pn_iload_n dX10_sumPrices_28 rfl rfl rfl ?_
    refine pn_bipush dX10_sumPrices_29 rfl bc_20 ?_
    refine pn_icmp_gt (tgt := 71) dX10_sumPrices_31 rfl rfl (fun c4 => ?_) (fun c4 => ?_)
    · refine pn_iinc (ls' := [.ref 0, .int (l1 + (1 : Int32)), .int l2]) dX10_sumPrices_71 rfl (Nat.le_of_ble_eq_true rfl) rfl (congrArg (fun z => l1 + z) ic_1) rfl ?_
      refine pn_goto (pc' := 10) dX10_sumPrices_74 rfl ?_
      exact pn_wk (pn_leC rfl (pn_leC rfl (pn_leN pn_le0))) (hrec10 (l1 + (1 : Int32)) σ)
    · refine pn_aload_n dX10_sumPrices_34 rfl rfl rfl ?_
      refine pn_geta dX10_sumPrices_35 rfl lf_X10_88_9 qt_0 qk_0 qr_0_13 qt_84 ?_
      refine pn_iload_n dX10_sumPrices_38 rfl rfl rfl ?_
      refine pn_dup2 dX10_sumPrices_39 rfl ?_
      refine pn_iald dX10_sumPrices_40 rfl qt_84 qk_84 ql_84 ?_
      refine pn_aload_n dX10_sumPrices_41 rfl rfl rfl ?_
      refine pn_iload_n dX10_sumPrices_42 rfl rfl rfl ?_
      refine pn_iload_n dX10_sumPrices_43 rfl rfl rfl ?_
      refine pn_cp (fun r9 h9 => pn_LKV dX10_sumPrices_44 lm_X10_262 (ct_X10_wouldPay Γ l1 l2 σ r9 h9) (by decide) qt_0 qk_0 rfl rfl (Nat.le_of_ble_eq_true rfl)) rfl (fun x5 => ?_)
      refine pn_if_eq (tgt := 62) dX10_sumPrices_47 rfl rfl (fun c6 => ?_) (fun c6 => ?_)
      · refine pn_iconst dX10_sumPrices_62 rfl ic_0 ?_
        exact wX10_sumPrices_63 Γ (rec10) (hrec10) (fX10_sumPrices_28 rec10 n9) (ih) l1 l2 l2 (σ 84 (Int32.toNatClampNeg l2)) (0 : Int32) σ
      · refine pn_iload_n dX10_sumPrices_50 rfl rfl rfl ?_
        refine pn_aload_n dX10_sumPrices_51 rfl rfl rfl ?_
        refine pn_geta dX10_sumPrices_52 rfl lf_X10_63_9 qt_0 qk_0 qr_0_9 qt_37 ?_
        refine pn_geti dX10_sumPrices_55 rfl lf_X10_256_0 qt_37 qk_37 qr_37_5 ?_
        refine pn_imul dX10_sumPrices_58 rfl ?_
        refine pn_goto (pc' := 63) dX10_sumPrices_59 rfl ?_
        exact wX10_sumPrices_63 Γ (rec10) (hrec10) (fX10_sumPrices_28 rec10 n9) (ih) l1 l2 l2 (σ 84 (Int32.toNatClampNeg l2)) (l2 * (σ 37 5)) σ

set_option maxRecDepth 20000 in
set_option maxHeartbeats 4000000 in
theorem wX10_sumPrices_10 (Γ : pn_G)  : ∀ (n9 : Nat) (l1 : Int32) (σ : pn_S), pn_W9 Γ 6 mX10_sumPrices pn_v 10 [.ref 0, .int l1, .null] [] σ (fX10_sumPrices_10 n9 l1 σ) := by
  intro n9
  induction n9 with
  | zero => intro l1 σ; exact pn_none
  | succ n9 ih =>
    intro l1 σ
    rw [fX10_sumPrices_10]
    refine pn_iload_n dX10_sumPrices_10 rfl rfl rfl ?_
    refine pn_aload_n dX10_sumPrices_11 rfl rfl rfl ?_
    refine pn_geta dX10_sumPrices_12 rfl lf_X10_19_9 qt_0 qk_0 qr_0_1 qt_5 ?_
    refine pn_geti dX10_sumPrices_15 rfl lf_X10_250_7 qt_5 qk_5 qr_5_2 ?_
    refine pn_icmp_ge (tgt := 77) dX10_sumPrices_18 rfl rfl (fun c2 => ?_) (fun c2 => ?_)
    · exact pn_vretv dX10_sumPrices_77 rfl rfl
    · refine pn_aload_n dX10_sumPrices_21 rfl rfl rfl ?_
      refine pn_iload_n dX10_sumPrices_22 rfl rfl rfl ?_
      refine pn_cv (fun r9 h9 => pn_LKV dX10_sumPrices_23 lm_X10_189 (ct_X10_summonTo Γ l1 σ r9 h9) (by decide) qt_0 qk_0 rfl rfl (Nat.le_of_ble_eq_true rfl)) rfl (fun σ3 => ?_)
      refine pn_iconst dX10_sumPrices_26 rfl ic_0 ?_
      refine pn_istore_n (ls' := [.ref 0, .int l1, .int (0 : Int32)]) dX10_sumPrices_27 rfl rfl (Nat.le_of_ble_eq_true rfl) rfl ?_
      exact wX10_sumPrices_28 Γ (fX10_sumPrices_10 n9) (ih) 5000 l1 (0 : Int32) σ3

set_option maxRecDepth 20000 in
set_option maxHeartbeats 4000000 in
theorem ct_X10_sumPrices (Γ : pn_G)  (σ : pn_S) : ∀ r, fX10_sumPrices  σ = some r → pn_C Γ 6 mX10_sumPrices [.ref 0] σ (pn_v r) := by
  refine pn_of (ls := [.ref 0, .null, .null]) (by decide) rfl (pn_cat rfl) rfl (Nat.le_of_ble_eq_true rfl) ?_
  rw [fX10_sumPrices]
  refine pn_aload_n dX10_sumPrices_0 rfl rfl rfl ?_
  refine pn_geta dX10_sumPrices_1 rfl lf_X10_88_9 qt_0 qk_0 qr_0_13 qt_84 ?_
  refine pn_iconst dX10_sumPrices_4 rfl ic_0 ?_
  refine pn_cv (fun r9 h9 => pn_LKS dX10_sumPrices_5 lm_X10_355 (ct_J7_fill_53178 Γ 84 21 ⟨qt_84, qk_84, ql_84⟩ (0 : Int32) σ r9 h9) (by decide) rfl rfl (Nat.le_of_ble_eq_true rfl)) rfl (fun σ1 => ?_)
  refine pn_iconst dX10_sumPrices_8 rfl ic_0 ?_
  refine pn_istore_n (ls' := [.ref 0, .int (0 : Int32), .null]) dX10_sumPrices_9 rfl rfl (Nat.le_of_ble_eq_true rfl) rfl ?_
  exact wX10_sumPrices_10 Γ 5000 (0 : Int32) σ1

set_option maxRecDepth 20000 in
set_option maxHeartbeats 4000000 in
theorem ct_X10_brings (Γ : pn_G) (a1 : Int32) (σ : pn_S) : ∀ r, fX10_brings a1 σ = some r → pn_C Γ 7 mX10_brings [.ref 0, .int a1] σ (pn_xi r) := by
  refine pn_of (ls := [.ref 0, .int a1]) (by decide) rfl (pn_cat rfl) rfl (Nat.le_of_ble_eq_true rfl) ?_
  rw [fX10_brings]
  refine pn_iload_n dX10_brings_0 rfl rfl rfl ?_
  refine pn_iconst dX10_brings_1 rfl ic_0 ?_
  refine pn_bipush dX10_brings_2 rfl bc_20 ?_
  refine pn_cxv (fun _ _ => rfl) rfl (fun r9 h9 => pn_LKS dX10_brings_4 lm_X10_199 (ct_X10_checkNumber Γ a1 (0 : Int32) (20 : Int32) σ r9 h9) (by decide) rfl rfl (Nat.le_of_ble_eq_true rfl)) rfl (fun σ1 => ?_)
  refine pn_aload_n dX10_brings_7 rfl rfl rfl ?_
  refine pn_cv (fun r9 h9 => pn_LKV dX10_brings_8 lm_X10_265 (ct_X10_sumPrices Γ σ1 r9 h9) (by decide) qt_0 qk_0 rfl rfl (Nat.le_of_ble_eq_true rfl)) rfl (fun σ2 => ?_)
  refine pn_aload_n dX10_brings_11 rfl rfl rfl ?_
  refine pn_geta dX10_brings_12 rfl lf_X10_88_9 qt_0 qk_0 qr_0_13 qt_84 ?_
  refine pn_iload_n dX10_brings_15 rfl rfl rfl ?_
  refine pn_iald dX10_brings_16 rfl qt_84 qk_84 ql_84 ?_
  exact pn_iretv dX10_brings_17 rfl rfl rfl

set_option maxRecDepth 20000 in
set_option maxHeartbeats 4000000 in
theorem wX10_best_8 (Γ : pn_G)  : ∀ (n9 : Nat) (l1 : Int32) (l2 : Int32) (σ : pn_S), pn_W9 Γ 7 mX10_best pn_i 8 [.ref 0, .int l1, .int l2] [] σ (fX10_best_8 n9 l1 l2 σ) := by
  intro n9
  induction n9 with
  | zero => intro l1 l2 σ; exact pn_none
  | succ n9 ih =>
    intro l1 l2 σ
    rw [fX10_best_8]
    refine pn_iload_n dX10_best_8 rfl rfl rfl ?_
    refine pn_bipush dX10_best_9 rfl bc_20 ?_
    refine pn_icmp_gt (tgt := 37) dX10_best_11 rfl rfl (fun c2 => ?_) (fun c2 => ?_)
    · refine pn_iload_n dX10_best_37 rfl rfl rfl ?_
      exact pn_iretv dX10_best_38 rfl rfl rfl
    · refine pn_aload_n dX10_best_14 rfl rfl rfl ?_
      refine pn_geta dX10_best_15 rfl lf_X10_88_9 qt_0 qk_0 qr_0_13 qt_84 ?_
      refine pn_iload_n dX10_best_18 rfl rfl rfl ?_
      refine pn_iald dX10_best_19 rfl qt_84 qk_84 ql_84 ?_
      refine pn_aload_n dX10_best_20 rfl rfl rfl ?_
      refine pn_geta dX10_best_21 rfl lf_X10_88_9 qt_0 qk_0 qr_0_13 qt_84 ?_
      refine pn_iload_n dX10_best_24 rfl rfl rfl ?_
      refine pn_iald dX10_best_25 rfl qt_84 qk_84 ql_84 ?_
      refine pn_icmp_le (tgt := 31) dX10_best_26 rfl rfl (fun c3 => ?_) (fun c3 => ?_)
      · refine pn_iinc (ls' := [.ref 0, .int l1, .int (l2 + (1 : Int32))]) dX10_best_31 rfl (Nat.le_of_ble_eq_true rfl) rfl (congrArg (fun z => l2 + z) ic_1) rfl ?_
        refine pn_goto (pc' := 8) dX10_best_34 rfl ?_
        exact ih l1 (l2 + (1 : Int32)) σ
      · refine pn_iload_n dX10_best_29 rfl rfl rfl ?_
        refine pn_istore_n (ls' := [.ref 0, .int l2, .int l2]) dX10_best_30 rfl rfl (Nat.le_of_ble_eq_true rfl) rfl ?_
        refine pn_iinc (ls' := [.ref 0, .int l2, .int (l2 + (1 : Int32))]) dX10_best_31 rfl (Nat.le_of_ble_eq_true rfl) rfl (congrArg (fun z => l2 + z) ic_1) rfl ?_
        refine pn_goto (pc' := 8) dX10_best_34 rfl ?_
        exact ih l2 (l2 + (1 : Int32)) σ

set_option maxRecDepth 20000 in
set_option maxHeartbeats 4000000 in
theorem ct_X10_best (Γ : pn_G)  (σ : pn_S) : ∀ r, fX10_best  σ = some r → pn_C Γ 7 mX10_best [.ref 0] σ (pn_i r) := by
  refine pn_of (ls := [.ref 0, .null, .null]) (by decide) rfl (pn_cat rfl) rfl (Nat.le_of_ble_eq_true rfl) ?_
  rw [fX10_best]
  refine pn_aload_n dX10_best_0 rfl rfl rfl ?_
  refine pn_cv (fun r9 h9 => pn_LKV dX10_best_1 lm_X10_265 (ct_X10_sumPrices Γ σ r9 h9) (by decide) qt_0 qk_0 rfl rfl (Nat.le_of_ble_eq_true rfl)) rfl (fun σ1 => ?_)
  refine pn_iconst dX10_best_4 rfl ic_0 ?_
  refine pn_istore_n (ls' := [.ref 0, .int (0 : Int32), .null]) dX10_best_5 rfl rfl (Nat.le_of_ble_eq_true rfl) rfl ?_
  refine pn_iconst dX10_best_6 rfl ic_1 ?_
  refine pn_istore_n (ls' := [.ref 0, .int (0 : Int32), .int (1 : Int32)]) dX10_best_7 rfl rfl (Nat.le_of_ble_eq_true rfl) rfl ?_
  exact wX10_best_8 Γ 5000 (0 : Int32) (1 : Int32) σ1

set_option maxRecDepth 20000 in
set_option maxHeartbeats 4000000 in
theorem wX10_thirstOf_4 (Γ : pn_G)  (σ : pn_S) : ∀ (n9 : Nat) (l1 : Int32) (l2 : Int32), pn_W9 Γ 2 mX10_thirstOf (pn_p σ) 4 [.ref 0, .int l1, .int l2] [] σ (fX10_thirstOf_4 n9 l1 l2 σ) := by
  intro n9
  induction n9 with
  | zero => intro l1 l2; exact pn_none
  | succ n9 ih =>
    intro l1 l2
    rw [fX10_thirstOf_4]
    refine pn_iload_n dX10_thirstOf_4 rfl rfl rfl ?_
    refine pn_aload_n dX10_thirstOf_5 rfl rfl rfl ?_
    refine pn_geta dX10_thirstOf_6 rfl lf_X10_19_9 qt_0 qk_0 qr_0_1 qt_5 ?_
    refine pn_geti dX10_thirstOf_9 rfl lf_X10_250_7 qt_5 qk_5 qr_5_2 ?_
    refine pn_icmp_ge (tgt := 51) dX10_thirstOf_12 rfl rfl (fun c1 => ?_) (fun c1 => ?_)
    · refine pn_iload_n dX10_thirstOf_51 rfl rfl rfl ?_
      exact pn_iretv dX10_thirstOf_52 rfl rfl rfl
    · refine pn_iload_n dX10_thirstOf_15 rfl rfl rfl ?_
      refine pn_aload_n dX10_thirstOf_16 rfl rfl rfl ?_
      refine pn_geta dX10_thirstOf_17 rfl lf_X10_63_9 qt_0 qk_0 qr_0_9 qt_37 ?_
      refine pn_geti dX10_thirstOf_20 rfl lf_X10_212_0 qt_37 qk_37 qr_37_4 ?_
      refine pn_iload_n dX10_thirstOf_23 rfl rfl rfl ?_
      refine pn_cp (fun r9 h9 => pn_LKS dX10_thirstOf_24 lm_X10_253 (ct_X10_hasBit Γ (σ 37 4) l2 σ r9 h9) (by decide) rfl rfl (Nat.le_of_ble_eq_true rfl)) rfl (fun x2 => ?_)
      refine pn_if_eq (tgt := 42) dX10_thirstOf_27 rfl rfl (fun c3 => ?_) (fun c3 => ?_)
      · refine pn_iconst dX10_thirstOf_42 rfl ic_0 ?_
        refine pn_iadd dX10_thirstOf_43 rfl ?_
        refine pn_istore_n (ls' := [.ref 0, .int (l1 + (0 : Int32)), .int l2]) dX10_thirstOf_44 rfl rfl (Nat.le_of_ble_eq_true rfl) rfl ?_
        refine pn_iinc (ls' := [.ref 0, .int (l1 + (0 : Int32)), .int (l2 + (1 : Int32))]) dX10_thirstOf_45 rfl (Nat.le_of_ble_eq_true rfl) rfl (congrArg (fun z => l2 + z) ic_1) rfl ?_
        refine pn_goto (pc' := 4) dX10_thirstOf_48 rfl ?_
        exact ih (l1 + (0 : Int32)) (l2 + (1 : Int32))
      · refine pn_aload_n dX10_thirstOf_30 rfl rfl rfl ?_
        refine pn_geta dX10_thirstOf_31 rfl lf_X10_19_9 qt_0 qk_0 qr_0_1 qt_5 ?_
        refine pn_iload_n dX10_thirstOf_34 rfl rfl rfl ?_
        refine pn_iconst dX10_thirstOf_35 rfl ic_1 ?_
        refine pn_cp (fun r9 h9 => pn_LKV dX10_thirstOf_36 lm_X10_155 (ct_X8_of Γ 5 qv_5 l2 (1 : Int32) σ r9 h9) (by decide) qt_5 qk_5 rfl rfl (Nat.le_of_ble_eq_true rfl)) rfl (fun x4 => ?_)
        refine pn_goto (pc' := 43) dX10_thirstOf_39 rfl ?_
        refine pn_iadd dX10_thirstOf_43 rfl ?_
        refine pn_istore_n (ls' := [.ref 0, .int (l1 + x4), .int l2]) dX10_thirstOf_44 rfl rfl (Nat.le_of_ble_eq_true rfl) rfl ?_
        refine pn_iinc (ls' := [.ref 0, .int (l1 + x4), .int (l2 + (1 : Int32))]) dX10_thirstOf_45 rfl (Nat.le_of_ble_eq_true rfl) rfl (congrArg (fun z => l2 + z) ic_1) rfl ?_
        refine pn_goto (pc' := 4) dX10_thirstOf_48 rfl ?_
        exact ih (l1 + x4) (l2 + (1 : Int32))

set_option maxRecDepth 20000 in
set_option maxHeartbeats 4000000 in
theorem ct_X10_thirstOf (Γ : pn_G)  (σ : pn_S) : ∀ r, fX10_thirstOf  σ = some r → pn_C Γ 2 mX10_thirstOf [.ref 0] σ ((pn_p σ) r) := by
  refine pn_of (ls := [.ref 0, .null, .null]) (by decide) rfl (pn_cat rfl) rfl (Nat.le_of_ble_eq_true rfl) ?_
  rw [fX10_thirstOf]
  refine pn_iconst dX10_thirstOf_0 rfl ic_0 ?_
  refine pn_istore_n (ls' := [.ref 0, .int (0 : Int32), .null]) dX10_thirstOf_1 rfl rfl (Nat.le_of_ble_eq_true rfl) rfl ?_
  refine pn_iconst dX10_thirstOf_2 rfl ic_0 ?_
  refine pn_istore_n (ls' := [.ref 0, .int (0 : Int32), .int (0 : Int32)]) dX10_thirstOf_3 rfl rfl (Nat.le_of_ble_eq_true rfl) rfl ?_
  exact wX10_thirstOf_4 Γ σ 5000 (0 : Int32) (0 : Int32)

set_option maxRecDepth 20000 in
set_option maxHeartbeats 4000000 in
theorem ct_X1_put (Γ : pn_G) (a1 : Int32) (a2 : Int32) (a3 : Int32) (a4 : Int32) (σ : pn_S) : ∀ r, fX1_put a1 a2 a3 a4 σ = some r → pn_C Γ 1 mX1_put [.ref 81, .int a1, .int a2, .int a3, .int a4] σ (pn_v r) := by
  refine pn_of (ls := [.ref 81, .int a1, .int a2, .int a3, .int a4, .null]) (by decide) rfl (pn_cat rfl) rfl (Nat.le_of_ble_eq_true rfl) ?_
  rw [fX1_put]
  refine pn_iconst dX1_put_0 rfl ic_2 ?_
  refine pn_iload_n dX1_put_1 rfl rfl rfl ?_
  refine pn_imul dX1_put_2 rfl ?_
  refine pn_iload_n dX1_put_3 rfl rfl rfl ?_
  refine pn_iadd dX1_put_4 rfl ?_
  refine pn_istore (ls' := [.ref 81, .int a1, .int a2, .int a3, .int a4, .int (((2 : Int32) * a1) + a2)]) dX1_put_5 rfl (Nat.le_of_ble_eq_true rfl) rfl ?_
  refine pn_iload dX1_put_7 rfl rfl ?_
  refine pn_if_lt (tgt := 36) dX1_put_9 rfl rfl (fun c1 => ?_) (fun c1 => ?_)
  · exact pn_vretv dX1_put_36 rfl rfl
  · refine pn_iload dX1_put_12 rfl rfl ?_
    refine pn_bipush dX1_put_14 rfl bc_6 ?_
    refine pn_icmp_ge (tgt := 36) dX1_put_16 rfl rfl (fun c2 => ?_) (fun c2 => ?_)
    · exact pn_vretv dX1_put_36 rfl rfl
    · refine pn_aload_n dX1_put_19 rfl rfl rfl ?_
      refine pn_geta dX1_put_20 rfl lf_X1_9_1 qt_81 qk_81 qr_81_0 qt_82 ?_
      refine pn_iload dX1_put_23 rfl rfl ?_
      refine pn_iload_n dX1_put_25 rfl rfl rfl ?_
      refine pn_iast dX1_put_26 rfl qt_82 qk_82 ql_82 ?_
      refine pn_aload_n dX1_put_27 rfl rfl rfl ?_
      refine pn_geta dX1_put_28 rfl lf_X1_15_1 qt_81 qk_81 qr_81_1 qt_83 ?_
      refine pn_iload dX1_put_31 rfl rfl ?_
      refine pn_iload dX1_put_33 rfl rfl ?_
      refine pn_iast dX1_put_35 rfl qt_83 qk_83 ql_83 ?_
      exact pn_vretv dX1_put_36 rfl rfl

set_option maxRecDepth 20000 in
set_option maxHeartbeats 4000000 in
theorem wX1_leastLoss_11 (Γ : pn_G)  (σ : pn_S) : ∀ (n9 : Nat) (l1 : Int32) (l2 : Int32) (l3 : Int32), pn_W9 Γ 2 mX1_leastLoss (pn_p σ) 11 [.ref 81, .int l1, .int l2, .int l3] [] σ (fX1_leastLoss_11 n9 l1 l2 l3 σ) := by
  intro n9
  induction n9 with
  | zero => intro l1 l2 l3; exact pn_none
  | succ n9 ih =>
    intro l1 l2 l3
    rw [fX1_leastLoss_11]
    refine pn_iload_n dX1_leastLoss_11 rfl rfl rfl ?_
    refine pn_iconst dX1_leastLoss_12 rfl ic_3 ?_
    refine pn_icmp_ge (tgt := 39) dX1_leastLoss_13 rfl rfl (fun c1 => ?_) (fun c1 => ?_)
    · refine pn_iload_n dX1_leastLoss_39 rfl rfl rfl ?_
      exact pn_iretv dX1_leastLoss_40 rfl rfl rfl
    · refine pn_iload_n dX1_leastLoss_16 rfl rfl rfl ?_
      refine pn_aload_n dX1_leastLoss_17 rfl rfl rfl ?_
      refine pn_geta dX1_leastLoss_18 rfl lf_X1_9_1 qt_81 qk_81 qr_81_0 qt_82 ?_
      refine pn_iconst dX1_leastLoss_21 rfl ic_2 ?_
      refine pn_iload_n dX1_leastLoss_22 rfl rfl rfl ?_
      refine pn_imul dX1_leastLoss_23 rfl ?_
      refine pn_iload_n dX1_leastLoss_24 rfl rfl rfl ?_
      refine pn_iconst dX1_leastLoss_25 rfl ic_1 ?_
      refine pn_iand dX1_leastLoss_26 rfl ?_
      refine pn_iadd dX1_leastLoss_27 rfl ?_
      refine pn_iald dX1_leastLoss_28 rfl qt_82 qk_82 ql_82 ?_
      refine pn_cp (fun r9 h9 => pn_LKS dX1_leastLoss_29 lm_X1_22 (ct_J9_min_7cf53 Γ l2 (σ 82 (Int32.toNatClampNeg (((2 : Int32) * l3) + (l1 &&& (1 : Int32))))) σ r9 h9) (by decide) rfl rfl (Nat.le_of_ble_eq_true rfl)) rfl (fun x2 => ?_)
      refine pn_istore_n (ls' := [.ref 81, .int l1, .int x2, .int l3]) dX1_leastLoss_32 rfl rfl (Nat.le_of_ble_eq_true rfl) rfl ?_
      refine pn_iinc (ls' := [.ref 81, .int l1, .int x2, .int (l3 + (1 : Int32))]) dX1_leastLoss_33 rfl (Nat.le_of_ble_eq_true rfl) rfl (congrArg (fun z => l3 + z) ic_1) rfl ?_
      refine pn_goto (pc' := 11) dX1_leastLoss_36 rfl ?_
      exact ih l1 x2 (l3 + (1 : Int32))

set_option maxRecDepth 20000 in
set_option maxHeartbeats 4000000 in
theorem ct_X1_leastLoss (Γ : pn_G) (a1 : Int32) (σ : pn_S) : ∀ r, fX1_leastLoss a1 σ = some r → pn_C Γ 2 mX1_leastLoss [.ref 81, .int a1] σ ((pn_p σ) r) := by
  refine pn_of (ls := [.ref 81, .int a1, .null, .null]) (by decide) rfl (pn_cat rfl) rfl (Nat.le_of_ble_eq_true rfl) ?_
  rw [fX1_leastLoss]
  refine pn_aload_n dX1_leastLoss_0 rfl rfl rfl ?_
  refine pn_geta dX1_leastLoss_1 rfl lf_X1_9_1 qt_81 qk_81 qr_81_0 qt_82 ?_
  refine pn_iload_n dX1_leastLoss_4 rfl rfl rfl ?_
  refine pn_iconst dX1_leastLoss_5 rfl ic_1 ?_
  refine pn_iand dX1_leastLoss_6 rfl ?_
  refine pn_iald dX1_leastLoss_7 rfl qt_82 qk_82 ql_82 ?_
  refine pn_istore_n (ls' := [.ref 81, .int a1, .int (σ 82 (Int32.toNatClampNeg (a1 &&& (1 : Int32)))), .null]) dX1_leastLoss_8 rfl rfl (Nat.le_of_ble_eq_true rfl) rfl ?_
  refine pn_iconst dX1_leastLoss_9 rfl ic_1 ?_
  refine pn_istore_n (ls' := [.ref 81, .int a1, .int (σ 82 (Int32.toNatClampNeg (a1 &&& (1 : Int32)))), .int (1 : Int32)]) dX1_leastLoss_10 rfl rfl (Nat.le_of_ble_eq_true rfl) rfl ?_
  exact wX1_leastLoss_11 Γ σ 5000 a1 (σ 82 (Int32.toNatClampNeg (a1 &&& (1 : Int32)))) (1 : Int32)

set_option maxRecDepth 20000 in
set_option maxHeartbeats 4000000 in
theorem wX1_restingCells_4 (Γ : pn_G)  (σ : pn_S) : ∀ (n9 : Nat) (l1 : Int32) (l2 : Int32), pn_W9 Γ 3 mX1_restingCells (pn_p σ) 4 [.ref 81, .int l1, .int l2] [] σ (fX1_restingCells_4 n9 l1 l2 σ) := by
  intro n9
  induction n9 with
  | zero => intro l1 l2; exact pn_none
  | succ n9 ih =>
    intro l1 l2
    rw [fX1_restingCells_4]
    refine pn_iload_n dX1_restingCells_4 rfl rfl rfl ?_
    refine pn_bipush dX1_restingCells_5 rfl bc_6 ?_
    refine pn_icmp_ge (tgt := 55) dX1_restingCells_7 rfl rfl (fun c1 => ?_) (fun c1 => ?_)
    · refine pn_iload_n dX1_restingCells_55 rfl rfl rfl ?_
      exact pn_iretv dX1_restingCells_56 rfl rfl rfl
    · refine pn_aload_n dX1_restingCells_10 rfl rfl rfl ?_
      refine pn_geta dX1_restingCells_11 rfl lf_X1_9_1 qt_81 qk_81 qr_81_0 qt_82 ?_
      refine pn_iload_n dX1_restingCells_14 rfl rfl rfl ?_
      refine pn_iald dX1_restingCells_15 rfl qt_82 qk_82 ql_82 ?_
      refine pn_aload_n dX1_restingCells_16 rfl rfl rfl ?_
      refine pn_iload_n dX1_restingCells_17 rfl rfl rfl ?_
      refine pn_iconst dX1_restingCells_18 rfl ic_2 ?_
      refine pn_iremc dX1_restingCells_19 rfl (by decide) ?_
      refine pn_cp (fun r9 h9 => pn_LKV dX1_restingCells_20 lm_X1_18 (ct_X1_leastLoss Γ (l2 - l2 / (2 : Int32) * (2 : Int32)) σ r9 h9) (by decide) qt_81 qk_81 rfl rfl (Nat.le_of_ble_eq_true rfl)) rfl (fun x2 => ?_)
      refine pn_icmp_ne (tgt := 49) dX1_restingCells_23 rfl rfl (fun c3 => ?_) (fun c3 => ?_)
      · refine pn_aload_n dX1_restingCells_26 rfl rfl rfl ?_
        refine pn_geta dX1_restingCells_27 rfl lf_X1_15_1 qt_81 qk_81 qr_81_1 qt_83 ?_
        refine pn_iload_n dX1_restingCells_30 rfl rfl rfl ?_
        refine pn_iald dX1_restingCells_31 rfl qt_83 qk_83 ql_83 ?_
        refine pn_aload_n dX1_restingCells_32 rfl rfl rfl ?_
        refine pn_geta dX1_restingCells_33 rfl lf_X1_15_1 qt_81 qk_81 qr_81_1 qt_83 ?_
        refine pn_iload_n dX1_restingCells_36 rfl rfl rfl ?_
        refine pn_iconst dX1_restingCells_37 rfl ic_1 ?_
        refine pn_ixor dX1_restingCells_38 rfl ?_
        refine pn_iald dX1_restingCells_39 rfl qt_83 qk_83 ql_83 ?_
        refine pn_icmp_lt (tgt := 49) dX1_restingCells_40 rfl rfl (fun c4 => ?_) (fun c4 => ?_)
        · refine pn_iinc (ls' := [.ref 81, .int l1, .int (l2 + (1 : Int32))]) dX1_restingCells_49 rfl (Nat.le_of_ble_eq_true rfl) rfl (congrArg (fun z => l2 + z) ic_1) rfl ?_
          refine pn_goto (pc' := 4) dX1_restingCells_52 rfl ?_
          exact ih l1 (l2 + (1 : Int32))
        · refine pn_iload_n dX1_restingCells_43 rfl rfl rfl ?_
          refine pn_iconst dX1_restingCells_44 rfl ic_1 ?_
          refine pn_iload_n dX1_restingCells_45 rfl rfl rfl ?_
          refine pn_ishl dX1_restingCells_46 rfl ?_
          refine pn_ior dX1_restingCells_47 rfl ?_
          refine pn_istore_n (ls' := [.ref 81, .int (l1 ||| ((1 : Int32) <<< (l2 &&& 31))), .int l2]) dX1_restingCells_48 rfl rfl (Nat.le_of_ble_eq_true rfl) rfl ?_
          refine pn_iinc (ls' := [.ref 81, .int (l1 ||| ((1 : Int32) <<< (l2 &&& 31))), .int (l2 + (1 : Int32))]) dX1_restingCells_49 rfl (Nat.le_of_ble_eq_true rfl) rfl (congrArg (fun z => l2 + z) ic_1) rfl ?_
          refine pn_goto (pc' := 4) dX1_restingCells_52 rfl ?_
          exact ih (l1 ||| ((1 : Int32) <<< (l2 &&& 31))) (l2 + (1 : Int32))
      · refine pn_iinc (ls' := [.ref 81, .int l1, .int (l2 + (1 : Int32))]) dX1_restingCells_49 rfl (Nat.le_of_ble_eq_true rfl) rfl (congrArg (fun z => l2 + z) ic_1) rfl ?_
        refine pn_goto (pc' := 4) dX1_restingCells_52 rfl ?_
        exact ih l1 (l2 + (1 : Int32))

set_option maxRecDepth 20000 in
set_option maxHeartbeats 4000000 in
theorem ct_X1_restingCells (Γ : pn_G)  (σ : pn_S) : ∀ r, fX1_restingCells  σ = some r → pn_C Γ 3 mX1_restingCells [.ref 81] σ ((pn_p σ) r) := by
  refine pn_of (ls := [.ref 81, .null, .null]) (by decide) rfl (pn_cat rfl) rfl (Nat.le_of_ble_eq_true rfl) ?_
  rw [fX1_restingCells]
  refine pn_iconst dX1_restingCells_0 rfl ic_0 ?_
  refine pn_istore_n (ls' := [.ref 81, .int (0 : Int32), .null]) dX1_restingCells_1 rfl rfl (Nat.le_of_ble_eq_true rfl) rfl ?_
  refine pn_iconst dX1_restingCells_2 rfl ic_0 ?_
  refine pn_istore_n (ls' := [.ref 81, .int (0 : Int32), .int (0 : Int32)]) dX1_restingCells_3 rfl rfl (Nat.le_of_ble_eq_true rfl) rfl ?_
  exact wX1_restingCells_4 Γ σ 5000 (0 : Int32) (0 : Int32)

