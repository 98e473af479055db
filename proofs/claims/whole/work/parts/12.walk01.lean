set_option maxRecDepth 20000 in
set_option maxHeartbeats 4000000 in
theorem ct_X8_aim (Γ : pn_G) (v0 : Nat) (hv0 : pn_isV v0) (a1 : Int32) (σ : pn_S) : ∀ r, fX8_aim v0 a1 σ = some r → pn_C Γ 1 mX8_aim [.ref v0, .int a1] σ (pn_v r) := by
  refine pn_of (ls := [.ref v0, .int a1]) (by decide) rfl (pn_cat rfl) rfl (Nat.le_of_ble_eq_true rfl) ?_
  rw [fX8_aim]
  refine pn_aload_n dX8_aim_0 rfl rfl rfl ?_
  refine pn_iload_n dX8_aim_1 rfl rfl rfl ?_
  refine pn_puti dX8_aim_2 rfl lf_X8_25_7 (fpi_7_4 a1) hv0.1.1 hv0.1.2 (pn_RVi hv0.1.2 (by decide)) ?_
  refine pn_aload_n dX8_aim_5 rfl rfl rfl ?_
  refine pn_iconst dX8_aim_6 rfl ic_0 ?_
  refine pn_puti dX8_aim_7 rfl lf_X8_28_7 (fpi_7_5 (0 : Int32)) hv0.1.1 hv0.1.2 (pn_RVi hv0.1.2 (by decide)) ?_
  exact pn_vretv dX8_aim_10 rfl rfl

set_option maxRecDepth 20000 in
set_option maxHeartbeats 4000000 in
theorem ct_X9_readTarget (Γ : pn_G)  (σ : pn_S) : ∀ r, fX9_readTarget  σ = some r → pn_C Γ 4 mX9_readTarget [.ref 35] σ (pn_i r) := by
  refine pn_of (ls := [.ref 35, .null]) (by decide) rfl (pn_cat rfl) rfl (Nat.le_of_ble_eq_true rfl) ?_
  rw [fX9_readTarget]
  refine pn_aload_n dX9_readTarget_0 rfl rfl rfl ?_
  refine pn_geta dX9_readTarget_1 rfl lf_X9_15_8 qt_35 qk_35 qr_35_0 qt_1 ?_
  refine pn_sipush dX9_readTarget_4 rfl sc_1010 ?_
  refine pn_aload_n dX9_readTarget_7 rfl rfl rfl ?_
  refine pn_geta dX9_readTarget_8 rfl lf_X9_9_8 qt_35 qk_35 qr_35_1 qt_8 ?_
  refine pn_geti dX9_readTarget_11 rfl lf_X9_41_7 qt_8 qk_8 qr_8_2 ?_
  refine pn_iconst dX9_readTarget_14 rfl ic_1 ?_
  refine pn_isub dX9_readTarget_15 rfl ?_
  refine pn_ci (fun r9 h9 => pn_LKV dX9_readTarget_16 lm_X9_54 (ct_X7_takeNumberAfter Γ (1010 : Int32) ((σ 8 2) - (1 : Int32)) σ r9 h9) (by decide) qt_1 qk_1 rfl rfl (Nat.le_of_ble_eq_true rfl)) rfl (fun x1 σ1 => ?_)
  refine pn_istore_n (ls' := [.ref 35, .int x1]) dX9_readTarget_19 rfl rfl (Nat.le_of_ble_eq_true rfl) rfl ?_
  refine pn_aload_n dX9_readTarget_20 rfl rfl rfl ?_
  refine pn_geta dX9_readTarget_21 rfl lf_X9_15_8 qt_35 qk_35 qr_35_0 qt_1 ?_
  refine pn_geti dX9_readTarget_24 rfl lf_X9_58_6 qt_1 qk_1 qr_1_7 ?_
  refine pn_iconst dX9_readTarget_27 rfl ic_m1 ?_
  refine pn_icmp_eq (tgt := 33) dX9_readTarget_28 rfl rfl (fun c2 => ?_) (fun c2 => ?_)
  · refine pn_aload_n dX9_readTarget_33 rfl rfl rfl ?_
    refine pn_geta dX9_readTarget_34 rfl lf_X9_9_8 qt_35 qk_35 qr_35_1 qt_8 ?_
    refine pn_iload_n dX9_readTarget_37 rfl rfl rfl ?_
    refine pn_cv (fun r9 h9 => pn_LKV dX9_readTarget_38 lm_X9_72 (ct_X8_aim Γ 8 qv_8 x1 σ1 r9 h9) (by decide) qt_8 qk_8 rfl rfl (Nat.le_of_ble_eq_true rfl)) rfl (fun σ3 => ?_)
    refine pn_iconst dX9_readTarget_41 rfl ic_1 ?_
    exact pn_iretv dX9_readTarget_42 rfl rfl rfl
  · refine pn_iconst dX9_readTarget_31 rfl ic_0 ?_
    exact pn_iretv dX9_readTarget_32 rfl rfl rfl

set_option maxRecDepth 20000 in
set_option maxHeartbeats 4000000 in
theorem wX9_readSetting_159 (Γ : pn_G)   (σ : pn_S) : pn_W9 Γ 4 mX9_readSetting pn_i 159 [.ref 35] [] σ (fX9_readSetting_159  σ) := by
  rw [fX9_readSetting_159]
  refine pn_aload_n dX9_readSetting_159 rfl rfl rfl ?_
  refine pn_geta dX9_readSetting_160 rfl lf_X9_15_8 qt_35 qk_35 qr_35_0 qt_1 ?_
  refine pn_geti dX9_readSetting_163 rfl lf_X9_58_6 qt_1 qk_1 qr_1_7 ?_
  refine pn_iconst dX9_readSetting_166 rfl ic_m1 ?_
  refine pn_icmp_ne (tgt := 174) dX9_readSetting_167 rfl rfl (fun c4 => ?_) (fun c4 => ?_)
  · refine pn_iconst dX9_readSetting_170 rfl ic_1 ?_
    refine pn_goto (pc' := 175) dX9_readSetting_171 rfl ?_
    exact pn_iretv dX9_readSetting_175 rfl rfl rfl
  · refine pn_iconst dX9_readSetting_174 rfl ic_0 ?_
    exact pn_iretv dX9_readSetting_175 rfl rfl rfl

set_option maxRecDepth 20000 in
set_option maxHeartbeats 4000000 in
theorem ct_X9_readSetting (Γ : pn_G)  (σ : pn_S) : ∀ r, fX9_readSetting  σ = some r → pn_C Γ 4 mX9_readSetting [.ref 35] σ (pn_i r) := by
  refine pn_of (ls := [.ref 35]) (by decide) rfl (pn_cat rfl) rfl (Nat.le_of_ble_eq_true rfl) ?_
  rw [fX9_readSetting]
  refine pn_aload_n dX9_readSetting_0 rfl rfl rfl ?_
  refine pn_geta dX9_readSetting_1 rfl lf_X9_15_8 qt_35 qk_35 qr_35_0 qt_1 ?_
  refine pn_cp (fun r9 h9 => pn_LKV dX9_readSetting_4 lm_X9_19 (ct_X7_nextThing Γ σ r9 h9) (by decide) qt_1 qk_1 rfl rfl (Nat.le_of_ble_eq_true rfl)) rfl (fun x1 => ?_)
  refine pn_tabc (v := (1011 : Int32)) (tgt := 40) (off := 33) dX9_readSetting_7 (by decide) (by decide) (by decide) rfl (fun c2 => ?_) (fun c2 => ?_)
  · refine pn_aload_n dX9_readSetting_40 rfl rfl rfl ?_
    refine pn_geta dX9_readSetting_41 rfl lf_X9_9_8 qt_35 qk_35 qr_35_1 qt_8 ?_
    refine pn_aload_n dX9_readSetting_44 rfl rfl rfl ?_
    refine pn_geta dX9_readSetting_45 rfl lf_X9_15_8 qt_35 qk_35 qr_35_0 qt_1 ?_
    refine pn_sipush dX9_readSetting_48 rfl sc_1011 ?_
    refine pn_bipush dX9_readSetting_51 rfl bc_100 ?_
    refine pn_ci (fun r9 h9 => pn_LKV dX9_readSetting_53 lm_X9_54 (ct_X7_takeNumberAfter Γ (1011 : Int32) (100 : Int32) σ r9 h9) (by decide) qt_1 qk_1 rfl rfl (Nat.le_of_ble_eq_true rfl)) rfl (fun x3 σ3 => ?_)
    refine pn_puti dX9_readSetting_56 rfl lf_X9_76_7 (fpi_7_8 x3) qt_8 qk_8 qr_8_8 ?_
    refine pn_goto (pc' := 159) dX9_readSetting_59 rfl ?_
    exact wX9_readSetting_159 Γ (pn_up σ3 8 8 x3)
  refine pn_tabc (v := (1012 : Int32)) (tgt := 62) (off := 55) dX9_readSetting_7 (by decide) (by decide) (by decide) rfl (fun c5 => ?_) (fun c5 => ?_)
  · refine pn_aload_n dX9_readSetting_62 rfl rfl rfl ?_
    refine pn_geta dX9_readSetting_63 rfl lf_X9_9_8 qt_35 qk_35 qr_35_1 qt_8 ?_
    refine pn_aload_n dX9_readSetting_66 rfl rfl rfl ?_
    refine pn_geta dX9_readSetting_67 rfl lf_X9_15_8 qt_35 qk_35 qr_35_0 qt_1 ?_
    refine pn_sipush dX9_readSetting_70 rfl sc_1012 ?_
    refine pn_bipush dX9_readSetting_73 rfl bc_100 ?_
    refine pn_ci (fun r9 h9 => pn_LKV dX9_readSetting_75 lm_X9_54 (ct_X7_takeNumberAfter Γ (1012 : Int32) (100 : Int32) σ r9 h9) (by decide) qt_1 qk_1 rfl rfl (Nat.le_of_ble_eq_true rfl)) rfl (fun x6 σ6 => ?_)
    refine pn_puti dX9_readSetting_78 rfl lf_X9_79_7 (fpi_7_9 x6) qt_8 qk_8 qr_8_9 ?_
    refine pn_goto (pc' := 159) dX9_readSetting_81 rfl ?_
    exact wX9_readSetting_159 Γ (pn_up σ6 8 9 x6)
  refine pn_tabc (v := (1013 : Int32)) (tgt := 84) (off := 77) dX9_readSetting_7 (by decide) (by decide) (by decide) rfl (fun c7 => ?_) (fun c7 => ?_)
  · refine pn_aload_n dX9_readSetting_84 rfl rfl rfl ?_
    refine pn_geta dX9_readSetting_85 rfl lf_X9_9_8 qt_35 qk_35 qr_35_1 qt_8 ?_
    refine pn_aload_n dX9_readSetting_88 rfl rfl rfl ?_
    refine pn_geta dX9_readSetting_89 rfl lf_X9_15_8 qt_35 qk_35 qr_35_0 qt_1 ?_
    refine pn_sipush dX9_readSetting_92 rfl sc_1013 ?_
    refine pn_bipush dX9_readSetting_95 rfl bc_30 ?_
    refine pn_ci (fun r9 h9 => pn_LKV dX9_readSetting_97 lm_X9_54 (ct_X7_takeNumberAfter Γ (1013 : Int32) (30 : Int32) σ r9 h9) (by decide) qt_1 qk_1 rfl rfl (Nat.le_of_ble_eq_true rfl)) rfl (fun x8 σ8 => ?_)
    refine pn_puti dX9_readSetting_100 rfl lf_X9_82_7 (fpi_7_10 x8) qt_8 qk_8 qr_8_10 ?_
    refine pn_goto (pc' := 159) dX9_readSetting_103 rfl ?_
    exact wX9_readSetting_159 Γ (pn_up σ8 8 10 x8)
  refine pn_tabc (v := (1014 : Int32)) (tgt := 106) (off := 99) dX9_readSetting_7 (by decide) (by decide) (by decide) rfl (fun c9 => ?_) (fun c9 => ?_)
  · refine pn_aload_n dX9_readSetting_106 rfl rfl rfl ?_
    refine pn_geta dX9_readSetting_107 rfl lf_X9_9_8 qt_35 qk_35 qr_35_1 qt_8 ?_
    refine pn_aload_n dX9_readSetting_110 rfl rfl rfl ?_
    refine pn_geta dX9_readSetting_111 rfl lf_X9_15_8 qt_35 qk_35 qr_35_0 qt_1 ?_
    refine pn_sipush dX9_readSetting_114 rfl sc_1014 ?_
    refine pn_bipush dX9_readSetting_117 rfl bc_20 ?_
    refine pn_ci (fun r9 h9 => pn_LKV dX9_readSetting_119 lm_X9_54 (ct_X7_takeNumberAfter Γ (1014 : Int32) (20 : Int32) σ r9 h9) (by decide) qt_1 qk_1 rfl rfl (Nat.le_of_ble_eq_true rfl)) rfl (fun x10 σ10 => ?_)
    refine pn_puti dX9_readSetting_122 rfl lf_X9_85_7 (fpi_7_11 x10) qt_8 qk_8 qr_8_11 ?_
    refine pn_goto (pc' := 159) dX9_readSetting_125 rfl ?_
    exact wX9_readSetting_159 Γ (pn_up σ10 8 11 x10)
  refine pn_tabc (v := (1015 : Int32)) (tgt := 128) (off := 121) dX9_readSetting_7 (by decide) (by decide) (by decide) rfl (fun c11 => ?_) (fun c11 => ?_)
  · refine pn_aload_n dX9_readSetting_128 rfl rfl rfl ?_
    refine pn_geta dX9_readSetting_129 rfl lf_X9_9_8 qt_35 qk_35 qr_35_1 qt_8 ?_
    refine pn_aload_n dX9_readSetting_132 rfl rfl rfl ?_
    refine pn_geta dX9_readSetting_133 rfl lf_X9_15_8 qt_35 qk_35 qr_35_0 qt_1 ?_
    refine pn_sipush dX9_readSetting_136 rfl sc_1015 ?_
    refine pn_sipush dX9_readSetting_139 rfl sc_999 ?_
    refine pn_ci (fun r9 h9 => pn_LKV dX9_readSetting_142 lm_X9_54 (ct_X7_takeNumberAfter Γ (1015 : Int32) (999 : Int32) σ r9 h9) (by decide) qt_1 qk_1 rfl rfl (Nat.le_of_ble_eq_true rfl)) rfl (fun x12 σ12 => ?_)
    refine pn_puti dX9_readSetting_145 rfl lf_X9_88_7 (fpi_7_6 x12) qt_8 qk_8 qr_8_6 ?_
    refine pn_goto (pc' := 159) dX9_readSetting_148 rfl ?_
    exact wX9_readSetting_159 Γ (pn_up σ12 8 6 x12)
  refine pn_tabd (tgt := 151) [(1011 : Int32), (1012 : Int32), (1013 : Int32), (1014 : Int32), (1015 : Int32)] dX9_readSetting_7 (by decide) (by decide) rfl (pn_an c2 (pn_an c5 (pn_an c7 (pn_an c9 (pn_an c11 pn_a0))))) ?_
  refine pn_aload_n dX9_readSetting_151 rfl rfl rfl ?_
  refine pn_geta dX9_readSetting_152 rfl lf_X9_15_8 qt_35 qk_35 qr_35_0 qt_1 ?_
  refine pn_ci (fun r9 h9 => pn_LKV dX9_readSetting_155 lm_X9_51 (ct_X7_fail Γ σ r9 h9) (by decide) qt_1 qk_1 rfl rfl (Nat.le_of_ble_eq_true rfl)) rfl (fun x13 σ13 => ?_)
  exact pn_iretb dX9_readSetting_158 rfl rfl

set_option maxRecDepth 20000 in
set_option maxHeartbeats 4000000 in
theorem ct_X9_readLine (Γ : pn_G)  (σ : pn_S) : ∀ r, fX9_readLine  σ = some r → pn_C Γ 5 mX9_readLine [.ref 35] σ (pn_i r) := by
  refine pn_of (ls := [.ref 35]) (by decide) rfl (pn_cat rfl) rfl (Nat.le_of_ble_eq_true rfl) ?_
  rw [fX9_readLine]
  refine pn_aload_n dX9_readLine_0 rfl rfl rfl ?_
  refine pn_geta dX9_readLine_1 rfl lf_X9_15_8 qt_35 qk_35 qr_35_0 qt_1 ?_
  refine pn_cp (fun r9 h9 => pn_LKV dX9_readLine_4 lm_X9_19 (ct_X7_nextThing Γ σ r9 h9) (by decide) qt_1 qk_1 rfl rfl (Nat.le_of_ble_eq_true rfl)) rfl (fun x1 => ?_)
  refine pn_lokc (v := (1000 : Int32)) (tgt := 48) 41 dX9_readLine_7 (by decide) (by decide) rfl (fun c2 => ?_) (fun c2 => ?_)
  · refine pn_aload_n dX9_readLine_48 rfl rfl rfl ?_
    refine pn_ci (fun r9 h9 => pn_LKV dX9_readLine_49 lm_X9_25 (ct_X9_readPerson Γ σ r9 h9) (by decide) qt_35 qk_35 rfl rfl (Nat.le_of_ble_eq_true rfl)) rfl (fun x3 σ3 => ?_)
    exact pn_iretb dX9_readLine_52 rfl rfl
  refine pn_lokc (v := (1007 : Int32)) (tgt := 53) 46 dX9_readLine_7 (by decide) (by decide) rfl (fun c4 => ?_) (fun c4 => ?_)
  · refine pn_aload_n dX9_readLine_53 rfl rfl rfl ?_
    refine pn_ci (fun r9 h9 => pn_LKV dX9_readLine_54 lm_X9_29 (ct_X9_readWrong Γ σ r9 h9) (by decide) qt_35 qk_35 rfl rfl (Nat.le_of_ble_eq_true rfl)) rfl (fun x5 σ5 => ?_)
    exact pn_iretb dX9_readLine_57 rfl rfl
  refine pn_lokc (v := (1008 : Int32)) (tgt := 58) 51 dX9_readLine_7 (by decide) (by decide) rfl (fun c6 => ?_) (fun c6 => ?_)
  · refine pn_aload_n dX9_readLine_58 rfl rfl rfl ?_
    refine pn_ci (fun r9 h9 => pn_LKV dX9_readLine_59 lm_X9_32 (ct_X9_readFeud Γ σ r9 h9) (by decide) qt_35 qk_35 rfl rfl (Nat.le_of_ble_eq_true rfl)) rfl (fun x7 σ7 => ?_)
    exact pn_iretb dX9_readLine_62 rfl rfl
  refine pn_lokc (v := (1010 : Int32)) (tgt := 63) 56 dX9_readLine_7 (by decide) (by decide) rfl (fun c8 => ?_) (fun c8 => ?_)
  · refine pn_aload_n dX9_readLine_63 rfl rfl rfl ?_
    refine pn_ci (fun r9 h9 => pn_LKV dX9_readLine_64 lm_X9_35 (ct_X9_readTarget Γ σ r9 h9) (by decide) qt_35 qk_35 rfl rfl (Nat.le_of_ble_eq_true rfl)) rfl (fun x9 σ9 => ?_)
    exact pn_iretb dX9_readLine_67 rfl rfl
  refine pn_lokd (tgt := 68) (off := 61) dX9_readLine_7 (by decide) (by show Op.lookupswitch.offset [(1000, 41), (1007, 46), (1008, 51), (1010, 56)] 61 (Int32.toInt x1) = 61; rw [lv_osw (k := (1000 : Int32)) c2 (by decide), lv_osw (k := (1007 : Int32)) c4 (by decide), lv_osw (k := (1008 : Int32)) c6 (by decide), lv_osw (k := (1010 : Int32)) c8 (by decide)]; rfl) rfl ?_
  refine pn_aload_n dX9_readLine_68 rfl rfl rfl ?_
  refine pn_ci (fun r9 h9 => pn_LKV dX9_readLine_69 lm_X9_38 (ct_X9_readSetting Γ σ r9 h9) (by decide) qt_35 qk_35 rfl rfl (Nat.le_of_ble_eq_true rfl)) rfl (fun x10 σ10 => ?_)
  exact pn_iretb dX9_readLine_72 rfl rfl

set_option maxRecDepth 20000 in
set_option maxHeartbeats 4000000 in
theorem wX2_addLine_49 (Γ : pn_G) (w0 : Nat) (hw0 : pn_isW w0)  (σ : pn_S) : pn_W9 Γ 1 mX2_addLine pn_v 49 [.ref w0, .null, .null] [] σ (fX2_addLine_49 w0  σ) := by
  rw [fX2_addLine_49]
  refine pn_aload_n dX2_addLine_49 rfl rfl rfl ?_
  refine pn_dupa dX2_addLine_50 rfl ?_
  refine pn_geti dX2_addLine_51 rfl lf_X2_30_2 hw0.1.1 hw0.1.2 (pn_RWi hw0.1.2 (by decide)) ?_
  refine pn_iconst dX2_addLine_54 rfl ic_1 ?_
  refine pn_iadd dX2_addLine_55 rfl ?_
  refine pn_puti dX2_addLine_56 rfl lf_X2_30_2 (fpi_2_6 ((σ w0 6) + (1 : Int32))) hw0.1.1 hw0.1.2 (pn_RWi hw0.1.2 (by decide)) ?_
  refine pn_aload_n dX2_addLine_59 rfl rfl rfl ?_
  refine pn_geta dX2_addLine_60 rfl lf_X2_18_2 hw0.1.1 hw0.1.2 (pn_RW2 hw0.1.2) hw0.2.2.2.1.1 ?_
  refine pn_aload_n dX2_addLine_63 rfl rfl rfl ?_
  refine pn_geti dX2_addLine_64 rfl lf_X2_30_2 hw0.1.1 hw0.1.2 (pn_RWi hw0.1.2 (by decide)) ?_
  refine pn_aload_n dX2_addLine_67 rfl rfl rfl ?_
  refine pn_geti dX2_addLine_68 rfl lf_X2_34_2 hw0.1.1 hw0.1.2 (pn_RWi hw0.1.2 (by decide)) ?_
  refine pn_iast dX2_addLine_71 rfl hw0.2.2.2.1.1 hw0.2.2.2.1.2.1 hw0.2.2.2.1.2.2 ?_
  exact pn_vretv dX2_addLine_72 rfl rfl

set_option maxRecDepth 20000 in
set_option maxHeartbeats 4000000 in
theorem ct_X2_addLine (Γ : pn_G) (w0 : Nat) (hw0 : pn_isW w0) (a1 : Int32) (a2 : Int32) (σ : pn_S) : ∀ r, fX2_addLine w0 a1 a2 σ = some r → pn_C Γ 1 mX2_addLine [.ref w0, .int a1, .int a2] σ (pn_v r) := by
  refine pn_of (ls := [.ref w0, .int a1, .int a2]) (by decide) rfl (pn_cat rfl) rfl (Nat.le_of_ble_eq_true rfl) ?_
  rw [fX2_addLine]
  refine pn_aload_n dX2_addLine_0 rfl rfl rfl ?_
  refine pn_geti dX2_addLine_1 rfl lf_X2_30_2 hw0.1.1 hw0.1.2 (pn_RWi hw0.1.2 (by decide)) ?_
  refine pn_if_lt (tgt := 72) dX2_addLine_4 rfl rfl (fun c1 => ?_) (fun c1 => ?_)
  · exact pn_vretv dX2_addLine_72 rfl rfl
  · refine pn_aload_n dX2_addLine_7 rfl rfl rfl ?_
    refine pn_geti dX2_addLine_8 rfl lf_X2_30_2 hw0.1.1 hw0.1.2 (pn_RWi hw0.1.2 (by decide)) ?_
    refine pn_bipush dX2_addLine_11 rfl bc_12 ?_
    refine pn_icmp_ge (tgt := 72) dX2_addLine_13 rfl rfl (fun c2 => ?_) (fun c2 => ?_)
    · exact pn_vretv dX2_addLine_72 rfl rfl
    · refine pn_aload_n dX2_addLine_16 rfl rfl rfl ?_
      refine pn_geta dX2_addLine_17 rfl lf_X2_9_2 hw0.1.1 hw0.1.2 (pn_RW0 hw0.1.2) hw0.2.1.1 ?_
      refine pn_aload_n dX2_addLine_20 rfl rfl rfl ?_
      refine pn_geti dX2_addLine_21 rfl lf_X2_30_2 hw0.1.1 hw0.1.2 (pn_RWi hw0.1.2 (by decide)) ?_
      refine pn_iload_n dX2_addLine_24 rfl rfl rfl ?_
      refine pn_iast dX2_addLine_25 rfl hw0.2.1.1 hw0.2.1.2.1 hw0.2.1.2.2 ?_
      refine pn_aload_n dX2_addLine_26 rfl rfl rfl ?_
      refine pn_geta dX2_addLine_27 rfl lf_X2_15_2 hw0.1.1 hw0.1.2 (pn_RW1 hw0.1.2) hw0.2.2.1.1 ?_
      refine pn_aload_n dX2_addLine_30 rfl rfl rfl ?_
      refine pn_geti dX2_addLine_31 rfl lf_X2_30_2 hw0.1.1 hw0.1.2 (pn_RWi hw0.1.2 (by decide)) ?_
      refine pn_iload_n dX2_addLine_34 rfl rfl rfl ?_
      refine pn_iast dX2_addLine_35 rfl hw0.2.2.1.1 hw0.2.2.1.2.1 hw0.2.2.1.2.2 ?_
      refine pn_aload_n dX2_addLine_36 rfl rfl rfl ?_
      refine pn_geta dX2_addLine_37 rfl lf_X2_18_2 hw0.1.1 hw0.1.2 (pn_RW2 hw0.1.2) hw0.2.2.2.1.1 ?_
      refine pn_aload_n dX2_addLine_40 rfl rfl rfl ?_
      refine pn_geti dX2_addLine_41 rfl lf_X2_30_2 hw0.1.1 hw0.1.2 (pn_RWi hw0.1.2 (by decide)) ?_
      refine pn_aload_n dX2_addLine_44 rfl rfl rfl ?_
      refine pn_geti dX2_addLine_45 rfl lf_X2_34_2 hw0.1.1 hw0.1.2 (pn_RWi hw0.1.2 (by decide)) ?_
      refine pn_iast dX2_addLine_48 rfl hw0.2.2.2.1.1 hw0.2.2.2.1.2.1 hw0.2.2.2.1.2.2 ?_
      exact pn_wk (pn_leC rfl (pn_leN (pn_leN pn_le0))) (wX2_addLine_49 Γ w0 hw0 (pn_up (pn_up (pn_up σ (w0 + 1) (Int32.toNatClampNeg (σ w0 6)) a1) (w0 + 2) (Int32.toNatClampNeg ((pn_up σ (w0 + 1) (Int32.toNatClampNeg (σ w0 6)) a1) w0 6)) a2) (w0 + 3) (Int32.toNatClampNeg ((pn_up (pn_up σ (w0 + 1) (Int32.toNatClampNeg (σ w0 6)) a1) (w0 + 2) (Int32.toNatClampNeg ((pn_up σ (w0 + 1) (Int32.toNatClampNeg (σ w0 6)) a1) w0 6)) a2) w0 6)) ((pn_up (pn_up σ (w0 + 1) (Int32.toNatClampNeg (σ w0 6)) a1) (w0 + 2) (Int32.toNatClampNeg ((pn_up σ (w0 + 1) (Int32.toNatClampNeg (σ w0 6)) a1) w0 6)) a2) w0 7)))

set_option maxRecDepth 20000 in
set_option maxHeartbeats 4000000 in
theorem wX2_addCode_59 (Γ : pn_G) (w0 : Nat) (hw0 : pn_isW w0)  (σ : pn_S) : pn_W9 Γ 1 mX2_addCode pn_v 59 [.null, .null] [] σ (fX2_addCode_59 w0  σ) := by
  rw [fX2_addCode_59]
  exact pn_vretv dX2_addCode_59 rfl rfl

set_option maxRecDepth 20000 in
set_option maxHeartbeats 4000000 in
theorem ct_X2_addCode (Γ : pn_G) (w0 : Nat) (hw0 : pn_isW w0) (a1 : Int32) (σ : pn_S) : ∀ r, fX2_addCode w0 a1 σ = some r → pn_C Γ 1 mX2_addCode [.ref w0, .int a1] σ (pn_v r) := by
  refine pn_of (ls := [.ref w0, .int a1]) (by decide) rfl (pn_cat rfl) rfl (Nat.le_of_ble_eq_true rfl) ?_
  rw [fX2_addCode]
  refine pn_aload_n dX2_addCode_0 rfl rfl rfl ?_
  refine pn_geti dX2_addCode_1 rfl lf_X2_30_2 hw0.1.1 hw0.1.2 (pn_RWi hw0.1.2 (by decide)) ?_
  refine pn_if_le (tgt := 59) dX2_addCode_4 rfl rfl (fun c1 => ?_) (fun c1 => ?_)
  · exact pn_vretv dX2_addCode_59 rfl rfl
  · refine pn_aload_n dX2_addCode_7 rfl rfl rfl ?_
    refine pn_geti dX2_addCode_8 rfl lf_X2_30_2 hw0.1.1 hw0.1.2 (pn_RWi hw0.1.2 (by decide)) ?_
    refine pn_bipush dX2_addCode_11 rfl bc_12 ?_
    refine pn_icmp_gt (tgt := 59) dX2_addCode_13 rfl rfl (fun c2 => ?_) (fun c2 => ?_)
    · exact pn_vretv dX2_addCode_59 rfl rfl
    · refine pn_aload_n dX2_addCode_16 rfl rfl rfl ?_
      refine pn_geti dX2_addCode_17 rfl lf_X2_34_2 hw0.1.1 hw0.1.2 (pn_RWi hw0.1.2 (by decide)) ?_
      refine pn_sipush dX2_addCode_20 rfl sc_400 ?_
      refine pn_icmp_ge (tgt := 59) dX2_addCode_23 rfl rfl (fun c3 => ?_) (fun c3 => ?_)
      · exact pn_vretv dX2_addCode_59 rfl rfl
      · refine pn_aload_n dX2_addCode_26 rfl rfl rfl ?_
        refine pn_geta dX2_addCode_27 rfl lf_X2_21_2 hw0.1.1 hw0.1.2 (pn_RW3 hw0.1.2) hw0.2.2.2.2.1.1 ?_
        refine pn_aload_n dX2_addCode_30 rfl rfl rfl ?_
        refine pn_geti dX2_addCode_31 rfl lf_X2_34_2 hw0.1.1 hw0.1.2 (pn_RWi hw0.1.2 (by decide)) ?_
        refine pn_iload_n dX2_addCode_34 rfl rfl rfl ?_
        refine pn_iast dX2_addCode_35 rfl hw0.2.2.2.2.1.1 hw0.2.2.2.2.1.2.1 hw0.2.2.2.2.1.2.2 ?_
        refine pn_aload_n dX2_addCode_36 rfl rfl rfl ?_
        refine pn_dupa dX2_addCode_37 rfl ?_
        refine pn_geti dX2_addCode_38 rfl lf_X2_34_2 hw0.1.1 hw0.1.2 (pn_RWi hw0.1.2 (by decide)) ?_
        refine pn_iconst dX2_addCode_41 rfl ic_1 ?_
        refine pn_iadd dX2_addCode_42 rfl ?_
        refine pn_puti dX2_addCode_43 rfl lf_X2_34_2 (fpi_2_7 (((pn_up σ (w0 + 4) (Int32.toNatClampNeg (σ w0 7)) a1) w0 7) + (1 : Int32))) hw0.1.1 hw0.1.2 (pn_RWi hw0.1.2 (by decide)) ?_
        refine pn_aload_n dX2_addCode_46 rfl rfl rfl ?_
        refine pn_geta dX2_addCode_47 rfl lf_X2_18_2 hw0.1.1 hw0.1.2 (pn_RW2 hw0.1.2) hw0.2.2.2.1.1 ?_
        refine pn_aload_n dX2_addCode_50 rfl rfl rfl ?_
        refine pn_geti dX2_addCode_51 rfl lf_X2_30_2 hw0.1.1 hw0.1.2 (pn_RWi hw0.1.2 (by decide)) ?_
        refine pn_aload_n dX2_addCode_54 rfl rfl rfl ?_
        refine pn_geti dX2_addCode_55 rfl lf_X2_34_2 hw0.1.1 hw0.1.2 (pn_RWi hw0.1.2 (by decide)) ?_
        refine pn_iast dX2_addCode_58 rfl hw0.2.2.2.1.1 hw0.2.2.2.1.2.1 hw0.2.2.2.1.2.2 ?_
        exact pn_wk (pn_leN (pn_leN pn_le0)) (wX2_addCode_59 Γ w0 hw0 (pn_up (pn_up (pn_up σ (w0 + 4) (Int32.toNatClampNeg (σ w0 7)) a1) w0 7 (((pn_up σ (w0 + 4) (Int32.toNatClampNeg (σ w0 7)) a1) w0 7) + (1 : Int32))) (w0 + 3) (Int32.toNatClampNeg ((pn_up (pn_up σ (w0 + 4) (Int32.toNatClampNeg (σ w0 7)) a1) w0 7 (((pn_up σ (w0 + 4) (Int32.toNatClampNeg (σ w0 7)) a1) w0 7) + (1 : Int32))) w0 6)) ((pn_up (pn_up σ (w0 + 4) (Int32.toNatClampNeg (σ w0 7)) a1) w0 7 (((pn_up σ (w0 + 4) (Int32.toNatClampNeg (σ w0 7)) a1) w0 7) + (1 : Int32))) w0 7)))

set_option maxRecDepth 20000 in
set_option maxHeartbeats 4000000 in
theorem ct_X3_isSumPart (Γ : pn_G) (a0 : Int32) (σ : pn_S) : ∀ r, fX3_isSumPart a0 σ = some r → pn_C Γ 1 mX3_isSumPart [.int a0] σ ((pn_p σ) r) := by
  refine pn_of (ls := [.int a0]) (by decide) rfl (pn_cat rfl) rfl (Nat.le_of_ble_eq_true rfl) ?_
  rw [fX3_isSumPart]
  refine pn_iload_n dX3_isSumPart_0 rfl rfl rfl ?_
  refine pn_tabc (v := (1002 : Int32)) (tgt := 116) (off := 115) dX3_isSumPart_1 (by decide) (by decide) (by decide) rfl (fun c1 => ?_) (fun c1 => ?_)
  · refine pn_iconst dX3_isSumPart_116 rfl ic_1 ?_
    exact pn_iretv dX3_isSumPart_117 rfl rfl rfl
  refine pn_tabc (v := (1004 : Int32)) (tgt := 116) (off := 115) dX3_isSumPart_1 (by decide) (by decide) (by decide) rfl (fun c2 => ?_) (fun c2 => ?_)
  · refine pn_iconst dX3_isSumPart_116 rfl ic_1 ?_
    exact pn_iretv dX3_isSumPart_117 rfl rfl rfl
  refine pn_tabc (v := (1007 : Int32)) (tgt := 116) (off := 115) dX3_isSumPart_1 (by decide) (by decide) (by decide) rfl (fun c3 => ?_) (fun c3 => ?_)
  · refine pn_iconst dX3_isSumPart_116 rfl ic_1 ?_
    exact pn_iretv dX3_isSumPart_117 rfl rfl rfl
  refine pn_tabc (v := (1015 : Int32)) (tgt := 116) (off := 115) dX3_isSumPart_1 (by decide) (by decide) (by decide) rfl (fun c4 => ?_) (fun c4 => ?_)
  · refine pn_iconst dX3_isSumPart_116 rfl ic_1 ?_
    exact pn_iretv dX3_isSumPart_117 rfl rfl rfl
  refine pn_tabc (v := (1024 : Int32)) (tgt := 116) (off := 115) dX3_isSumPart_1 (by decide) (by decide) (by decide) rfl (fun c5 => ?_) (fun c5 => ?_)
  · refine pn_iconst dX3_isSumPart_116 rfl ic_1 ?_
    exact pn_iretv dX3_isSumPart_117 rfl rfl rfl
  refine pn_tabc (v := (1025 : Int32)) (tgt := 116) (off := 115) dX3_isSumPart_1 (by decide) (by decide) (by decide) rfl (fun c6 => ?_) (fun c6 => ?_)
  · refine pn_iconst dX3_isSumPart_116 rfl ic_1 ?_
    exact pn_iretv dX3_isSumPart_117 rfl rfl rfl
  refine pn_tabc (v := (1026 : Int32)) (tgt := 116) (off := 115) dX3_isSumPart_1 (by decide) (by decide) (by decide) rfl (fun c7 => ?_) (fun c7 => ?_)
  · refine pn_iconst dX3_isSumPart_116 rfl ic_1 ?_
    exact pn_iretv dX3_isSumPart_117 rfl rfl rfl
  refine pn_tabd (tgt := 118) [(1002 : Int32), (1004 : Int32), (1007 : Int32), (1015 : Int32), (1024 : Int32), (1025 : Int32), (1026 : Int32)] dX3_isSumPart_1 (by decide) (by decide) rfl (pn_an c1 (pn_an c2 (pn_an c3 (pn_an c4 (pn_an c5 (pn_an c6 (pn_an c7 pn_a0))))))) ?_
  refine pn_iload_n dX3_isSumPart_118 rfl rfl rfl ?_
  refine pn_sipush dX3_isSumPart_119 rfl sc_999 ?_
  refine pn_icmp_gt (tgt := 129) dX3_isSumPart_122 rfl rfl (fun c8 => ?_) (fun c8 => ?_)
  · refine pn_iconst dX3_isSumPart_129 rfl ic_0 ?_
    exact pn_iretv dX3_isSumPart_130 rfl rfl rfl
  · refine pn_iconst dX3_isSumPart_125 rfl ic_1 ?_
    refine pn_goto (pc' := 130) dX3_isSumPart_126 rfl ?_
    exact pn_iretv dX3_isSumPart_130 rfl rfl rfl

set_option maxRecDepth 20000 in
set_option maxHeartbeats 4000000 in
theorem wX3_readSum_37 (Γ : pn_G)   (σ : pn_S) : pn_W9 Γ 2 mX3_readSum pn_i 37 [.ref 36, .null, .null, .null] [] σ (fX3_readSum_37  σ) := by
  rw [fX3_readSum_37]
  refine pn_aload_n dX3_readSum_37 rfl rfl rfl ?_
  refine pn_geta dX3_readSum_38 rfl lf_X3_15_3 qt_36 qk_36 qr_36_0 qt_1 ?_
  refine pn_ci (fun r9 h9 => pn_LKV dX3_readSum_41 lm_X3_25 (ct_X7_fail Γ σ r9 h9) (by decide) qt_1 qk_1 rfl rfl (Nat.le_of_ble_eq_true rfl)) rfl (fun x6 σ6 => ?_)
  exact pn_iretb dX3_readSum_44 rfl rfl

set_option maxRecDepth 20000 in
set_option maxHeartbeats 4000000 in
theorem wX3_readSum_67 (Γ : pn_G)  (rec4 : Int32 → Int32 → pn_S → Option (Int32 × pn_S)) (hrec4 : ∀ (l1 : Int32) (l2 : Int32) (σ : pn_S), pn_W9 Γ 2 mX3_readSum pn_i 4 [.ref 36, .int l1, .int l2, .null] [] σ (rec4 l1 l2 σ)) (l2 : Int32) (σ : pn_S) : pn_W9 Γ 2 mX3_readSum pn_i 67 [.ref 36, .null, .int l2, .null] [] σ (fX3_readSum_67 rec4 l2 σ) := by
  rw [fX3_readSum_67]
  refine pn_aload_n dX3_readSum_67 rfl rfl rfl ?_
  refine pn_geta dX3_readSum_68 rfl lf_X3_15_3 qt_36 qk_36 qr_36_0 qt_1 ?_
  refine pn_sipush dX3_readSum_71 rfl sc_2043 ?_
  refine pn_ci (fun r9 h9 => pn_LKV dX3_readSum_74 lm_X3_39 (ct_X7_take Γ (2043 : Int32) σ r9 h9) (by decide) qt_1 qk_1 rfl rfl (Nat.le_of_ble_eq_true rfl)) rfl (fun x11 σ11 => ?_)
  refine pn_istore_n (ls' := [.ref 36, .int x11, .int l2, .null]) dX3_readSum_77 rfl rfl (Nat.le_of_ble_eq_true rfl) rfl ?_
  refine pn_iload_n dX3_readSum_78 rfl rfl rfl ?_
  refine pn_if_ne (tgt := 84) dX3_readSum_79 rfl rfl (fun c12 => ?_) (fun c12 => ?_)
  · refine pn_iconst dX3_readSum_82 rfl ic_1 ?_
    exact pn_iretv dX3_readSum_83 rfl rfl rfl
  · refine pn_iinc (ls' := [.ref 36, .int x11, .int (l2 + (1 : Int32)), .null]) dX3_readSum_84 rfl (Nat.le_of_ble_eq_true rfl) rfl (congrArg (fun z => l2 + z) ic_1) rfl ?_
    refine pn_goto (pc' := 4) dX3_readSum_87 rfl ?_
    exact hrec4 x11 (l2 + (1 : Int32)) σ11

set_option maxRecDepth 20000 in
set_option maxHeartbeats 4000000 in
theorem wX3_readSum_4 (Γ : pn_G)  : ∀ (n9 : Nat) (l1 : Int32) (l2 : Int32) (σ : pn_S), pn_W9 Γ 2 mX3_readSum pn_i 4 [.ref 36, .int l1, .int l2, .null] [] σ (fX3_readSum_4 n9 l1 l2 σ) := by
  intro n9
  induction n9 with
  | zero => intro l1 l2 σ; exact pn_none
  | succ n9 ih =>
    intro l1 l2 σ
    rw [fX3_readSum_4]
    refine pn_iload_n dX3_readSum_4 rfl rfl rfl ?_
    refine pn_sipush dX3_readSum_5 rfl sc_400 ?_
    refine pn_icmp_ge (tgt := 90) dX3_readSum_8 rfl rfl (fun c1 => ?_) (fun c1 => ?_)
    · refine pn_aload_n dX3_readSum_90 rfl rfl rfl ?_
      refine pn_geta dX3_readSum_91 rfl lf_X3_15_3 qt_36 qk_36 qr_36_0 qt_1 ?_
      refine pn_ci (fun r9 h9 => pn_LKV dX3_readSum_94 lm_X3_25 (ct_X7_fail Γ σ r9 h9) (by decide) qt_1 qk_1 rfl rfl (Nat.le_of_ble_eq_true rfl)) rfl (fun x2 σ2 => ?_)
      exact pn_iretb dX3_readSum_97 rfl rfl
    · refine pn_aload_n dX3_readSum_11 rfl rfl rfl ?_
      refine pn_geta dX3_readSum_12 rfl lf_X3_15_3 qt_36 qk_36 qr_36_0 qt_1 ?_
      refine pn_cp (fun r9 h9 => pn_LKV dX3_readSum_15 lm_X3_19 (ct_X7_nextThing Γ σ r9 h9) (by decide) qt_1 qk_1 rfl rfl (Nat.le_of_ble_eq_true rfl)) rfl (fun x3 => ?_)
      refine pn_istore_n (ls' := [.ref 36, .int l1, .int l2, .int x3]) dX3_readSum_18 rfl rfl (Nat.le_of_ble_eq_true rfl) rfl ?_
      refine pn_iload_n dX3_readSum_19 rfl rfl rfl ?_
      refine pn_cp (fun r9 h9 => pn_LKS dX3_readSum_20 lm_X3_59 (ct_X3_isSumPart Γ x3 σ r9 h9) (by decide) rfl rfl (Nat.le_of_ble_eq_true rfl)) rfl (fun x4 => ?_)
      refine pn_if_eq (tgt := 37) dX3_readSum_23 rfl rfl (fun c5 => ?_) (fun c5 => ?_)
      · exact pn_wk (pn_leC rfl (pn_leN (pn_leN (pn_leN pn_le0)))) (wX3_readSum_37 Γ σ)
      · refine pn_aload_n dX3_readSum_26 rfl rfl rfl ?_
        refine pn_geta dX3_readSum_27 rfl lf_X3_15_3 qt_36 qk_36 qr_36_0 qt_1 ?_
        refine pn_iload_n dX3_readSum_30 rfl rfl rfl ?_
        refine pn_ci (fun r9 h9 => pn_LKV dX3_readSum_31 lm_X3_39 (ct_X7_take Γ x3 σ r9 h9) (by decide) qt_1 qk_1 rfl rfl (Nat.le_of_ble_eq_true rfl)) rfl (fun x7 σ7 => ?_)
        refine pn_if_ne (tgt := 45) dX3_readSum_34 rfl rfl (fun c8 => ?_) (fun c8 => ?_)
        · exact pn_wk (pn_leC rfl (pn_leN (pn_leN (pn_leN pn_le0)))) (wX3_readSum_37 Γ σ7)
        · refine pn_aload_n dX3_readSum_45 rfl rfl rfl ?_
          refine pn_geta dX3_readSum_46 rfl lf_X3_9_3 qt_36 qk_36 qr_36_1 qt_21 ?_
          refine pn_iload_n dX3_readSum_49 rfl rfl rfl ?_
          refine pn_cv (fun r9 h9 => pn_LKV dX3_readSum_50 lm_X3_49 (ct_X2_addCode Γ 21 qw_21 x3 σ7 r9 h9) (by decide) qt_21 qk_21 rfl rfl (Nat.le_of_ble_eq_true rfl)) rfl (fun σ9 => ?_)
          refine pn_iload_n dX3_readSum_53 rfl rfl rfl ?_
          refine pn_if_eq (tgt := 67) dX3_readSum_54 rfl rfl (fun c10 => ?_) (fun c10 => ?_)
          · exact pn_wk (pn_leC rfl (pn_leN (pn_leC rfl (pn_leN pn_le0)))) (wX3_readSum_67 Γ (fX3_readSum_4 n9) (ih) l2 σ9)
          · refine pn_aload_n dX3_readSum_57 rfl rfl rfl ?_
            refine pn_geta dX3_readSum_58 rfl lf_X3_9_3 qt_36 qk_36 qr_36_1 qt_21 ?_
            refine pn_sipush dX3_readSum_61 rfl sc_2043 ?_
            refine pn_cv (fun r9 h9 => pn_LKV dX3_readSum_64 lm_X3_49 (ct_X2_addCode Γ 21 qw_21 (2043 : Int32) σ9 r9 h9) (by decide) qt_21 qk_21 rfl rfl (Nat.le_of_ble_eq_true rfl)) rfl (fun σ13 => ?_)
            exact pn_wk (pn_leC rfl (pn_leN (pn_leC rfl (pn_leN pn_le0)))) (wX3_readSum_67 Γ (fX3_readSum_4 n9) (ih) l2 σ13)

set_option maxRecDepth 20000 in
set_option maxHeartbeats 4000000 in
theorem ct_X3_readSum (Γ : pn_G)  (σ : pn_S) : ∀ r, fX3_readSum  σ = some r → pn_C Γ 2 mX3_readSum [.ref 36] σ (pn_i r) := by
  refine pn_of (ls := [.ref 36, .null, .null, .null]) (by decide) rfl (pn_cat rfl) rfl (Nat.le_of_ble_eq_true rfl) ?_
  rw [fX3_readSum]
  refine pn_iconst dX3_readSum_0 rfl ic_0 ?_
  refine pn_istore_n (ls' := [.ref 36, .int (0 : Int32), .null, .null]) dX3_readSum_1 rfl rfl (Nat.le_of_ble_eq_true rfl) rfl ?_
  refine pn_iconst dX3_readSum_2 rfl ic_0 ?_
  refine pn_istore_n (ls' := [.ref 36, .int (0 : Int32), .int (0 : Int32), .null]) dX3_readSum_3 rfl rfl (Nat.le_of_ble_eq_true rfl) rfl ?_
  exact wX3_readSum_4 Γ 5000 (0 : Int32) (0 : Int32) σ

set_option maxRecDepth 20000 in
set_option maxHeartbeats 4000000 in
theorem wX3_readComparison_42 (Γ : pn_G)   (σ : pn_S) : pn_W9 Γ 3 mX3_readComparison pn_i 42 [.ref 36, .null, .null] [] σ (fX3_readComparison_42  σ) := by
  rw [fX3_readComparison_42]
  refine pn_aload_n dX3_readComparison_42 rfl rfl rfl ?_
  refine pn_geta dX3_readComparison_43 rfl lf_X3_15_3 qt_36 qk_36 qr_36_0 qt_1 ?_
  refine pn_ci (fun r9 h9 => pn_LKV dX3_readComparison_46 lm_X3_25 (ct_X7_fail Γ σ r9 h9) (by decide) qt_1 qk_1 rfl rfl (Nat.le_of_ble_eq_true rfl)) rfl (fun x7 σ7 => ?_)
  exact pn_iretb dX3_readComparison_49 rfl rfl

set_option maxRecDepth 20000 in
set_option maxHeartbeats 4000000 in
theorem wX3_readComparison_31 (Γ : pn_G)  (l1 : Int32) (σ : pn_S) : pn_W9 Γ 3 mX3_readComparison pn_i 31 [.ref 36, .int l1, .null] [] σ (fX3_readComparison_31 l1 σ) := by
  rw [fX3_readComparison_31]
  refine pn_aload_n dX3_readComparison_31 rfl rfl rfl ?_
  refine pn_geta dX3_readComparison_32 rfl lf_X3_15_3 qt_36 qk_36 qr_36_0 qt_1 ?_
  refine pn_iload_n dX3_readComparison_35 rfl rfl rfl ?_
  refine pn_ci (fun r9 h9 => pn_LKV dX3_readComparison_36 lm_X3_39 (ct_X7_take Γ l1 σ r9 h9) (by decide) qt_1 qk_1 rfl rfl (Nat.le_of_ble_eq_true rfl)) rfl (fun x5 σ5 => ?_)
  refine pn_if_ne (tgt := 50) dX3_readComparison_39 rfl rfl (fun c6 => ?_) (fun c6 => ?_)
  · exact pn_wk (pn_leC rfl (pn_leN (pn_leN pn_le0))) (wX3_readComparison_42 Γ σ5)
  · refine pn_aload_n dX3_readComparison_50 rfl rfl rfl ?_
    refine pn_ci (fun r9 h9 => pn_LKV dX3_readComparison_51 lm_X3_56 (ct_X3_readSum Γ σ5 r9 h9) (by decide) qt_36 qk_36 rfl rfl (Nat.le_of_ble_eq_true rfl)) rfl (fun x8 σ8 => ?_)
    refine pn_istore_n (ls' := [.ref 36, .int l1, .int x8]) dX3_readComparison_54 rfl rfl (Nat.le_of_ble_eq_true rfl) rfl ?_
    refine pn_aload_n dX3_readComparison_55 rfl rfl rfl ?_
    refine pn_geta dX3_readComparison_56 rfl lf_X3_9_3 qt_36 qk_36 qr_36_1 qt_21 ?_
    refine pn_iload_n dX3_readComparison_59 rfl rfl rfl ?_
    refine pn_cv (fun r9 h9 => pn_LKV dX3_readComparison_60 lm_X3_49 (ct_X2_addCode Γ 21 qw_21 l1 σ8 r9 h9) (by decide) qt_21 qk_21 rfl rfl (Nat.le_of_ble_eq_true rfl)) rfl (fun σ9 => ?_)
    refine pn_iload_n dX3_readComparison_63 rfl rfl rfl ?_
    exact pn_iretb dX3_readComparison_64 rfl rfl

set_option maxRecDepth 20000 in
set_option maxHeartbeats 4000000 in
theorem ct_X3_readComparison (Γ : pn_G)  (σ : pn_S) : ∀ r, fX3_readComparison  σ = some r → pn_C Γ 3 mX3_readComparison [.ref 36] σ (pn_i r) := by
  refine pn_of (ls := [.ref 36, .null, .null]) (by decide) rfl (pn_cat rfl) rfl (Nat.le_of_ble_eq_true rfl) ?_
  rw [fX3_readComparison]
  refine pn_aload_n dX3_readComparison_0 rfl rfl rfl ?_
  refine pn_ci (fun r9 h9 => pn_LKV dX3_readComparison_1 lm_X3_56 (ct_X3_readSum Γ σ r9 h9) (by decide) qt_36 qk_36 rfl rfl (Nat.le_of_ble_eq_true rfl)) rfl (fun x1 σ1 => ?_)
  refine pn_if_ne (tgt := 9) dX3_readComparison_4 rfl rfl (fun c2 => ?_) (fun c2 => ?_)
  · refine pn_iconst dX3_readComparison_7 rfl ic_0 ?_
    exact pn_iretv dX3_readComparison_8 rfl rfl rfl
  · refine pn_aload_n dX3_readComparison_9 rfl rfl rfl ?_
    refine pn_geta dX3_readComparison_10 rfl lf_X3_15_3 qt_36 qk_36 qr_36_0 qt_1 ?_
    refine pn_cp (fun r9 h9 => pn_LKV dX3_readComparison_13 lm_X3_19 (ct_X7_nextThing Γ σ1 r9 h9) (by decide) qt_1 qk_1 rfl rfl (Nat.le_of_ble_eq_true rfl)) rfl (fun x3 => ?_)
    refine pn_istore_n (ls' := [.ref 36, .int x3, .null]) dX3_readComparison_16 rfl rfl (Nat.le_of_ble_eq_true rfl) rfl ?_
    refine pn_iload_n dX3_readComparison_17 rfl rfl rfl ?_
    refine pn_sipush dX3_readComparison_18 rfl sc_2060 ?_
    refine pn_icmp_eq (tgt := 31) dX3_readComparison_21 rfl rfl (fun c4 => ?_) (fun c4 => ?_)
    · exact wX3_readComparison_31 Γ x3 σ1
    · refine pn_iload_n dX3_readComparison_24 rfl rfl rfl ?_
      refine pn_sipush dX3_readComparison_25 rfl sc_2062 ?_
      refine pn_icmp_ne (tgt := 42) dX3_readComparison_28 rfl rfl (fun c10 => ?_) (fun c10 => ?_)
      · exact wX3_readComparison_31 Γ x3 σ1
      · exact pn_wk (pn_leC rfl (pn_leN (pn_leN pn_le0))) (wX3_readComparison_42 Γ σ1)

set_option maxRecDepth 20000 in
set_option maxHeartbeats 4000000 in
theorem wX3_readAtom_154 (Γ : pn_G) (d9 : Nat) (hd9 : 20 ≤ d9) (gC : Int32 → pn_S → Option (Int32 × pn_S)) (hgC : ∀ (a1 : Int32) (σ : pn_S) (r : Int32 × pn_S), gC a1 σ = some r → pn_C Γ d9 mX3_readCondition [.ref 36, .int a1] σ (pn_i r)) (gA : Int32 → pn_S → Option (Int32 × pn_S)) (hgA : ∀ (a1 : Int32) (σ : pn_S) (r : Int32 × pn_S), gA a1 σ = some r → pn_C Γ d9 mX3_readAtom [.ref 36, .int a1] σ (pn_i r)) (l2 : Int32) (σ : pn_S) : pn_W9 Γ (d9 + 1) mX3_readAtom pn_i 154 [.ref 36, .null, .int l2, .null, .null] [] σ (fX3_readAtom_154 gC gA l2 σ) := by
  rw [fX3_readAtom_154]
  refine pn_aload_n dX3_readAtom_154 rfl rfl rfl ?_
  refine pn_geta dX3_readAtom_155 rfl lf_X3_9_3 qt_36 qk_36 qr_36_1 qt_21 ?_
  refine pn_iload_n dX3_readAtom_158 rfl rfl rfl ?_
  refine pn_cv (fun r9 h9 => pn_LKV dX3_readAtom_159 lm_X3_49 (ct_X2_addCode Γ 21 qw_21 l2 σ r9 h9) (by omega) qt_21 qk_21 rfl rfl (Nat.le_of_ble_eq_true rfl)) rfl (fun σ9 => ?_)
  refine pn_aload_n dX3_readAtom_162 rfl rfl rfl ?_
  refine pn_geta dX3_readAtom_163 rfl lf_X3_15_3 qt_36 qk_36 qr_36_0 qt_1 ?_
  refine pn_iload_n dX3_readAtom_166 rfl rfl rfl ?_
  refine pn_ci (fun r9 h9 => pn_LKV dX3_readAtom_167 lm_X3_39 (ct_X7_take Γ l2 σ9 r9 h9) (by omega) qt_1 qk_1 rfl rfl (Nat.le_of_ble_eq_true rfl)) rfl (fun x10 σ10 => ?_)
  exact pn_iretb dX3_readAtom_170 rfl rfl

set_option maxRecDepth 20000 in
set_option maxHeartbeats 4000000 in
theorem wX3_readAtom_46 (Γ : pn_G) (d9 : Nat) (hd9 : 20 ≤ d9) (gC : Int32 → pn_S → Option (Int32 × pn_S)) (hgC : ∀ (a1 : Int32) (σ : pn_S) (r : Int32 × pn_S), gC a1 σ = some r → pn_C Γ d9 mX3_readCondition [.ref 36, .int a1] σ (pn_i r)) (gA : Int32 → pn_S → Option (Int32 × pn_S)) (hgA : ∀ (a1 : Int32) (σ : pn_S) (r : Int32 × pn_S), gA a1 σ = some r → pn_C Γ d9 mX3_readAtom [.ref 36, .int a1] σ (pn_i r)) (l1 : Int32) (l2 : Int32) (σ : pn_S) : pn_W9 Γ (d9 + 1) mX3_readAtom pn_i 46 [.ref 36, .int l1, .int l2, .null, .null] [] σ (fX3_readAtom_46 gC gA l1 l2 σ) := by
  rw [fX3_readAtom_46]
  refine pn_aload_n dX3_readAtom_46 rfl rfl rfl ?_
  refine pn_geta dX3_readAtom_47 rfl lf_X3_15_3 qt_36 qk_36 qr_36_0 qt_1 ?_
  refine pn_sipush dX3_readAtom_50 rfl sc_2040 ?_
  refine pn_ci (fun r9 h9 => pn_LKV dX3_readAtom_53 lm_X3_39 (ct_X7_take Γ (2040 : Int32) σ r9 h9) (by omega) qt_1 qk_1 rfl rfl (Nat.le_of_ble_eq_true rfl)) rfl (fun x4 σ4 => ?_)
  refine pn_if_eq (tgt := 98) dX3_readAtom_56 rfl rfl (fun c5 => ?_) (fun c5 => ?_)
  · refine pn_aload_n dX3_readAtom_98 rfl rfl rfl ?_
    refine pn_geta dX3_readAtom_99 rfl lf_X3_15_3 qt_36 qk_36 qr_36_0 qt_1 ?_
    refine pn_sipush dX3_readAtom_102 rfl sc_1022 ?_
    refine pn_ci (fun r9 h9 => pn_LKV dX3_readAtom_105 lm_X3_39 (ct_X7_take Γ (1022 : Int32) σ4 r9 h9) (by omega) qt_1 qk_1 rfl rfl (Nat.le_of_ble_eq_true rfl)) rfl (fun x6 σ6 => ?_)
    refine pn_if_eq (tgt := 133) dX3_readAtom_108 rfl rfl (fun c7 => ?_) (fun c7 => ?_)
    · refine pn_iload_n dX3_readAtom_133 rfl rfl rfl ?_
      refine pn_sipush dX3_readAtom_134 rfl sc_1008 ?_
      refine pn_icmp_eq (tgt := 154) dX3_readAtom_137 rfl rfl (fun c8 => ?_) (fun c8 => ?_)
      · exact pn_wk (pn_leC rfl (pn_leN (pn_leC rfl (pn_leN (pn_leN pn_le0))))) (wX3_readAtom_154 Γ d9 hd9 gC hgC gA hgA l2 σ6)
      · refine pn_iload_n dX3_readAtom_140 rfl rfl rfl ?_
        refine pn_sipush dX3_readAtom_141 rfl sc_1005 ?_
        refine pn_icmp_eq (tgt := 154) dX3_readAtom_144 rfl rfl (fun c11 => ?_) (fun c11 => ?_)
        · exact pn_wk (pn_leC rfl (pn_leN (pn_leC rfl (pn_leN (pn_leN pn_le0))))) (wX3_readAtom_154 Γ d9 hd9 gC hgC gA hgA l2 σ6)
        · refine pn_iload_n dX3_readAtom_147 rfl rfl rfl ?_
          refine pn_sipush dX3_readAtom_148 rfl sc_1023 ?_
          refine pn_icmp_ne (tgt := 171) dX3_readAtom_151 rfl rfl (fun c12 => ?_) (fun c12 => ?_)
          · exact pn_wk (pn_leC rfl (pn_leN (pn_leC rfl (pn_leN (pn_leN pn_le0))))) (wX3_readAtom_154 Γ d9 hd9 gC hgC gA hgA l2 σ6)
          · refine pn_aload_n dX3_readAtom_171 rfl rfl rfl ?_
            refine pn_ci (fun r9 h9 => pn_LKV dX3_readAtom_172 lm_X3_53 (ct_X3_readComparison Γ σ6 r9 h9) (by omega) qt_36 qk_36 rfl rfl (Nat.le_of_ble_eq_true rfl)) rfl (fun x13 σ13 => ?_)
            exact pn_iretb dX3_readAtom_175 rfl rfl
    · refine pn_aload_n dX3_readAtom_111 rfl rfl rfl ?_
      refine pn_iload_n dX3_readAtom_112 rfl rfl rfl ?_
      refine pn_iconst dX3_readAtom_113 rfl ic_1 ?_
      refine pn_iadd dX3_readAtom_114 rfl ?_
      refine pn_ci (fun r9 h9 => pn_LKV dX3_readAtom_115 lm_X3_46 (hgA (l1 + (1 : Int32)) σ6 r9 h9) (Nat.lt_succ_self d9) qt_36 qk_36 rfl rfl (Nat.le_of_ble_eq_true rfl)) rfl (fun x14 σ14 => ?_)
      refine pn_istore (ls' := [.ref 36, .int l1, .int l2, .null, .int x14]) dX3_readAtom_118 rfl (Nat.le_of_ble_eq_true rfl) rfl ?_
      refine pn_aload_n dX3_readAtom_120 rfl rfl rfl ?_
      refine pn_geta dX3_readAtom_121 rfl lf_X3_9_3 qt_36 qk_36 qr_36_1 qt_21 ?_
      refine pn_sipush dX3_readAtom_124 rfl sc_1022 ?_
      refine pn_cv (fun r9 h9 => pn_LKV dX3_readAtom_127 lm_X3_49 (ct_X2_addCode Γ 21 qw_21 (1022 : Int32) σ14 r9 h9) (by omega) qt_21 qk_21 rfl rfl (Nat.le_of_ble_eq_true rfl)) rfl (fun σ15 => ?_)
      refine pn_iload dX3_readAtom_130 rfl rfl ?_
      exact pn_iretb dX3_readAtom_132 rfl rfl
  · refine pn_aload_n dX3_readAtom_59 rfl rfl rfl ?_
    refine pn_iload_n dX3_readAtom_60 rfl rfl rfl ?_
    refine pn_iconst dX3_readAtom_61 rfl ic_1 ?_
    refine pn_iadd dX3_readAtom_62 rfl ?_
    refine pn_ci (fun r9 h9 => pn_LKV dX3_readAtom_63 lm_X3_43 (hgC (l1 + (1 : Int32)) σ4 r9 h9) (Nat.lt_succ_self d9) qt_36 qk_36 rfl rfl (Nat.le_of_ble_eq_true rfl)) rfl (fun x16 σ16 => ?_)
    refine pn_if_eq (tgt := 96) dX3_readAtom_66 rfl rfl (fun c17 => ?_) (fun c17 => ?_)
    · refine pn_iconst dX3_readAtom_96 rfl ic_0 ?_
      exact pn_iretv dX3_readAtom_97 rfl rfl rfl
    · refine pn_aload_n dX3_readAtom_69 rfl rfl rfl ?_
      refine pn_geta dX3_readAtom_70 rfl lf_X3_15_3 qt_36 qk_36 qr_36_0 qt_1 ?_
      refine pn_sipush dX3_readAtom_73 rfl sc_2041 ?_
      refine pn_ci (fun r9 h9 => pn_LKV dX3_readAtom_76 lm_X3_39 (ct_X7_take Γ (2041 : Int32) σ16 r9 h9) (by omega) qt_1 qk_1 rfl rfl (Nat.le_of_ble_eq_true rfl)) rfl (fun x18 σ18 => ?_)
      refine pn_if_ne (tgt := 92) dX3_readAtom_79 rfl rfl (fun c19 => ?_) (fun c19 => ?_)
      · refine pn_aload_n dX3_readAtom_82 rfl rfl rfl ?_
        refine pn_geta dX3_readAtom_83 rfl lf_X3_15_3 qt_36 qk_36 qr_36_0 qt_1 ?_
        refine pn_ci (fun r9 h9 => pn_LKV dX3_readAtom_86 lm_X3_25 (ct_X7_fail Γ σ18 r9 h9) (by omega) qt_1 qk_1 rfl rfl (Nat.le_of_ble_eq_true rfl)) rfl (fun x20 σ20 => ?_)
        refine pn_if_eq (tgt := 96) dX3_readAtom_89 rfl rfl (fun c21 => ?_) (fun c21 => ?_)
        · refine pn_iconst dX3_readAtom_96 rfl ic_0 ?_
          exact pn_iretv dX3_readAtom_97 rfl rfl rfl
        · refine pn_iconst dX3_readAtom_92 rfl ic_1 ?_
          refine pn_goto (pc' := 97) dX3_readAtom_93 rfl ?_
          exact pn_iretv dX3_readAtom_97 rfl rfl rfl
      · refine pn_iconst dX3_readAtom_92 rfl ic_1 ?_
        refine pn_goto (pc' := 97) dX3_readAtom_93 rfl ?_
        exact pn_iretv dX3_readAtom_97 rfl rfl rfl

set_option maxRecDepth 20000 in
set_option maxHeartbeats 4000000 in
theorem wX3_readAtom_27 (Γ : pn_G) (d9 : Nat) (hd9 : 20 ≤ d9) (gC : Int32 → pn_S → Option (Int32 × pn_S)) (hgC : ∀ (a1 : Int32) (σ : pn_S) (r : Int32 × pn_S), gC a1 σ = some r → pn_C Γ d9 mX3_readCondition [.ref 36, .int a1] σ (pn_i r)) (gA : Int32 → pn_S → Option (Int32 × pn_S)) (hgA : ∀ (a1 : Int32) (σ : pn_S) (r : Int32 × pn_S), gA a1 σ = some r → pn_C Γ d9 mX3_readAtom [.ref 36, .int a1] σ (pn_i r)) (l1 : Int32) (l2 : Int32) (s0 : Int32) (σ : pn_S) : pn_W9 Γ (d9 + 1) mX3_readAtom pn_i 27 [.ref 36, .int l1, .int l2, .null, .null] [.int s0] σ (fX3_readAtom_27 gC gA l1 l2 s0 σ) := by
  rw [fX3_readAtom_27]
  refine pn_istore_n (ls' := [.ref 36, .int l1, .int l2, .int s0, .null]) dX3_readAtom_27 rfl rfl (Nat.le_of_ble_eq_true rfl) rfl ?_
  refine pn_iload_n dX3_readAtom_28 rfl rfl rfl ?_
  refine pn_if_eq (tgt := 46) dX3_readAtom_29 rfl rfl (fun c3 => ?_) (fun c3 => ?_)
  · exact pn_wk (pn_leC rfl (pn_leC rfl (pn_leC rfl (pn_leN (pn_leN pn_le0))))) (wX3_readAtom_46 Γ d9 hd9 gC hgC gA hgA l1 l2 σ)
  · refine pn_iload_n dX3_readAtom_32 rfl rfl rfl ?_
    refine pn_bipush dX3_readAtom_33 rfl bc_6 ?_
    refine pn_icmp_lt (tgt := 46) dX3_readAtom_35 rfl rfl (fun c22 => ?_) (fun c22 => ?_)
    · exact pn_wk (pn_leC rfl (pn_leC rfl (pn_leC rfl (pn_leN (pn_leN pn_le0))))) (wX3_readAtom_46 Γ d9 hd9 gC hgC gA hgA l1 l2 σ)
    · refine pn_aload_n dX3_readAtom_38 rfl rfl rfl ?_
      refine pn_geta dX3_readAtom_39 rfl lf_X3_15_3 qt_36 qk_36 qr_36_0 qt_1 ?_
      refine pn_ci (fun r9 h9 => pn_LKV dX3_readAtom_42 lm_X3_25 (ct_X7_fail Γ σ r9 h9) (by omega) qt_1 qk_1 rfl rfl (Nat.le_of_ble_eq_true rfl)) rfl (fun x23 σ23 => ?_)
      exact pn_iretb dX3_readAtom_45 rfl rfl

set_option maxRecDepth 20000 in
set_option maxHeartbeats 4000000 in
theorem wX3_readAtom_22 (Γ : pn_G) (d9 : Nat) (hd9 : 20 ≤ d9) (gC : Int32 → pn_S → Option (Int32 × pn_S)) (hgC : ∀ (a1 : Int32) (σ : pn_S) (r : Int32 × pn_S), gC a1 σ = some r → pn_C Γ d9 mX3_readCondition [.ref 36, .int a1] σ (pn_i r)) (gA : Int32 → pn_S → Option (Int32 × pn_S)) (hgA : ∀ (a1 : Int32) (σ : pn_S) (r : Int32 × pn_S), gA a1 σ = some r → pn_C Γ d9 mX3_readAtom [.ref 36, .int a1] σ (pn_i r)) (l1 : Int32) (l2 : Int32) (σ : pn_S) : pn_W9 Γ (d9 + 1) mX3_readAtom pn_i 22 [.ref 36, .int l1, .int l2, .null, .null] [] σ (fX3_readAtom_22 gC gA l1 l2 σ) := by
  rw [fX3_readAtom_22]
  refine pn_iconst dX3_readAtom_22 rfl ic_1 ?_
  refine pn_goto (pc' := 27) dX3_readAtom_23 rfl ?_
  exact wX3_readAtom_27 Γ d9 hd9 gC hgC gA hgA l1 l2 (1 : Int32) σ

set_option maxRecDepth 20000 in
set_option maxHeartbeats 4000000 in
theorem ct_X3_readAtom (Γ : pn_G) (d9 : Nat) (hd9 : 20 ≤ d9) (gC : Int32 → pn_S → Option (Int32 × pn_S)) (hgC : ∀ (a1 : Int32) (σ : pn_S) (r : Int32 × pn_S), gC a1 σ = some r → pn_C Γ d9 mX3_readCondition [.ref 36, .int a1] σ (pn_i r)) (gA : Int32 → pn_S → Option (Int32 × pn_S)) (hgA : ∀ (a1 : Int32) (σ : pn_S) (r : Int32 × pn_S), gA a1 σ = some r → pn_C Γ d9 mX3_readAtom [.ref 36, .int a1] σ (pn_i r)) (a1 : Int32) (σ : pn_S) : ∀ r, fX3_readAtom gC gA a1 σ = some r → pn_C Γ (d9 + 1) mX3_readAtom [.ref 36, .int a1] σ (pn_i r) := by
  refine pn_of (ls := [.ref 36, .int a1, .null, .null, .null]) (by decide) rfl (pn_cat rfl) rfl (Nat.le_of_ble_eq_true rfl) ?_
  rw [fX3_readAtom]
  refine pn_aload_n dX3_readAtom_0 rfl rfl rfl ?_
  refine pn_geta dX3_readAtom_1 rfl lf_X3_15_3 qt_36 qk_36 qr_36_0 qt_1 ?_
  refine pn_cp (fun r9 h9 => pn_LKV dX3_readAtom_4 lm_X3_19 (ct_X7_nextThing Γ σ r9 h9) (by omega) qt_1 qk_1 rfl rfl (Nat.le_of_ble_eq_true rfl)) rfl (fun x1 => ?_)
  refine pn_istore_n (ls' := [.ref 36, .int a1, .int x1, .null, .null]) dX3_readAtom_7 rfl rfl (Nat.le_of_ble_eq_true rfl) rfl ?_
  refine pn_iload_n dX3_readAtom_8 rfl rfl rfl ?_
  refine pn_sipush dX3_readAtom_9 rfl sc_1022 ?_
  refine pn_icmp_eq (tgt := 22) dX3_readAtom_12 rfl rfl (fun c2 => ?_) (fun c2 => ?_)
  · exact wX3_readAtom_22 Γ d9 hd9 gC hgC gA hgA a1 x1 σ
  · refine pn_iload_n dX3_readAtom_15 rfl rfl rfl ?_
    refine pn_sipush dX3_readAtom_16 rfl sc_2040 ?_
    refine pn_icmp_ne (tgt := 26) dX3_readAtom_19 rfl rfl (fun c24 => ?_) (fun c24 => ?_)
    · exact wX3_readAtom_22 Γ d9 hd9 gC hgC gA hgA a1 x1 σ
    · refine pn_iconst dX3_readAtom_26 rfl ic_0 ?_
      exact wX3_readAtom_27 Γ d9 hd9 gC hgC gA hgA a1 x1 (0 : Int32) σ

set_option maxRecDepth 20000 in
set_option maxHeartbeats 4000000 in
theorem wX3_readCondition_68 (Γ : pn_G) (d9 : Nat) (hd9 : 20 ≤ d9) (gA : Int32 → pn_S → Option (Int32 × pn_S)) (hgA : ∀ (a1 : Int32) (σ : pn_S) (r : Int32 × pn_S), gA a1 σ = some r → pn_C Γ d9 mX3_readAtom [.ref 36, .int a1] σ (pn_i r)) (rec7 : Int32 → Int32 → Int32 → Int32 → pn_S → Option (Int32 × pn_S)) (hrec7 : ∀ (l1 : Int32) (l2 : Int32) (l3 : Int32) (l4 : Int32) (σ : pn_S), pn_W9 Γ (d9 + 1) mX3_readCondition pn_i 7 [.ref 36, .int l1, .int l2, .int l3, .int l4] [] σ (rec7 l1 l2 l3 l4 σ)) (l1 : Int32) (l3 : Int32) (l4 : Int32) (σ : pn_S) : pn_W9 Γ (d9 + 1) mX3_readCondition pn_i 68 [.ref 36, .int l1, .null, .int l3, .int l4] [] σ (fX3_readCondition_68 gA rec7 l1 l3 l4 σ) := by
  rw [fX3_readCondition_68]
  refine pn_aload_n dX3_readCondition_68 rfl rfl rfl ?_
  refine pn_geta dX3_readCondition_69 rfl lf_X3_15_3 qt_36 qk_36 qr_36_0 qt_1 ?_
  refine pn_sipush dX3_readCondition_72 rfl sc_1020 ?_
  refine pn_ci (fun r9 h9 => pn_LKV dX3_readCondition_75 lm_X3_39 (ct_X7_take Γ (1020 : Int32) σ r9 h9) (by omega) qt_1 qk_1 rfl rfl (Nat.le_of_ble_eq_true rfl)) rfl (fun x9 σ9 => ?_)
  refine pn_istore_n (ls' := [.ref 36, .int l1, .int x9, .int l3, .int l4]) dX3_readCondition_78 rfl rfl (Nat.le_of_ble_eq_true rfl) rfl ?_
  refine pn_iload_n dX3_readCondition_79 rfl rfl rfl ?_
  refine pn_if_ne (tgt := 85) dX3_readCondition_80 rfl rfl (fun c10 => ?_) (fun c10 => ?_)
  · refine pn_iconst dX3_readCondition_83 rfl ic_1 ?_
    exact pn_iretv dX3_readCondition_84 rfl rfl rfl
  · refine pn_iinc (ls' := [.ref 36, .int l1, .int x9, .int l3, .int (l4 + (1 : Int32))]) dX3_readCondition_85 rfl (Nat.le_of_ble_eq_true rfl) rfl (congrArg (fun z => l4 + z) ic_1) rfl ?_
    refine pn_goto (pc' := 7) dX3_readCondition_88 rfl ?_
    exact hrec7 l1 x9 l3 (l4 + (1 : Int32)) σ9

set_option maxRecDepth 20000 in
set_option maxHeartbeats 4000000 in
theorem wX3_readCondition_39 (Γ : pn_G) (d9 : Nat) (hd9 : 20 ≤ d9) (gA : Int32 → pn_S → Option (Int32 × pn_S)) (hgA : ∀ (a1 : Int32) (σ : pn_S) (r : Int32 × pn_S), gA a1 σ = some r → pn_C Γ d9 mX3_readAtom [.ref 36, .int a1] σ (pn_i r)) (rec7 : Int32 → Int32 → Int32 → Int32 → pn_S → Option (Int32 × pn_S)) (hrec7 : ∀ (l1 : Int32) (l2 : Int32) (l3 : Int32) (l4 : Int32) (σ : pn_S), pn_W9 Γ (d9 + 1) mX3_readCondition pn_i 7 [.ref 36, .int l1, .int l2, .int l3, .int l4] [] σ (rec7 l1 l2 l3 l4 σ)) (l1 : Int32) (l2 : Int32) (l4 : Int32) (σ : pn_S) : pn_W9 Γ (d9 + 1) mX3_readCondition pn_i 39 [.ref 36, .int l1, .int l2, .null, .int l4] [] σ (fX3_readCondition_39 gA rec7 l1 l2 l4 σ) := by
  rw [fX3_readCondition_39]
  refine pn_aload_n dX3_readCondition_39 rfl rfl rfl ?_
  refine pn_geta dX3_readCondition_40 rfl lf_X3_15_3 qt_36 qk_36 qr_36_0 qt_1 ?_
  refine pn_sipush dX3_readCondition_43 rfl sc_1021 ?_
  refine pn_ci (fun r9 h9 => pn_LKV dX3_readCondition_46 lm_X3_39 (ct_X7_take Γ (1021 : Int32) σ r9 h9) (by omega) qt_1 qk_1 rfl rfl (Nat.le_of_ble_eq_true rfl)) rfl (fun x6 σ6 => ?_)
  refine pn_istore_n (ls' := [.ref 36, .int l1, .int l2, .int x6, .int l4]) dX3_readCondition_49 rfl rfl (Nat.le_of_ble_eq_true rfl) rfl ?_
  refine pn_iload_n dX3_readCondition_50 rfl rfl rfl ?_
  refine pn_if_ne (tgt := 85) dX3_readCondition_51 rfl rfl (fun c7 => ?_) (fun c7 => ?_)
  · refine pn_iload_n dX3_readCondition_54 rfl rfl rfl ?_
    refine pn_if_eq (tgt := 68) dX3_readCondition_55 rfl rfl (fun c8 => ?_) (fun c8 => ?_)
    · exact pn_wk (pn_leC rfl (pn_leC rfl (pn_leN (pn_leC rfl (pn_leC rfl pn_le0))))) (wX3_readCondition_68 Γ d9 hd9 gA hgA (rec7) (hrec7) l1 x6 l4 σ6)
    · refine pn_aload_n dX3_readCondition_58 rfl rfl rfl ?_
      refine pn_geta dX3_readCondition_59 rfl lf_X3_9_3 qt_36 qk_36 qr_36_1 qt_21 ?_
      refine pn_sipush dX3_readCondition_62 rfl sc_1020 ?_
      refine pn_cv (fun r9 h9 => pn_LKV dX3_readCondition_65 lm_X3_49 (ct_X2_addCode Γ 21 qw_21 (1020 : Int32) σ6 r9 h9) (by omega) qt_21 qk_21 rfl rfl (Nat.le_of_ble_eq_true rfl)) rfl (fun σ11 => ?_)
      exact pn_wk (pn_leC rfl (pn_leC rfl (pn_leN (pn_leC rfl (pn_leC rfl pn_le0))))) (wX3_readCondition_68 Γ d9 hd9 gA hgA (rec7) (hrec7) l1 x6 l4 σ11)
  · refine pn_iinc (ls' := [.ref 36, .int l1, .int l2, .int x6, .int (l4 + (1 : Int32))]) dX3_readCondition_85 rfl (Nat.le_of_ble_eq_true rfl) rfl (congrArg (fun z => l4 + z) ic_1) rfl ?_
    refine pn_goto (pc' := 7) dX3_readCondition_88 rfl ?_
    exact hrec7 l1 l2 x6 (l4 + (1 : Int32)) σ6

set_option maxRecDepth 20000 in
set_option maxHeartbeats 4000000 in
theorem wX3_readCondition_7 (Γ : pn_G) (d9 : Nat) (hd9 : 20 ≤ d9) (gA : Int32 → pn_S → Option (Int32 × pn_S)) (hgA : ∀ (a1 : Int32) (σ : pn_S) (r : Int32 × pn_S), gA a1 σ = some r → pn_C Γ d9 mX3_readAtom [.ref 36, .int a1] σ (pn_i r)) : ∀ (n9 : Nat) (l1 : Int32) (l2 : Int32) (l3 : Int32) (l4 : Int32) (σ : pn_S), pn_W9 Γ (d9 + 1) mX3_readCondition pn_i 7 [.ref 36, .int l1, .int l2, .int l3, .int l4] [] σ (fX3_readCondition_7 gA n9 l1 l2 l3 l4 σ) := by
  intro n9
  induction n9 with
  | zero => intro l1 l2 l3 l4 σ; exact pn_none
  | succ n9 ih =>
    intro l1 l2 l3 l4 σ
    rw [fX3_readCondition_7]
    refine pn_iload dX3_readCondition_7 rfl rfl ?_
    refine pn_sipush dX3_readCondition_9 rfl sc_400 ?_
    refine pn_icmp_ge (tgt := 91) dX3_readCondition_12 rfl rfl (fun c1 => ?_) (fun c1 => ?_)
    · refine pn_aload_n dX3_readCondition_91 rfl rfl rfl ?_
      refine pn_geta dX3_readCondition_92 rfl lf_X3_15_3 qt_36 qk_36 qr_36_0 qt_1 ?_
      refine pn_ci (fun r9 h9 => pn_LKV dX3_readCondition_95 lm_X3_25 (ct_X7_fail Γ σ r9 h9) (by omega) qt_1 qk_1 rfl rfl (Nat.le_of_ble_eq_true rfl)) rfl (fun x2 σ2 => ?_)
      exact pn_iretb dX3_readCondition_98 rfl rfl
    · refine pn_aload_n dX3_readCondition_15 rfl rfl rfl ?_
      refine pn_iload_n dX3_readCondition_16 rfl rfl rfl ?_
      refine pn_ci (fun r9 h9 => pn_LKV dX3_readCondition_17 lm_X3_46 (hgA l1 σ r9 h9) (Nat.lt_succ_self d9) qt_36 qk_36 rfl rfl (Nat.le_of_ble_eq_true rfl)) rfl (fun x3 σ3 => ?_)
      refine pn_if_ne (tgt := 25) dX3_readCondition_20 rfl rfl (fun c4 => ?_) (fun c4 => ?_)
      · refine pn_iconst dX3_readCondition_23 rfl ic_0 ?_
        exact pn_iretv dX3_readCondition_24 rfl rfl rfl
      · refine pn_iload_n dX3_readCondition_25 rfl rfl rfl ?_
        refine pn_if_eq (tgt := 39) dX3_readCondition_26 rfl rfl (fun c5 => ?_) (fun c5 => ?_)
        · exact pn_wk (pn_leC rfl (pn_leC rfl (pn_leC rfl (pn_leN (pn_leC rfl pn_le0))))) (wX3_readCondition_39 Γ d9 hd9 gA hgA (fX3_readCondition_7 gA n9) (ih) l1 l2 l4 σ3)
        · refine pn_aload_n dX3_readCondition_29 rfl rfl rfl ?_
          refine pn_geta dX3_readCondition_30 rfl lf_X3_9_3 qt_36 qk_36 qr_36_1 qt_21 ?_
          refine pn_sipush dX3_readCondition_33 rfl sc_1021 ?_
          refine pn_cv (fun r9 h9 => pn_LKV dX3_readCondition_36 lm_X3_49 (ct_X2_addCode Γ 21 qw_21 (1021 : Int32) σ3 r9 h9) (by omega) qt_21 qk_21 rfl rfl (Nat.le_of_ble_eq_true rfl)) rfl (fun σ12 => ?_)
          exact pn_wk (pn_leC rfl (pn_leC rfl (pn_leC rfl (pn_leN (pn_leC rfl pn_le0))))) (wX3_readCondition_39 Γ d9 hd9 gA hgA (fX3_readCondition_7 gA n9) (ih) l1 l2 l4 σ12)

set_option maxRecDepth 20000 in
set_option maxHeartbeats 4000000 in
theorem ct_X3_readCondition (Γ : pn_G) (d9 : Nat) (hd9 : 20 ≤ d9) (gA : Int32 → pn_S → Option (Int32 × pn_S)) (hgA : ∀ (a1 : Int32) (σ : pn_S) (r : Int32 × pn_S), gA a1 σ = some r → pn_C Γ d9 mX3_readAtom [.ref 36, .int a1] σ (pn_i r)) (a1 : Int32) (σ : pn_S) : ∀ r, fX3_readCondition gA a1 σ = some r → pn_C Γ (d9 + 1) mX3_readCondition [.ref 36, .int a1] σ (pn_i r) := by
  refine pn_of (ls := [.ref 36, .int a1, .null, .null, .null]) (by decide) rfl (pn_cat rfl) rfl (Nat.le_of_ble_eq_true rfl) ?_
  rw [fX3_readCondition]
  refine pn_iconst dX3_readCondition_0 rfl ic_0 ?_
  refine pn_istore_n (ls' := [.ref 36, .int a1, .int (0 : Int32), .null, .null]) dX3_readCondition_1 rfl rfl (Nat.le_of_ble_eq_true rfl) rfl ?_
  refine pn_iconst dX3_readCondition_2 rfl ic_0 ?_
  refine pn_istore_n (ls' := [.ref 36, .int a1, .int (0 : Int32), .int (0 : Int32), .null]) dX3_readCondition_3 rfl rfl (Nat.le_of_ble_eq_true rfl) rfl ?_
  refine pn_iconst dX3_readCondition_4 rfl ic_0 ?_
  refine pn_istore (ls' := [.ref 36, .int a1, .int (0 : Int32), .int (0 : Int32), .int (0 : Int32)]) dX3_readCondition_5 rfl (Nat.le_of_ble_eq_true rfl) rfl ?_
  exact wX3_readCondition_7 Γ d9 hd9 gA hgA 5000 a1 (0 : Int32) (0 : Int32) (0 : Int32) σ
theorem ct_X3_both (Γ : pn_G) : ∀ (n : Nat), (∀ (a1 : Int32) (σ : pn_S) r, (fX3_both n).1 a1 σ = some r → pn_C Γ (20 + n) mX3_readCondition [.ref 36, .int a1] σ (pn_i r)) ∧ (∀ (a1 : Int32) (σ : pn_S) r, (fX3_both n).2 a1 σ = some r → pn_C Γ (20 + n) mX3_readAtom [.ref 36, .int a1] σ (pn_i r)) := by
  intro n
  induction n with
  | zero => exact ⟨fun _ _ _ h => (nomatch h), fun _ _ _ h => (nomatch h)⟩
  | succ n ih => exact ⟨fun a1 σ r h => ct_X3_readCondition Γ (20 + n) (by omega) _ ih.2 a1 σ r h, fun a1 σ r h => ct_X3_readAtom Γ (20 + n) (by omega) _ ih.1 _ ih.2 a1 σ r h⟩
theorem ct_X3_cond (Γ : pn_G) (a1 : Int32) (σ : pn_S) : ∀ r, fX3_cond a1 σ = some r → pn_C Γ 60 mX3_readCondition [.ref 36, .int a1] σ (pn_i r) := (ct_X3_both Γ 40).1 a1 σ

set_option maxRecDepth 20000 in
set_option maxHeartbeats 4000000 in
theorem wX3_readLine_37 (Γ : pn_G)  (l1 : Int32) (σ : pn_S) : pn_W9 Γ 61 mX3_readLine pn_i 37 [.ref 36, .int l1, .null] [] σ (fX3_readLine_37 l1 σ) := by
  rw [fX3_readLine_37]
  refine pn_aload_n dX3_readLine_37 rfl rfl rfl ?_
  refine pn_geta dX3_readLine_38 rfl lf_X3_15_3 qt_36 qk_36 qr_36_0 qt_1 ?_
  refine pn_iload_n dX3_readLine_41 rfl rfl rfl ?_
  refine pn_bipush dX3_readLine_42 rfl bc_30 ?_
  refine pn_ci (fun r9 h9 => pn_LKV dX3_readLine_44 lm_X3_29 (ct_X7_takeNumberAfter Γ l1 (30 : Int32) σ r9 h9) (by decide) qt_1 qk_1 rfl rfl (Nat.le_of_ble_eq_true rfl)) rfl (fun x3 σ3 => ?_)
  refine pn_istore_n (ls' := [.ref 36, .int l1, .int x3]) dX3_readLine_47 rfl rfl (Nat.le_of_ble_eq_true rfl) rfl ?_
  refine pn_iload_n dX3_readLine_48 rfl rfl rfl ?_
  refine pn_iconst dX3_readLine_49 rfl ic_m1 ?_
  refine pn_icmp_ne (tgt := 55) dX3_readLine_50 rfl rfl (fun c4 => ?_) (fun c4 => ?_)
  · refine pn_iconst dX3_readLine_53 rfl ic_0 ?_
    exact pn_iretv dX3_readLine_54 rfl rfl rfl
  · refine pn_aload_n dX3_readLine_55 rfl rfl rfl ?_
    refine pn_geta dX3_readLine_56 rfl lf_X3_9_3 qt_36 qk_36 qr_36_1 qt_21 ?_
    refine pn_iload_n dX3_readLine_59 rfl rfl rfl ?_
    refine pn_iload_n dX3_readLine_60 rfl rfl rfl ?_
    refine pn_cv (fun r9 h9 => pn_LKV dX3_readLine_61 lm_X3_33 (ct_X2_addLine Γ 21 qw_21 l1 x3 σ3 r9 h9) (by decide) qt_21 qk_21 rfl rfl (Nat.le_of_ble_eq_true rfl)) rfl (fun σ5 => ?_)
    refine pn_aload_n dX3_readLine_64 rfl rfl rfl ?_
    refine pn_geta dX3_readLine_65 rfl lf_X3_15_3 qt_36 qk_36 qr_36_0 qt_1 ?_
    refine pn_sipush dX3_readLine_68 rfl sc_1019 ?_
    refine pn_ci (fun r9 h9 => pn_LKV dX3_readLine_71 lm_X3_39 (ct_X7_take Γ (1019 : Int32) σ5 r9 h9) (by decide) qt_1 qk_1 rfl rfl (Nat.le_of_ble_eq_true rfl)) rfl (fun x6 σ6 => ?_)
    refine pn_if_eq (tgt := 85) dX3_readLine_74 rfl rfl (fun c7 => ?_) (fun c7 => ?_)
    · refine pn_iconst dX3_readLine_85 rfl ic_1 ?_
      refine pn_goto (pc' := 90) dX3_readLine_86 rfl ?_
      exact pn_iretv dX3_readLine_90 rfl rfl rfl
    · refine pn_aload_n dX3_readLine_77 rfl rfl rfl ?_
      refine pn_iconst dX3_readLine_78 rfl ic_0 ?_
      refine pn_ci (fun r9 h9 => pn_LKV dX3_readLine_79 lm_X3_43 (ct_X3_cond Γ (0 : Int32) σ6 r9 h9) (by decide) qt_36 qk_36 rfl rfl (Nat.le_of_ble_eq_true rfl)) rfl (fun x8 σ8 => ?_)
      refine pn_if_eq (tgt := 89) dX3_readLine_82 rfl rfl (fun c9 => ?_) (fun c9 => ?_)
      · refine pn_iconst dX3_readLine_89 rfl ic_0 ?_
        exact pn_iretv dX3_readLine_90 rfl rfl rfl
      · refine pn_iconst dX3_readLine_85 rfl ic_1 ?_
        refine pn_goto (pc' := 90) dX3_readLine_86 rfl ?_
        exact pn_iretv dX3_readLine_90 rfl rfl rfl

set_option maxRecDepth 20000 in
set_option maxHeartbeats 4000000 in
theorem ct_X3_readLine (Γ : pn_G)  (σ : pn_S) : ∀ r, fX3_readLine  σ = some r → pn_C Γ 61 mX3_readLine [.ref 36] σ (pn_i r) := by
  refine pn_of (ls := [.ref 36, .null, .null]) (by decide) rfl (pn_cat rfl) rfl (Nat.le_of_ble_eq_true rfl) ?_
  rw [fX3_readLine]
  refine pn_aload_n dX3_readLine_0 rfl rfl rfl ?_
  refine pn_geta dX3_readLine_1 rfl lf_X3_15_3 qt_36 qk_36 qr_36_0 qt_1 ?_
  refine pn_cp (fun r9 h9 => pn_LKV dX3_readLine_4 lm_X3_19 (ct_X7_nextThing Γ σ r9 h9) (by decide) qt_1 qk_1 rfl rfl (Nat.le_of_ble_eq_true rfl)) rfl (fun x1 => ?_)
  refine pn_istore_n (ls' := [.ref 36, .int x1, .null]) dX3_readLine_7 rfl rfl (Nat.le_of_ble_eq_true rfl) rfl ?_
  refine pn_iload_n dX3_readLine_8 rfl rfl rfl ?_
  refine pn_sipush dX3_readLine_9 rfl sc_1016 ?_
  refine pn_icmp_eq (tgt := 37) dX3_readLine_12 rfl rfl (fun c2 => ?_) (fun c2 => ?_)
  · exact wX3_readLine_37 Γ x1 σ
  · refine pn_iload_n dX3_readLine_15 rfl rfl rfl ?_
    refine pn_sipush dX3_readLine_16 rfl sc_1017 ?_
    refine pn_icmp_eq (tgt := 37) dX3_readLine_19 rfl rfl (fun c10 => ?_) (fun c10 => ?_)
    · exact wX3_readLine_37 Γ x1 σ
    · refine pn_iload_n dX3_readLine_22 rfl rfl rfl ?_
      refine pn_sipush dX3_readLine_23 rfl sc_1018 ?_
      refine pn_icmp_eq (tgt := 37) dX3_readLine_26 rfl rfl (fun c11 => ?_) (fun c11 => ?_)
      · exact wX3_readLine_37 Γ x1 σ
      · refine pn_aload_n dX3_readLine_29 rfl rfl rfl ?_
        refine pn_geta dX3_readLine_30 rfl lf_X3_15_3 qt_36 qk_36 qr_36_0 qt_1 ?_
        refine pn_ci (fun r9 h9 => pn_LKV dX3_readLine_33 lm_X3_25 (ct_X7_fail Γ σ r9 h9) (by decide) qt_1 qk_1 rfl rfl (Nat.le_of_ble_eq_true rfl)) rfl (fun x12 σ12 => ?_)
        exact pn_iretb dX3_readLine_36 rfl rfl

set_option maxRecDepth 20000 in
set_option maxHeartbeats 4000000 in
theorem wX4_readLines_35_17 (Γ : pn_G)  : ∀ (n9 : Nat) (l1 : Int32) (l2 : Int32) (σ : pn_S), pn_W9 Γ 62 mX4_readLines pn_i 17 [.ref 35, .int l1, .int l2] [] σ (fX4_readLines_35_17 n9 l1 l2 σ) := by
  intro n9
  induction n9 with
  | zero => intro l1 l2 σ; exact pn_none
  | succ n9 ih =>
    intro l1 l2 σ
    rw [fX4_readLines_35_17]
    refine pn_iload_n dX4_readLines_17 rfl rfl rfl ?_
    refine pn_iload_n dX4_readLines_18 rfl rfl rfl ?_
    refine pn_icmp_ge (tgt := 73) dX4_readLines_19 rfl rfl (fun c3 => ?_) (fun c3 => ?_)
    · refine pn_aload_n dX4_readLines_73 rfl rfl rfl ?_
      refine pn_geta dX4_readLines_74 rfl lf_X4_9_8 qt_35 qk_35 qr_35_0 qt_1 ?_
      refine pn_ci (fun r9 h9 => pn_LKV dX4_readLines_77 lm_X4_29 (ct_X7_fail Γ σ r9 h9) (by decide) qt_1 qk_1 rfl rfl (Nat.le_of_ble_eq_true rfl)) rfl (fun x4 σ4 => ?_)
      exact pn_iretb dX4_readLines_80 rfl rfl
    · refine pn_aload_n dX4_readLines_22 rfl rfl rfl ?_
      refine pn_ci (fun r9 h9 => pn_LKU dX4_readLines_23 lm_X4_21_35 rfl (ct_X9_readLine Γ σ r9 h9) (by decide) qt_35 qk_35 rfl rfl (Nat.le_of_ble_eq_true rfl)) rfl (fun x5 σ5 => ?_)
      refine pn_if_ne (tgt := 31) dX4_readLines_26 rfl rfl (fun c6 => ?_) (fun c6 => ?_)
      · refine pn_iconst dX4_readLines_29 rfl ic_0 ?_
        exact pn_iretv dX4_readLines_30 rfl rfl rfl
      · refine pn_aload_n dX4_readLines_31 rfl rfl rfl ?_
        refine pn_geta dX4_readLines_32 rfl lf_X4_9_8 qt_35 qk_35 qr_35_0 qt_1 ?_
        refine pn_cp (fun r9 h9 => pn_LKV dX4_readLines_35 lm_X4_15 (ct_X7_nextThing Γ σ5 r9 h9) (by decide) qt_1 qk_1 rfl rfl (Nat.le_of_ble_eq_true rfl)) rfl (fun x7 => ?_)
        refine pn_sipush dX4_readLines_38 rfl sc_3001 ?_
        refine pn_icmp_ne (tgt := 46) dX4_readLines_41 rfl rfl (fun c8 => ?_) (fun c8 => ?_)
        · refine pn_iconst dX4_readLines_44 rfl ic_1 ?_
          exact pn_iretv dX4_readLines_45 rfl rfl rfl
        · refine pn_aload_n dX4_readLines_46 rfl rfl rfl ?_
          refine pn_geta dX4_readLines_47 rfl lf_X4_9_8 qt_35 qk_35 qr_35_0 qt_1 ?_
          refine pn_sipush dX4_readLines_50 rfl sc_2059 ?_
          refine pn_ci (fun r9 h9 => pn_LKV dX4_readLines_53 lm_X4_25 (ct_X7_take Γ (2059 : Int32) σ5 r9 h9) (by decide) qt_1 qk_1 rfl rfl (Nat.le_of_ble_eq_true rfl)) rfl (fun x9 σ9 => ?_)
          refine pn_if_ne (tgt := 67) dX4_readLines_56 rfl rfl (fun c10 => ?_) (fun c10 => ?_)
          · refine pn_aload_n dX4_readLines_59 rfl rfl rfl ?_
            refine pn_geta dX4_readLines_60 rfl lf_X4_9_8 qt_35 qk_35 qr_35_0 qt_1 ?_
            refine pn_ci (fun r9 h9 => pn_LKV dX4_readLines_63 lm_X4_29 (ct_X7_fail Γ σ9 r9 h9) (by decide) qt_1 qk_1 rfl rfl (Nat.le_of_ble_eq_true rfl)) rfl (fun x11 σ11 => ?_)
            exact pn_iretb dX4_readLines_66 rfl rfl
          · refine pn_iinc (ls' := [.ref 35, .int l1, .int (l2 + (1 : Int32))]) dX4_readLines_67 rfl (Nat.le_of_ble_eq_true rfl) rfl (congrArg (fun z => l2 + z) ic_1) rfl ?_
            refine pn_goto (pc' := 17) dX4_readLines_70 rfl ?_
            exact ih l1 (l2 + (1 : Int32)) σ9

set_option maxRecDepth 20000 in
set_option maxHeartbeats 4000000 in
theorem ct_X4_readLines_35 (Γ : pn_G) (a1 : Int32) (σ : pn_S) : ∀ r, fX4_readLines_35 a1 σ = some r → pn_C Γ 62 mX4_readLines [.ref 35, .int a1] σ (pn_i r) := by
  refine pn_of (ls := [.ref 35, .int a1, .null]) (by decide) rfl (pn_cat rfl) rfl (Nat.le_of_ble_eq_true rfl) ?_
  rw [fX4_readLines_35]
  refine pn_aload_n dX4_readLines_0 rfl rfl rfl ?_
  refine pn_geta dX4_readLines_1 rfl lf_X4_9_8 qt_35 qk_35 qr_35_0 qt_1 ?_
  refine pn_cp (fun r9 h9 => pn_LKV dX4_readLines_4 lm_X4_15 (ct_X7_nextThing Γ σ r9 h9) (by decide) qt_1 qk_1 rfl rfl (Nat.le_of_ble_eq_true rfl)) rfl (fun x1 => ?_)
  refine pn_sipush dX4_readLines_7 rfl sc_3001 ?_
  refine pn_icmp_ne (tgt := 15) dX4_readLines_10 rfl rfl (fun c2 => ?_) (fun c2 => ?_)
  · refine pn_iconst dX4_readLines_13 rfl ic_1 ?_
    exact pn_iretv dX4_readLines_14 rfl rfl rfl
  · refine pn_iconst dX4_readLines_15 rfl ic_0 ?_
    refine pn_istore_n (ls' := [.ref 35, .int a1, .int (0 : Int32)]) dX4_readLines_16 rfl rfl (Nat.le_of_ble_eq_true rfl) rfl ?_
    exact wX4_readLines_35_17 Γ 5000 a1 (0 : Int32) σ

set_option maxRecDepth 20000 in
set_option maxHeartbeats 4000000 in
theorem wX4_readLines_36_17 (Γ : pn_G)  : ∀ (n9 : Nat) (l1 : Int32) (l2 : Int32) (σ : pn_S), pn_W9 Γ 62 mX4_readLines pn_i 17 [.ref 36, .int l1, .int l2] [] σ (fX4_readLines_36_17 n9 l1 l2 σ) := by
  intro n9
  induction n9 with
  | zero => intro l1 l2 σ; exact pn_none
  | succ n9 ih =>
    intro l1 l2 σ
    rw [fX4_readLines_36_17]
    refine pn_iload_n dX4_readLines_17 rfl rfl rfl ?_
    refine pn_iload_n dX4_readLines_18 rfl rfl rfl ?_
    refine pn_icmp_ge (tgt := 73) dX4_readLines_19 rfl rfl (fun c3 => ?_) (fun c3 => ?_)
    · refine pn_aload_n dX4_readLines_73 rfl rfl rfl ?_
      refine pn_geta dX4_readLines_74 rfl lf_X4_9_3 qt_36 qk_36 qr_36_0 qt_1 ?_
      refine pn_ci (fun r9 h9 => pn_LKV dX4_readLines_77 lm_X4_29 (ct_X7_fail Γ σ r9 h9) (by decide) qt_1 qk_1 rfl rfl (Nat.le_of_ble_eq_true rfl)) rfl (fun x4 σ4 => ?_)
      exact pn_iretb dX4_readLines_80 rfl rfl
    · refine pn_aload_n dX4_readLines_22 rfl rfl rfl ?_
      refine pn_ci (fun r9 h9 => pn_LKU dX4_readLines_23 lm_X4_21_36 rfl (ct_X3_readLine Γ σ r9 h9) (by decide) qt_36 qk_36 rfl rfl (Nat.le_of_ble_eq_true rfl)) rfl (fun x5 σ5 => ?_)
      refine pn_if_ne (tgt := 31) dX4_readLines_26 rfl rfl (fun c6 => ?_) (fun c6 => ?_)
      · refine pn_iconst dX4_readLines_29 rfl ic_0 ?_
        exact pn_iretv dX4_readLines_30 rfl rfl rfl
      · refine pn_aload_n dX4_readLines_31 rfl rfl rfl ?_
        refine pn_geta dX4_readLines_32 rfl lf_X4_9_3 qt_36 qk_36 qr_36_0 qt_1 ?_
        refine pn_cp (fun r9 h9 => pn_LKV dX4_readLines_35 lm_X4_15 (ct_X7_nextThing Γ σ5 r9 h9) (by decide) qt_1 qk_1 rfl rfl (Nat.le_of_ble_eq_true rfl)) rfl (fun x7 => ?_)
        refine pn_sipush dX4_readLines_38 rfl sc_3001 ?_
        refine pn_icmp_ne (tgt := 46) dX4_readLines_41 rfl rfl (fun c8 => ?_) (fun c8 => ?_)
        · refine pn_iconst dX4_readLines_44 rfl ic_1 ?_
          exact pn_iretv dX4_readLines_45 rfl rfl rfl
        · refine pn_aload_n dX4_readLines_46 rfl rfl rfl ?_
          refine pn_geta dX4_readLines_47 rfl lf_X4_9_3 qt_36 qk_36 qr_36_0 qt_1 ?_
          refine pn_sipush dX4_readLines_50 rfl sc_2059 ?_
          refine pn_ci (fun r9 h9 => pn_LKV dX4_readLines_53 lm_X4_25 (ct_X7_take Γ (2059 : Int32) σ5 r9 h9) (by decide) qt_1 qk_1 rfl rfl (Nat.le_of_ble_eq_true rfl)) rfl (fun x9 σ9 => ?_)
          refine pn_if_ne (tgt := 67) dX4_readLines_56 rfl rfl (fun c10 => ?_) (fun c10 => ?_)
          · refine pn_aload_n dX4_readLines_59 rfl rfl rfl ?_
            refine pn_geta dX4_readLines_60 rfl lf_X4_9_3 qt_36 qk_36 qr_36_0 qt_1 ?_
            refine pn_ci (fun r9 h9 => pn_LKV dX4_readLines_63 lm_X4_29 (ct_X7_fail Γ σ9 r9 h9) (by decide) qt_1 qk_1 rfl rfl (Nat.le_of_ble_eq_true rfl)) rfl (fun x11 σ11 => ?_)
            exact pn_iretb dX4_readLines_66 rfl rfl
          · refine pn_iinc (ls' := [.ref 36, .int l1, .int (l2 + (1 : Int32))]) dX4_readLines_67 rfl (Nat.le_of_ble_eq_true rfl) rfl (congrArg (fun z => l2 + z) ic_1) rfl ?_
            refine pn_goto (pc' := 17) dX4_readLines_70 rfl ?_
            exact ih l1 (l2 + (1 : Int32)) σ9

set_option maxRecDepth 20000 in
set_option maxHeartbeats 4000000 in
theorem ct_X4_readLines_36 (Γ : pn_G) (a1 : Int32) (σ : pn_S) : ∀ r, fX4_readLines_36 a1 σ = some r → pn_C Γ 62 mX4_readLines [.ref 36, .int a1] σ (pn_i r) := by
  refine pn_of (ls := [.ref 36, .int a1, .null]) (by decide) rfl (pn_cat rfl) rfl (Nat.le_of_ble_eq_true rfl) ?_
  rw [fX4_readLines_36]
  refine pn_aload_n dX4_readLines_0 rfl rfl rfl ?_
  refine pn_geta dX4_readLines_1 rfl lf_X4_9_3 qt_36 qk_36 qr_36_0 qt_1 ?_
  refine pn_cp (fun r9 h9 => pn_LKV dX4_readLines_4 lm_X4_15 (ct_X7_nextThing Γ σ r9 h9) (by decide) qt_1 qk_1 rfl rfl (Nat.le_of_ble_eq_true rfl)) rfl (fun x1 => ?_)
  refine pn_sipush dX4_readLines_7 rfl sc_3001 ?_
  refine pn_icmp_ne (tgt := 15) dX4_readLines_10 rfl rfl (fun c2 => ?_) (fun c2 => ?_)
  · refine pn_iconst dX4_readLines_13 rfl ic_1 ?_
    exact pn_iretv dX4_readLines_14 rfl rfl rfl
  · refine pn_iconst dX4_readLines_15 rfl ic_0 ?_
    refine pn_istore_n (ls' := [.ref 36, .int a1, .int (0 : Int32)]) dX4_readLines_16 rfl rfl (Nat.le_of_ble_eq_true rfl) rfl ?_
    exact wX4_readLines_36_17 Γ 5000 a1 (0 : Int32) σ

set_option maxRecDepth 20000 in
set_option maxHeartbeats 4000000 in
theorem ct_X5_forget (Γ : pn_G)  (σ : pn_S) : ∀ r, fX5_forget  σ = some r → pn_C Γ 1 mX5_forget [.ref 41] σ (pn_v r) := by
  refine pn_of (ls := [.ref 41]) (by decide) rfl (pn_cat rfl) rfl (Nat.le_of_ble_eq_true rfl) ?_
  rw [fX5_forget]
  refine pn_aload_n dX5_forget_0 rfl rfl rfl ?_
  refine pn_iconst dX5_forget_1 rfl ic_0 ?_
  refine pn_puti dX5_forget_2 rfl lf_X5_17_4 (fpi_4_1 (0 : Int32)) qt_41 qk_41 qr_41_1 ?_
  exact pn_vretv dX5_forget_5 rfl rfl

set_option maxRecDepth 20000 in
set_option maxHeartbeats 4000000 in
theorem ct_X10_village (Γ : pn_G)  (σ : pn_S) : ∀ r, fX10_village  σ = some r → pn_C Γ 63 mX10_village [.ref 0] σ (pn_xi r) := by
  refine pn_of (ls := [.ref 0, .null]) (by decide) rfl (pn_cat rfl) rfl (Nat.le_of_ble_eq_true rfl) ?_
  rw [fX10_village]
  refine pn_aload_n dX10_village_0 rfl rfl rfl ?_
  refine pn_geta dX10_village_1 rfl lf_X10_12_9 qt_0 qk_0 qr_0_0 qt_1 ?_
  refine pn_cv (fun r9 h9 => pn_LKV dX10_village_4 lm_X10_111 (ct_X7_useUp Γ σ r9 h9) (by decide) qt_1 qk_1 rfl rfl (Nat.le_of_ble_eq_true rfl)) rfl (fun σ1 => ?_)
  refine pn_aload_n dX10_village_7 rfl rfl rfl ?_
  refine pn_geta dX10_village_8 rfl lf_X10_12_9 qt_0 qk_0 qr_0_0 qt_1 ?_
  refine pn_cv (fun r9 h9 => pn_LKV dX10_village_11 lm_X10_114 (ct_X7_split Γ σ1 r9 h9) (by decide) qt_1 qk_1 rfl rfl (Nat.le_of_ble_eq_true rfl)) rfl (fun σ2 => ?_)
  refine pn_aload_n dX10_village_14 rfl rfl rfl ?_
  refine pn_geta dX10_village_15 rfl lf_X10_23_9 qt_0 qk_0 qr_0_2 qt_8 ?_
  refine pn_aload_n dX10_village_18 rfl rfl rfl ?_
  refine pn_geta dX10_village_19 rfl lf_X10_19_9 qt_0 qk_0 qr_0_1 qt_5 ?_
  refine pn_cv (fun r9 h9 => pn_LKV dX10_village_22 lm_X10_117 (ct_X8_copy Γ 8 qv_8 5 qv_5 σ2 r9 h9) (by decide) qt_8 qk_8 rfl rfl (Nat.le_of_ble_eq_true rfl)) rfl (fun σ3 => ?_)
  refine pn_aload_n dX10_village_25 rfl rfl rfl ?_
  refine pn_geta dX10_village_26 rfl lf_X10_47_9 qt_0 qk_0 qr_0_7 qt_35 ?_
  refine pn_bipush dX10_village_29 rfl bc_14 ?_
  refine pn_ci (fun r9 h9 => pn_LKU dX10_village_31 lm_X10_121_35 rfl (ct_X4_readLines_35 Γ (14 : Int32) σ3 r9 h9) (by decide) qt_35 qk_35 rfl rfl (Nat.le_of_ble_eq_true rfl)) rfl (fun x4 σ4 => ?_)
  refine pn_istore_n (ls' := [.ref 0, .int x4]) dX10_village_34 rfl rfl (Nat.le_of_ble_eq_true rfl) rfl ?_
  refine pn_aload_n dX10_village_35 rfl rfl rfl ?_
  refine pn_aload_n dX10_village_36 rfl rfl rfl ?_
  refine pn_geta dX10_village_37 rfl lf_X10_12_9 qt_0 qk_0 qr_0_0 qt_1 ?_
  refine pn_geti dX10_village_40 rfl lf_X10_124_6 qt_1 qk_1 qr_1_7 ?_
  refine pn_puti dX10_village_43 rfl lf_X10_96_9 (fpi_9_15 (σ4 1 7)) qt_0 qk_0 qr_0_15 ?_
  refine pn_iload_n dX10_village_46 rfl rfl rfl ?_
  refine pn_if_ne (tgt := 58) dX10_village_47 rfl rfl (fun c5 => ?_) (fun c5 => ?_)
  · exact pn_throw (fun _ _ => rfl) rfl th_X10_127 dX10_village_50 dX10_village_53 dX10_village_54 dX10_village_57
  · refine pn_aload_n dX10_village_58 rfl rfl rfl ?_
    refine pn_geta dX10_village_59 rfl lf_X10_19_9 qt_0 qk_0 qr_0_1 qt_5 ?_
    refine pn_geti dX10_village_62 rfl lf_X10_130_7 qt_5 qk_5 qr_5_3 ?_
    refine pn_bipush dX10_village_65 rfl bc_12 ?_
    refine pn_icmp_lt (tgt := 78) dX10_village_67 rfl rfl (fun c6 => ?_) (fun c6 => ?_)
    · refine pn_aload_n dX10_village_78 rfl rfl rfl ?_
      refine pn_geta dX10_village_79 rfl lf_X10_19_9 qt_0 qk_0 qr_0_1 qt_5 ?_
      refine pn_aload_n dX10_village_82 rfl rfl rfl ?_
      refine pn_geta dX10_village_83 rfl lf_X10_23_9 qt_0 qk_0 qr_0_2 qt_8 ?_
      refine pn_cv (fun r9 h9 => pn_LKV dX10_village_86 lm_X10_117 (ct_X8_copy Γ 5 qv_5 8 qv_8 (pn_up σ4 0 15 (σ4 1 7)) r9 h9) (by decide) qt_5 qk_5 rfl rfl (Nat.le_of_ble_eq_true rfl)) rfl (fun σ7 => ?_)
      refine pn_aload_n dX10_village_89 rfl rfl rfl ?_
      refine pn_geta dX10_village_90 rfl lf_X10_19_9 qt_0 qk_0 qr_0_1 qt_5 ?_
      refine pn_dupa dX10_village_93 rfl ?_
      refine pn_geti dX10_village_94 rfl lf_X10_130_7 qt_5 qk_5 qr_5_3 ?_
      refine pn_iconst dX10_village_97 rfl ic_1 ?_
      refine pn_iadd dX10_village_98 rfl ?_
      refine pn_puti dX10_village_99 rfl lf_X10_130_7 (fpi_7_3 ((σ7 5 3) + (1 : Int32))) qt_5 qk_5 qr_5_3 ?_
      refine pn_aload_n dX10_village_102 rfl rfl rfl ?_
      refine pn_geta dX10_village_103 rfl lf_X10_70_9 qt_0 qk_0 qr_0_10 qt_41 ?_
      refine pn_cv (fun r9 h9 => pn_LKV dX10_village_106 lm_X10_136 (ct_X5_forget Γ (pn_up σ7 5 3 ((σ7 5 3) + (1 : Int32))) r9 h9) (by decide) qt_41 qk_41 rfl rfl (Nat.le_of_ble_eq_true rfl)) rfl (fun σ8 => ?_)
      refine pn_aload_n dX10_village_109 rfl rfl rfl ?_
      refine pn_geta dX10_village_110 rfl lf_X10_19_9 qt_0 qk_0 qr_0_1 qt_5 ?_
      refine pn_geti dX10_village_113 rfl lf_X10_130_7 qt_5 qk_5 qr_5_3 ?_
      exact pn_iretv dX10_village_116 rfl rfl rfl
    · exact pn_throw (fun _ _ => rfl) rfl th_X10_133 dX10_village_70 dX10_village_73 dX10_village_74 dX10_village_77

set_option maxRecDepth 20000 in
set_option maxHeartbeats 4000000 in
theorem ct_X2_clear (Γ : pn_G) (w0 : Nat) (hw0 : pn_isW w0) (σ : pn_S) : ∀ r, fX2_clear w0 σ = some r → pn_C Γ 1 mX2_clear [.ref w0] σ (pn_v r) := by
  refine pn_of (ls := [.ref w0]) (by decide) rfl (pn_cat rfl) rfl (Nat.le_of_ble_eq_true rfl) ?_
  rw [fX2_clear]
  refine pn_aload_n dX2_clear_0 rfl rfl rfl ?_
  refine pn_iconst dX2_clear_1 rfl ic_0 ?_
  refine pn_puti dX2_clear_2 rfl lf_X2_30_2 (fpi_2_6 (0 : Int32)) hw0.1.1 hw0.1.2 (pn_RWi hw0.1.2 (by decide)) ?_
  refine pn_aload_n dX2_clear_5 rfl rfl rfl ?_
  refine pn_iconst dX2_clear_6 rfl ic_0 ?_
  refine pn_puti dX2_clear_7 rfl lf_X2_34_2 (fpi_2_7 (0 : Int32)) hw0.1.1 hw0.1.2 (pn_RWi hw0.1.2 (by decide)) ?_
  exact pn_vretv dX2_clear_10 rfl rfl

set_option maxRecDepth 20000 in
set_option maxHeartbeats 4000000 in
theorem wX2_copy_88 (Γ : pn_G) (w0 : Nat) (hw0 : pn_isW w0) (w1 : Nat) (hw1 : pn_isW w1)  (σ : pn_S) : pn_W9 Γ 1 mX2_copy pn_v 88 [.null, .null] [] σ (fX2_copy_88 w0 w1  σ) := by
  rw [fX2_copy_88]
  exact pn_vretv dX2_copy_88 rfl rfl

set_option maxRecDepth 20000 in
set_option maxHeartbeats 4000000 in
theorem wX2_copy_54 (Γ : pn_G) (w0 : Nat) (hw0 : pn_isW w0) (w1 : Nat) (hw1 : pn_isW w1)  (σ : pn_S) : pn_W9 Γ 1 mX2_copy pn_v 54 [.ref w0, .ref w1] [] σ (fX2_copy_54 w0 w1  σ) := by
  rw [fX2_copy_54]
  refine pn_aload_n dX2_copy_54 rfl rfl rfl ?_
  refine pn_geta dX2_copy_55 rfl lf_X2_21_2 hw1.1.1 hw1.1.2 (pn_RW3 hw1.1.2) hw1.2.2.2.2.1.1 ?_
  refine pn_iconst dX2_copy_58 rfl ic_0 ?_
  refine pn_aload_n dX2_copy_59 rfl rfl rfl ?_
  refine pn_geta dX2_copy_60 rfl lf_X2_21_2 hw0.1.1 hw0.1.2 (pn_RW3 hw0.1.2) hw0.2.2.2.2.1.1 ?_
  refine pn_iconst dX2_copy_63 rfl ic_0 ?_
  refine pn_aload_n dX2_copy_64 rfl rfl rfl ?_
  refine pn_geta dX2_copy_65 rfl lf_X2_21_2 hw0.1.1 hw0.1.2 (pn_RW3 hw0.1.2) hw0.2.2.2.2.1.1 ?_
  refine pn_alen dX2_copy_68 rfl hw0.2.2.2.2.1.1 hw0.2.2.2.2.1.2.1 hw0.2.2.2.2.1.2.2 ?_
  refine pn_copy dX2_copy_69 rfl lac_X2_46 hw1.2.2.2.2.1.1 hw1.2.2.2.2.1.2.1 hw1.2.2.2.2.1.2.2 hw0.2.2.2.2.1.1 hw0.2.2.2.2.1.2.1 hw0.2.2.2.2.1.2.2 (by decide) (Nat.le_of_ble_eq_true rfl) ?_
  refine pn_aload_n dX2_copy_72 rfl rfl rfl ?_
  refine pn_aload_n dX2_copy_73 rfl rfl rfl ?_
  refine pn_geti dX2_copy_74 rfl lf_X2_30_2 hw1.1.1 hw1.1.2 (pn_RWi hw1.1.2 (by decide)) ?_
  refine pn_puti dX2_copy_77 rfl lf_X2_30_2 (fpi_2_6 ((pn_ua σ (w0 + 4) (va_cpy (σ (w1 + 4)) (σ (w0 + 4)) 0 0 400)) w1 6)) hw0.1.1 hw0.1.2 (pn_RWi hw0.1.2 (by decide)) ?_
  refine pn_aload_n dX2_copy_80 rfl rfl rfl ?_
  refine pn_aload_n dX2_copy_81 rfl rfl rfl ?_
  refine pn_geti dX2_copy_82 rfl lf_X2_34_2 hw1.1.1 hw1.1.2 (pn_RWi hw1.1.2 (by decide)) ?_
  refine pn_puti dX2_copy_85 rfl lf_X2_34_2 (fpi_2_7 ((pn_up (pn_ua σ (w0 + 4) (va_cpy (σ (w1 + 4)) (σ (w0 + 4)) 0 0 400)) w0 6 ((pn_ua σ (w0 + 4) (va_cpy (σ (w1 + 4)) (σ (w0 + 4)) 0 0 400)) w1 6)) w1 7)) hw0.1.1 hw0.1.2 (pn_RWi hw0.1.2 (by decide)) ?_
  exact pn_wk (pn_leN (pn_leN pn_le0)) (wX2_copy_88 Γ w0 hw0 w1 hw1 (pn_up (pn_up (pn_ua σ (w0 + 4) (va_cpy (σ (w1 + 4)) (σ (w0 + 4)) 0 0 400)) w0 6 ((pn_ua σ (w0 + 4) (va_cpy (σ (w1 + 4)) (σ (w0 + 4)) 0 0 400)) w1 6)) w0 7 ((pn_up (pn_ua σ (w0 + 4) (va_cpy (σ (w1 + 4)) (σ (w0 + 4)) 0 0 400)) w0 6 ((pn_ua σ (w0 + 4) (va_cpy (σ (w1 + 4)) (σ (w0 + 4)) 0 0 400)) w1 6)) w1 7)))

set_option maxRecDepth 20000 in
set_option maxHeartbeats 4000000 in
theorem ct_X2_copy (Γ : pn_G) (w0 : Nat) (hw0 : pn_isW w0) (w1 : Nat) (hw1 : pn_isW w1) (σ : pn_S) : ∀ r, fX2_copy w0 w1 σ = some r → pn_C Γ 1 mX2_copy [.ref w0, .ref w1] σ (pn_v r) := by
  refine pn_of (ls := [.ref w0, .ref w1]) (by decide) rfl (pn_cat rfl) rfl (Nat.le_of_ble_eq_true rfl) ?_
  rw [fX2_copy]
  refine pn_aload_n dX2_copy_0 rfl rfl rfl ?_
  refine pn_geta dX2_copy_1 rfl lf_X2_9_2 hw1.1.1 hw1.1.2 (pn_RW0 hw1.1.2) hw1.2.1.1 ?_
  refine pn_iconst dX2_copy_4 rfl ic_0 ?_
  refine pn_aload_n dX2_copy_5 rfl rfl rfl ?_
  refine pn_geta dX2_copy_6 rfl lf_X2_9_2 hw0.1.1 hw0.1.2 (pn_RW0 hw0.1.2) hw0.2.1.1 ?_
  refine pn_iconst dX2_copy_9 rfl ic_0 ?_
  refine pn_aload_n dX2_copy_10 rfl rfl rfl ?_
  refine pn_geta dX2_copy_11 rfl lf_X2_9_2 hw0.1.1 hw0.1.2 (pn_RW0 hw0.1.2) hw0.2.1.1 ?_
  refine pn_alen dX2_copy_14 rfl hw0.2.1.1 hw0.2.1.2.1 hw0.2.1.2.2 ?_
  refine pn_copy dX2_copy_15 rfl lac_X2_46 hw1.2.1.1 hw1.2.1.2.1 hw1.2.1.2.2 hw0.2.1.1 hw0.2.1.2.1 hw0.2.1.2.2 (by decide) (Nat.le_of_ble_eq_true rfl) ?_
  refine pn_aload_n dX2_copy_18 rfl rfl rfl ?_
  refine pn_geta dX2_copy_19 rfl lf_X2_15_2 hw1.1.1 hw1.1.2 (pn_RW1 hw1.1.2) hw1.2.2.1.1 ?_
  refine pn_iconst dX2_copy_22 rfl ic_0 ?_
  refine pn_aload_n dX2_copy_23 rfl rfl rfl ?_
  refine pn_geta dX2_copy_24 rfl lf_X2_15_2 hw0.1.1 hw0.1.2 (pn_RW1 hw0.1.2) hw0.2.2.1.1 ?_
  refine pn_iconst dX2_copy_27 rfl ic_0 ?_
  refine pn_aload_n dX2_copy_28 rfl rfl rfl ?_
  refine pn_geta dX2_copy_29 rfl lf_X2_15_2 hw0.1.1 hw0.1.2 (pn_RW1 hw0.1.2) hw0.2.2.1.1 ?_
  refine pn_alen dX2_copy_32 rfl hw0.2.2.1.1 hw0.2.2.1.2.1 hw0.2.2.1.2.2 ?_
  refine pn_copy dX2_copy_33 rfl lac_X2_46 hw1.2.2.1.1 hw1.2.2.1.2.1 hw1.2.2.1.2.2 hw0.2.2.1.1 hw0.2.2.1.2.1 hw0.2.2.1.2.2 (by decide) (Nat.le_of_ble_eq_true rfl) ?_
  refine pn_aload_n dX2_copy_36 rfl rfl rfl ?_
  refine pn_geta dX2_copy_37 rfl lf_X2_18_2 hw1.1.1 hw1.1.2 (pn_RW2 hw1.1.2) hw1.2.2.2.1.1 ?_
  refine pn_iconst dX2_copy_40 rfl ic_0 ?_
  refine pn_aload_n dX2_copy_41 rfl rfl rfl ?_
  refine pn_geta dX2_copy_42 rfl lf_X2_18_2 hw0.1.1 hw0.1.2 (pn_RW2 hw0.1.2) hw0.2.2.2.1.1 ?_
  refine pn_iconst dX2_copy_45 rfl ic_0 ?_
  refine pn_aload_n dX2_copy_46 rfl rfl rfl ?_
  refine pn_geta dX2_copy_47 rfl lf_X2_18_2 hw0.1.1 hw0.1.2 (pn_RW2 hw0.1.2) hw0.2.2.2.1.1 ?_
  refine pn_alen dX2_copy_50 rfl hw0.2.2.2.1.1 hw0.2.2.2.1.2.1 hw0.2.2.2.1.2.2 ?_
  refine pn_copy dX2_copy_51 rfl lac_X2_46 hw1.2.2.2.1.1 hw1.2.2.2.1.2.1 hw1.2.2.2.1.2.2 hw0.2.2.2.1.1 hw0.2.2.2.1.2.1 hw0.2.2.2.1.2.2 (by decide) (Nat.le_of_ble_eq_true rfl) ?_
  exact wX2_copy_54 Γ w0 hw0 w1 hw1 (pn_ua (pn_ua (pn_ua σ (w0 + 1) (va_cpy (σ (w1 + 1)) (σ (w0 + 1)) 0 0 12)) (w0 + 2) (va_cpy ((pn_ua σ (w0 + 1) (va_cpy (σ (w1 + 1)) (σ (w0 + 1)) 0 0 12)) (w1 + 2)) ((pn_ua σ (w0 + 1) (va_cpy (σ (w1 + 1)) (σ (w0 + 1)) 0 0 12)) (w0 + 2)) 0 0 12)) (w0 + 3) (va_cpy ((pn_ua (pn_ua σ (w0 + 1) (va_cpy (σ (w1 + 1)) (σ (w0 + 1)) 0 0 12)) (w0 + 2) (va_cpy ((pn_ua σ (w0 + 1) (va_cpy (σ (w1 + 1)) (σ (w0 + 1)) 0 0 12)) (w1 + 2)) ((pn_ua σ (w0 + 1) (va_cpy (σ (w1 + 1)) (σ (w0 + 1)) 0 0 12)) (w0 + 2)) 0 0 12)) (w1 + 3)) ((pn_ua (pn_ua σ (w0 + 1) (va_cpy (σ (w1 + 1)) (σ (w0 + 1)) 0 0 12)) (w0 + 2) (va_cpy ((pn_ua σ (w0 + 1) (va_cpy (σ (w1 + 1)) (σ (w0 + 1)) 0 0 12)) (w1 + 2)) ((pn_ua σ (w0 + 1) (va_cpy (σ (w1 + 1)) (σ (w0 + 1)) 0 0 12)) (w0 + 2)) 0 0 12)) (w0 + 3)) 0 0 13))

set_option maxRecDepth 20000 in
set_option maxHeartbeats 4000000 in
theorem ct_X10_law (Γ : pn_G)  (σ : pn_S) : ∀ r, fX10_law  σ = some r → pn_C Γ 63 mX10_law [.ref 0] σ (pn_xi r) := by
  refine pn_of (ls := [.ref 0, .null]) (by decide) rfl (pn_cat rfl) rfl (Nat.le_of_ble_eq_true rfl) ?_
  rw [fX10_law]
  refine pn_aload_n dX10_law_0 rfl rfl rfl ?_
  refine pn_geta dX10_law_1 rfl lf_X10_12_9 qt_0 qk_0 qr_0_0 qt_1 ?_
  refine pn_cv (fun r9 h9 => pn_LKV dX10_law_4 lm_X10_111 (ct_X7_useUp Γ σ r9 h9) (by decide) qt_1 qk_1 rfl rfl (Nat.le_of_ble_eq_true rfl)) rfl (fun σ1 => ?_)
  refine pn_aload_n dX10_law_7 rfl rfl rfl ?_
  refine pn_geta dX10_law_8 rfl lf_X10_12_9 qt_0 qk_0 qr_0_0 qt_1 ?_
  refine pn_cv (fun r9 h9 => pn_LKV dX10_law_11 lm_X10_114 (ct_X7_split Γ σ1 r9 h9) (by decide) qt_1 qk_1 rfl rfl (Nat.le_of_ble_eq_true rfl)) rfl (fun σ2 => ?_)
  refine pn_aload_n dX10_law_14 rfl rfl rfl ?_
  refine pn_geta dX10_law_15 rfl lf_X10_36_9 qt_0 qk_0 qr_0_5 qt_21 ?_
  refine pn_cv (fun r9 h9 => pn_LKV dX10_law_18 lm_X10_139 (ct_X2_clear Γ 21 qw_21 σ2 r9 h9) (by decide) qt_21 qk_21 rfl rfl (Nat.le_of_ble_eq_true rfl)) rfl (fun σ3 => ?_)
  refine pn_aload_n dX10_law_21 rfl rfl rfl ?_
  refine pn_geta dX10_law_22 rfl lf_X10_56_9 qt_0 qk_0 qr_0_8 qt_36 ?_
  refine pn_bipush dX10_law_25 rfl bc_12 ?_
  refine pn_ci (fun r9 h9 => pn_LKU dX10_law_27 lm_X10_142_36 rfl (ct_X4_readLines_36 Γ (12 : Int32) σ3 r9 h9) (by decide) qt_36 qk_36 rfl rfl (Nat.le_of_ble_eq_true rfl)) rfl (fun x4 σ4 => ?_)
  refine pn_istore_n (ls' := [.ref 0, .int x4]) dX10_law_30 rfl rfl (Nat.le_of_ble_eq_true rfl) rfl ?_
  refine pn_aload_n dX10_law_31 rfl rfl rfl ?_
  refine pn_aload_n dX10_law_32 rfl rfl rfl ?_
  refine pn_geta dX10_law_33 rfl lf_X10_12_9 qt_0 qk_0 qr_0_0 qt_1 ?_
  refine pn_geti dX10_law_36 rfl lf_X10_124_6 qt_1 qk_1 qr_1_7 ?_
  refine pn_puti dX10_law_39 rfl lf_X10_96_9 (fpi_9_15 (σ4 1 7)) qt_0 qk_0 qr_0_15 ?_
  refine pn_iload_n dX10_law_42 rfl rfl rfl ?_
  refine pn_if_ne (tgt := 54) dX10_law_43 rfl rfl (fun c5 => ?_) (fun c5 => ?_)
  · exact pn_throw (fun _ _ => rfl) rfl th_X10_127 dX10_law_46 dX10_law_49 dX10_law_50 dX10_law_53
  · refine pn_aload_n dX10_law_54 rfl rfl rfl ?_
    refine pn_geta dX10_law_55 rfl lf_X10_32_9 qt_0 qk_0 qr_0_4 qt_14 ?_
    refine pn_aload_n dX10_law_58 rfl rfl rfl ?_
    refine pn_geta dX10_law_59 rfl lf_X10_36_9 qt_0 qk_0 qr_0_5 qt_21 ?_
    refine pn_cv (fun r9 h9 => pn_LKV dX10_law_62 lm_X10_143 (ct_X2_copy Γ 14 qw_14 21 qw_21 (pn_up σ4 0 15 (σ4 1 7)) r9 h9) (by decide) qt_14 qk_14 rfl rfl (Nat.le_of_ble_eq_true rfl)) rfl (fun σ6 => ?_)
    refine pn_aload_n dX10_law_65 rfl rfl rfl ?_
    refine pn_geta dX10_law_66 rfl lf_X10_70_9 qt_0 qk_0 qr_0_10 qt_41 ?_
    refine pn_cv (fun r9 h9 => pn_LKV dX10_law_69 lm_X10_136 (ct_X5_forget Γ σ6 r9 h9) (by decide) qt_41 qk_41 rfl rfl (Nat.le_of_ble_eq_true rfl)) rfl (fun σ7 => ?_)
    refine pn_aload_n dX10_law_72 rfl rfl rfl ?_
    refine pn_geta dX10_law_73 rfl lf_X10_32_9 qt_0 qk_0 qr_0_4 qt_14 ?_
    refine pn_geti dX10_law_76 rfl lf_X10_146_2 qt_14 qk_14 qr_14_6 ?_
    exact pn_iretv dX10_law_79 rfl rfl rfl

set_option maxRecDepth 20000 in
set_option maxHeartbeats 4000000 in
theorem ct_X10_fault (Γ : pn_G)  (σ : pn_S) : ∀ r, fX10_fault  σ = some r → pn_C Γ 1 mX10_fault [.ref 0] σ ((pn_p σ) r) := by
  refine pn_of (ls := [.ref 0]) (by decide) rfl (pn_cat rfl) rfl (Nat.le_of_ble_eq_true rfl) ?_
  rw [fX10_fault]
  refine pn_aload_n dX10_fault_0 rfl rfl rfl ?_
  refine pn_geti dX10_fault_1 rfl lf_X10_96_9 qt_0 qk_0 qr_0_15 ?_
  exact pn_iretv dX10_fault_4 rfl rfl rfl

set_option maxRecDepth 20000 in
set_option maxHeartbeats 4000000 in
theorem ct_X8_has (Γ : pn_G) (v0 : Nat) (hv0 : pn_isV v0) (a1 : Int32) (σ : pn_S) : ∀ r, fX8_has v0 a1 σ = some r → pn_C Γ 1 mX8_has [.ref v0, .int a1] σ ((pn_p σ) r) := by
  refine pn_of (ls := [.ref v0, .int a1]) (by decide) rfl (pn_cat rfl) rfl (Nat.le_of_ble_eq_true rfl) ?_
  rw [fX8_has]
  refine pn_iload_n dX8_has_0 rfl rfl rfl ?_
  refine pn_if_lt (tgt := 16) dX8_has_1 rfl rfl (fun c1 => ?_) (fun c1 => ?_)
  · refine pn_iconst dX8_has_16 rfl ic_0 ?_
    exact pn_iretv dX8_has_17 rfl rfl rfl
  · refine pn_iload_n dX8_has_4 rfl rfl rfl ?_
    refine pn_aload_n dX8_has_5 rfl rfl rfl ?_
    refine pn_geti dX8_has_6 rfl lf_X8_18_7 hv0.1.1 hv0.1.2 (pn_RVi hv0.1.2 (by decide)) ?_
    refine pn_icmp_ge (tgt := 16) dX8_has_9 rfl rfl (fun c2 => ?_) (fun c2 => ?_)
    · refine pn_iconst dX8_has_16 rfl ic_0 ?_
      exact pn_iretv dX8_has_17 rfl rfl rfl
    · refine pn_iconst dX8_has_12 rfl ic_1 ?_
      refine pn_goto (pc' := 17) dX8_has_13 rfl ?_
      exact pn_iretv dX8_has_17 rfl rfl rfl

set_option maxRecDepth 20000 in
set_option maxHeartbeats 4000000 in
theorem ct_X10_checkPerson (Γ : pn_G) (a1 : Int32) (σ : pn_S) : ∀ r, fX10_checkPerson a1 σ = some r → pn_C Γ 2 mX10_checkPerson [.ref 0, .int a1] σ (pn_xv r) := by
  refine pn_of (ls := [.ref 0, .int a1]) (by decide) rfl (pn_cat rfl) rfl (Nat.le_of_ble_eq_true rfl) ?_
  rw [fX10_checkPerson]
  refine pn_aload_n dX10_checkPerson_0 rfl rfl rfl ?_
  refine pn_geta dX10_checkPerson_1 rfl lf_X10_19_9 qt_0 qk_0 qr_0_1 qt_5 ?_
  refine pn_iload_n dX10_checkPerson_4 rfl rfl rfl ?_
  refine pn_cp (fun r9 h9 => pn_LKV dX10_checkPerson_5 lm_X10_346 (ct_X8_has Γ 5 qv_5 a1 σ r9 h9) (by decide) qt_5 qk_5 rfl rfl (Nat.le_of_ble_eq_true rfl)) rfl (fun x1 => ?_)
  refine pn_if_ne (tgt := 19) dX10_checkPerson_8 rfl rfl (fun c2 => ?_) (fun c2 => ?_)
  · exact pn_throw (fun _ _ => rfl) rfl th_X10_349 dX10_checkPerson_11 dX10_checkPerson_14 dX10_checkPerson_15 dX10_checkPerson_18
  · exact pn_vretv dX10_checkPerson_19 rfl rfl

set_option maxRecDepth 20000 in
set_option maxHeartbeats 4000000 in
theorem ct_X8_of (Γ : pn_G) (v0 : Nat) (hv0 : pn_isV v0) (a1 : Int32) (a2 : Int32) (σ : pn_S) : ∀ r, fX8_of v0 a1 a2 σ = some r → pn_C Γ 1 mX8_of [.ref v0, .int a1, .int a2] σ ((pn_p σ) r) := by
  refine pn_of (ls := [.ref v0, .int a1, .int a2]) (by decide) rfl (pn_cat rfl) rfl (Nat.le_of_ble_eq_true rfl) ?_
  rw [fX8_of]
  refine pn_iload_n dX8_of_0 rfl rfl rfl ?_
  refine pn_if_lt (tgt := 22) dX8_of_1 rfl rfl (fun c1 => ?_) (fun c1 => ?_)
  · refine pn_iconst dX8_of_22 rfl ic_m1 ?_
    exact pn_iretv dX8_of_23 rfl rfl rfl
  · refine pn_iload_n dX8_of_4 rfl rfl rfl ?_
    refine pn_aload_n dX8_of_5 rfl rfl rfl ?_
    refine pn_geti dX8_of_6 rfl lf_X8_18_7 hv0.1.1 hv0.1.2 (pn_RVi hv0.1.2 (by decide)) ?_
    refine pn_icmp_ge (tgt := 22) dX8_of_9 rfl rfl (fun c2 => ?_) (fun c2 => ?_)
    · refine pn_iconst dX8_of_22 rfl ic_m1 ?_
      exact pn_iretv dX8_of_23 rfl rfl rfl
    · refine pn_iload_n dX8_of_12 rfl rfl rfl ?_
      refine pn_if_lt (tgt := 22) dX8_of_13 rfl rfl (fun c3 => ?_) (fun c3 => ?_)
      · refine pn_iconst dX8_of_22 rfl ic_m1 ?_
        exact pn_iretv dX8_of_23 rfl rfl rfl
      · refine pn_iload_n dX8_of_16 rfl rfl rfl ?_
        refine pn_bipush dX8_of_17 rfl bc_8 ?_
        refine pn_icmp_lt (tgt := 24) dX8_of_19 rfl rfl (fun c4 => ?_) (fun c4 => ?_)
        · refine pn_aload_n dX8_of_24 rfl rfl rfl ?_
          refine pn_geta dX8_of_25 rfl lf_X8_9_7 hv0.1.1 hv0.1.2 (pn_RV0 hv0.1.2) hv0.2.1.1 ?_
          refine pn_iload_n dX8_of_28 rfl rfl rfl ?_
          refine pn_bipush dX8_of_29 rfl bc_8 ?_
          refine pn_imul dX8_of_31 rfl ?_
          refine pn_iload_n dX8_of_32 rfl rfl rfl ?_
          refine pn_iadd dX8_of_33 rfl ?_
          refine pn_iald dX8_of_34 rfl hv0.2.1.1 hv0.2.1.2.1 hv0.2.1.2.2 ?_
          exact pn_iretv dX8_of_35 rfl rfl rfl
        · refine pn_iconst dX8_of_22 rfl ic_m1 ?_
          exact pn_iretv dX8_of_23 rfl rfl rfl

set_option maxRecDepth 20000 in
set_option maxHeartbeats 4000000 in
theorem wX10_person_15 (Γ : pn_G)   (σ : pn_S) : pn_W9 Γ 3 mX10_person pn_xi 15 [.null, .null, .null] [] σ (fX10_person_15  σ) := by
  rw [fX10_person_15]
  exact pn_throw (fun _ _ => rfl) rfl th_X10_152 dX10_person_15 dX10_person_18 dX10_person_19 dX10_person_22

set_option maxRecDepth 20000 in
set_option maxHeartbeats 4000000 in
theorem ct_X10_person (Γ : pn_G) (a1 : Int32) (a2 : Int32) (σ : pn_S) : ∀ r, fX10_person a1 a2 σ = some r → pn_C Γ 3 mX10_person [.ref 0, .int a1, .int a2] σ (pn_xi r) := by
  refine pn_of (ls := [.ref 0, .int a1, .int a2]) (by decide) rfl (pn_cat rfl) rfl (Nat.le_of_ble_eq_true rfl) ?_
  rw [fX10_person]
  refine pn_aload_n dX10_person_0 rfl rfl rfl ?_
  refine pn_iload_n dX10_person_1 rfl rfl rfl ?_
  refine pn_cxv (fun _ _ => rfl) rfl (fun r9 h9 => pn_LKV dX10_person_2 lm_X10_149 (ct_X10_checkPerson Γ a1 σ r9 h9) (by decide) qt_0 qk_0 rfl rfl (Nat.le_of_ble_eq_true rfl)) rfl (fun σ1 => ?_)
  refine pn_iload_n dX10_person_5 rfl rfl rfl ?_
  refine pn_if_lt (tgt := 15) dX10_person_6 rfl rfl (fun c2 => ?_) (fun c2 => ?_)
  · exact pn_wk (pn_leN (pn_leN (pn_leN pn_le0))) (wX10_person_15 Γ σ1)
  · refine pn_iload_n dX10_person_9 rfl rfl rfl ?_
    refine pn_bipush dX10_person_10 rfl bc_8 ?_
    refine pn_icmp_lt (tgt := 23) dX10_person_12 rfl rfl (fun c3 => ?_) (fun c3 => ?_)
    · refine pn_aload_n dX10_person_23 rfl rfl rfl ?_
      refine pn_geta dX10_person_24 rfl lf_X10_19_9 qt_0 qk_0 qr_0_1 qt_5 ?_
      refine pn_iload_n dX10_person_27 rfl rfl rfl ?_
      refine pn_iload_n dX10_person_28 rfl rfl rfl ?_
      refine pn_cp (fun r9 h9 => pn_LKV dX10_person_29 lm_X10_155 (ct_X8_of Γ 5 qv_5 a1 a2 σ1 r9 h9) (by decide) qt_5 qk_5 rfl rfl (Nat.le_of_ble_eq_true rfl)) rfl (fun x4 => ?_)
      exact pn_iretv dX10_person_32 rfl rfl rfl
    · exact pn_wk (pn_leN (pn_leN (pn_leN pn_le0))) (wX10_person_15 Γ σ1)

set_option maxRecDepth 20000 in
set_option maxHeartbeats 4000000 in
theorem ct_X10_checkTwo (Γ : pn_G) (a1 : Int32) (a2 : Int32) (σ : pn_S) : ∀ r, fX10_checkTwo a1 a2 σ = some r → pn_C Γ 3 mX10_checkTwo [.ref 0, .int a1, .int a2] σ (pn_xv r) := by
  refine pn_of (ls := [.ref 0, .int a1, .int a2]) (by decide) rfl (pn_cat rfl) rfl (Nat.le_of_ble_eq_true rfl) ?_
  rw [fX10_checkTwo]
  refine pn_aload_n dX10_checkTwo_0 rfl rfl rfl ?_
  refine pn_iload_n dX10_checkTwo_1 rfl rfl rfl ?_
  refine pn_cxv (fun _ _ => rfl) rfl (fun r9 h9 => pn_LKV dX10_checkTwo_2 lm_X10_149 (ct_X10_checkPerson Γ a1 σ r9 h9) (by decide) qt_0 qk_0 rfl rfl (Nat.le_of_ble_eq_true rfl)) rfl (fun σ1 => ?_)
  refine pn_aload_n dX10_checkTwo_5 rfl rfl rfl ?_
  refine pn_iload_n dX10_checkTwo_6 rfl rfl rfl ?_
  refine pn_cxv (fun _ _ => rfl) rfl (fun r9 h9 => pn_LKV dX10_checkTwo_7 lm_X10_149 (ct_X10_checkPerson Γ a2 σ1 r9 h9) (by decide) qt_0 qk_0 rfl rfl (Nat.le_of_ble_eq_true rfl)) rfl (fun σ2 => ?_)
  refine pn_iload_n dX10_checkTwo_10 rfl rfl rfl ?_
  refine pn_iload_n dX10_checkTwo_11 rfl rfl rfl ?_
  refine pn_icmp_ne (tgt := 23) dX10_checkTwo_12 rfl rfl (fun c3 => ?_) (fun c3 => ?_)
  · exact pn_throw (fun _ _ => rfl) rfl th_X10_127 dX10_checkTwo_15 dX10_checkTwo_18 dX10_checkTwo_19 dX10_checkTwo_22
  · exact pn_vretv dX10_checkTwo_23 rfl rfl

set_option maxRecDepth 20000 in
set_option maxHeartbeats 4000000 in
theorem wX2_gatherFacts_145 (Γ : pn_G) (w0 : Nat) (hw0 : pn_isW w0) (v1 : Nat) (hv1 : pn_isV v1) (s1 : Int32) (s2 : Int32) (σ : pn_S) : pn_W9 Γ 2 mX2_gatherFacts pn_v 145 [.null, .null, .null, .null] [.int s2, .int s1, .ref (w0 + 6)] σ (fX2_gatherFacts_145 w0 v1 s1 s2 σ) := by
  rw [fX2_gatherFacts_145]
  refine pn_iast dX2_gatherFacts_145 rfl hw0.2.2.2.2.2.2.1 hw0.2.2.2.2.2.2.2.1 hw0.2.2.2.2.2.2.2.2 ?_
  exact pn_vretv dX2_gatherFacts_146 rfl rfl

set_option maxRecDepth 20000 in
set_option maxHeartbeats 4000000 in
theorem wX2_gatherFacts_113 (Γ : pn_G) (w0 : Nat) (hw0 : pn_isW w0) (v1 : Nat) (hv1 : pn_isV v1) (l3 : Int32) (s1 : Int32) (s2 : Int32) (σ : pn_S) : pn_W9 Γ 2 mX2_gatherFacts pn_v 113 [.ref w0, .ref v1, .null, .int l3] [.int s2, .int s1, .ref (w0 + 6)] σ (fX2_gatherFacts_113 w0 v1 l3 s1 s2 σ) := by
  rw [fX2_gatherFacts_113]
  refine pn_iast dX2_gatherFacts_113 rfl hw0.2.2.2.2.2.2.1 hw0.2.2.2.2.2.2.2.1 hw0.2.2.2.2.2.2.2.2 ?_
  refine pn_aload_n dX2_gatherFacts_114 rfl rfl rfl ?_
  refine pn_geta dX2_gatherFacts_115 rfl lf_X2_27_2 hw0.1.1 hw0.1.2 (pn_RW5 hw0.1.2) hw0.2.2.2.2.2.2.1 ?_
  refine pn_iconst dX2_gatherFacts_118 rfl ic_5 ?_
  refine pn_aload_n dX2_gatherFacts_119 rfl rfl rfl ?_
  refine pn_iload_n dX2_gatherFacts_120 rfl rfl rfl ?_
  refine pn_bipush dX2_gatherFacts_121 rfl bc_6 ?_
  refine pn_cp (fun r9 h9 => pn_LKV dX2_gatherFacts_123 lm_X2_56 (ct_X8_of Γ v1 hv1 l3 (6 : Int32) (pn_up σ (w0 + 6) (Int32.toNatClampNeg s1) s2) r9 h9) (by decide) hv1.1.1 hv1.1.2 rfl rfl (Nat.le_of_ble_eq_true rfl)) rfl (fun x8 => ?_)
  refine pn_iastc dX2_gatherFacts_126 rfl hw0.2.2.2.2.2.2.1 hw0.2.2.2.2.2.2.2.1 hw0.2.2.2.2.2.2.2.2 (by decide) qn_5 ?_
  refine pn_aload_n dX2_gatherFacts_127 rfl rfl rfl ?_
  refine pn_geta dX2_gatherFacts_128 rfl lf_X2_27_2 hw0.1.1 hw0.1.2 (pn_RW5 hw0.1.2) hw0.2.2.2.2.2.2.1 ?_
  refine pn_bipush dX2_gatherFacts_131 rfl bc_23 ?_
  refine pn_aload_n dX2_gatherFacts_133 rfl rfl rfl ?_
  refine pn_geti dX2_gatherFacts_134 rfl lf_X2_80_7 hv1.1.1 hv1.1.2 (pn_RVi hv1.1.2 (by decide)) ?_
  refine pn_if_eq (tgt := 144) dX2_gatherFacts_137 rfl rfl (fun c9 => ?_) (fun c9 => ?_)
  · refine pn_iconst dX2_gatherFacts_144 rfl ic_0 ?_
    exact pn_wk (pn_leN (pn_leN (pn_leN (pn_leN pn_le0)))) (wX2_gatherFacts_145 Γ w0 hw0 v1 hv1 (23 : Int32) (0 : Int32) (pn_up (pn_up σ (w0 + 6) (Int32.toNatClampNeg s1) s2) (w0 + 6) 5 x8))
  · refine pn_iconst dX2_gatherFacts_140 rfl ic_1 ?_
    refine pn_goto (pc' := 145) dX2_gatherFacts_141 rfl ?_
    exact pn_wk (pn_leN (pn_leN (pn_leN (pn_leN pn_le0)))) (wX2_gatherFacts_145 Γ w0 hw0 v1 hv1 (23 : Int32) (1 : Int32) (pn_up (pn_up σ (w0 + 6) (Int32.toNatClampNeg s1) s2) (w0 + 6) 5 x8))

set_option maxRecDepth 20000 in
set_option maxHeartbeats 4000000 in
theorem wX2_gatherFacts_80 (Γ : pn_G) (w0 : Nat) (hw0 : pn_isW w0) (v1 : Nat) (hv1 : pn_isV v1) (l2 : Int32) (l3 : Int32) (s1 : Int32) (s2 : Int32) (σ : pn_S) : pn_W9 Γ 2 mX2_gatherFacts pn_v 80 [.ref w0, .ref v1, .int l2, .int l3] [.int s2, .int s1, .ref (w0 + 6)] σ (fX2_gatherFacts_80 w0 v1 l2 l3 s1 s2 σ) := by
  rw [fX2_gatherFacts_80]
  refine pn_iast dX2_gatherFacts_80 rfl hw0.2.2.2.2.2.2.1 hw0.2.2.2.2.2.2.2.1 hw0.2.2.2.2.2.2.2.2 ?_
  refine pn_aload_n dX2_gatherFacts_81 rfl rfl rfl ?_
  refine pn_geta dX2_gatherFacts_82 rfl lf_X2_27_2 hw0.1.1 hw0.1.2 (pn_RW5 hw0.1.2) hw0.2.2.2.2.2.2.1 ?_
  refine pn_bipush dX2_gatherFacts_85 rfl bc_15 ?_
  refine pn_aload_n dX2_gatherFacts_87 rfl rfl rfl ?_
  refine pn_geti dX2_gatherFacts_88 rfl lf_X2_77_7 hv1.1.1 hv1.1.2 (pn_RVi hv1.1.2 (by decide)) ?_
  refine pn_iastc dX2_gatherFacts_91 rfl hw0.2.2.2.2.2.2.1 hw0.2.2.2.2.2.2.2.1 hw0.2.2.2.2.2.2.2.2 (by decide) qn_15 ?_
  refine pn_aload_n dX2_gatherFacts_92 rfl rfl rfl ?_
  refine pn_geta dX2_gatherFacts_93 rfl lf_X2_27_2 hw0.1.1 hw0.1.2 (pn_RW5 hw0.1.2) hw0.2.2.2.2.2.2.1 ?_
  refine pn_bipush dX2_gatherFacts_96 rfl bc_8 ?_
  refine pn_aload_n dX2_gatherFacts_98 rfl rfl rfl ?_
  refine pn_iload_n dX2_gatherFacts_99 rfl rfl rfl ?_
  refine pn_iconst dX2_gatherFacts_100 rfl ic_5 ?_
  refine pn_cp (fun r9 h9 => pn_LKV dX2_gatherFacts_101 lm_X2_56 (ct_X8_of Γ v1 hv1 l2 (5 : Int32) (pn_up (pn_up σ (w0 + 6) (Int32.toNatClampNeg s1) s2) (w0 + 6) 15 ((pn_up σ (w0 + 6) (Int32.toNatClampNeg s1) s2) v1 6)) r9 h9) (by decide) hv1.1.1 hv1.1.2 rfl rfl (Nat.le_of_ble_eq_true rfl)) rfl (fun x6 => ?_)
  refine pn_iload_n dX2_gatherFacts_104 rfl rfl rfl ?_
  refine pn_icmp_ne (tgt := 112) dX2_gatherFacts_105 rfl rfl (fun c7 => ?_) (fun c7 => ?_)
  · refine pn_iconst dX2_gatherFacts_108 rfl ic_1 ?_
    refine pn_goto (pc' := 113) dX2_gatherFacts_109 rfl ?_
    exact pn_wk (pn_leC rfl (pn_leC rfl (pn_leN (pn_leC rfl pn_le0)))) (wX2_gatherFacts_113 Γ w0 hw0 v1 hv1 l3 (8 : Int32) (1 : Int32) (pn_up (pn_up σ (w0 + 6) (Int32.toNatClampNeg s1) s2) (w0 + 6) 15 ((pn_up σ (w0 + 6) (Int32.toNatClampNeg s1) s2) v1 6)))
  · refine pn_iconst dX2_gatherFacts_112 rfl ic_0 ?_
    exact pn_wk (pn_leC rfl (pn_leC rfl (pn_leN (pn_leC rfl pn_le0)))) (wX2_gatherFacts_113 Γ w0 hw0 v1 hv1 l3 (8 : Int32) (0 : Int32) (pn_up (pn_up σ (w0 + 6) (Int32.toNatClampNeg s1) s2) (w0 + 6) 15 ((pn_up σ (w0 + 6) (Int32.toNatClampNeg s1) s2) v1 6)))

set_option maxRecDepth 20000 in
set_option maxHeartbeats 4000000 in
theorem ct_X2_gatherFacts (Γ : pn_G) (w0 : Nat) (hw0 : pn_isW w0) (v1 : Nat) (hv1 : pn_isV v1) (a2 : Int32) (a3 : Int32) (σ : pn_S) : ∀ r, fX2_gatherFacts w0 v1 a2 a3 σ = some r → pn_C Γ 2 mX2_gatherFacts [.ref w0, .ref v1, .int a2, .int a3] σ (pn_v r) := by
  refine pn_of (ls := [.ref w0, .ref v1, .int a2, .int a3]) (by decide) rfl (pn_cat rfl) rfl (Nat.le_of_ble_eq_true rfl) ?_
  rw [fX2_gatherFacts]
  refine pn_aload_n dX2_gatherFacts_0 rfl rfl rfl ?_
  refine pn_geta dX2_gatherFacts_1 rfl lf_X2_27_2 hw0.1.1 hw0.1.2 (pn_RW5 hw0.1.2) hw0.2.2.2.2.2.2.1 ?_
  refine pn_bipush dX2_gatherFacts_4 rfl bc_24 ?_
  refine pn_iload_n dX2_gatherFacts_6 rfl rfl rfl ?_
  refine pn_iastc dX2_gatherFacts_7 rfl hw0.2.2.2.2.2.2.1 hw0.2.2.2.2.2.2.2.1 hw0.2.2.2.2.2.2.2.2 (by decide) qn_24 ?_
  refine pn_aload_n dX2_gatherFacts_8 rfl rfl rfl ?_
  refine pn_geta dX2_gatherFacts_9 rfl lf_X2_27_2 hw0.1.1 hw0.1.2 (pn_RW5 hw0.1.2) hw0.2.2.2.2.2.2.1 ?_
  refine pn_iconst dX2_gatherFacts_12 rfl ic_2 ?_
  refine pn_aload_n dX2_gatherFacts_13 rfl rfl rfl ?_
  refine pn_iload_n dX2_gatherFacts_14 rfl rfl rfl ?_
  refine pn_iconst dX2_gatherFacts_15 rfl ic_1 ?_
  refine pn_cp (fun r9 h9 => pn_LKV dX2_gatherFacts_16 lm_X2_56 (ct_X8_of Γ v1 hv1 a2 (1 : Int32) (pn_up σ (w0 + 6) 24 a2) r9 h9) (by decide) hv1.1.1 hv1.1.2 rfl rfl (Nat.le_of_ble_eq_true rfl)) rfl (fun x1 => ?_)
  refine pn_iastc dX2_gatherFacts_19 rfl hw0.2.2.2.2.2.2.1 hw0.2.2.2.2.2.2.2.1 hw0.2.2.2.2.2.2.2.2 (by decide) qn_2 ?_
  refine pn_aload_n dX2_gatherFacts_20 rfl rfl rfl ?_
  refine pn_geta dX2_gatherFacts_21 rfl lf_X2_27_2 hw0.1.1 hw0.1.2 (pn_RW5 hw0.1.2) hw0.2.2.2.2.2.2.1 ?_
  refine pn_bipush dX2_gatherFacts_24 rfl bc_25 ?_
  refine pn_aload_n dX2_gatherFacts_26 rfl rfl rfl ?_
  refine pn_iload_n dX2_gatherFacts_27 rfl rfl rfl ?_
  refine pn_iconst dX2_gatherFacts_28 rfl ic_0 ?_
  refine pn_cp (fun r9 h9 => pn_LKV dX2_gatherFacts_29 lm_X2_56 (ct_X8_of Γ v1 hv1 a2 (0 : Int32) (pn_up (pn_up σ (w0 + 6) 24 a2) (w0 + 6) 2 x1) r9 h9) (by decide) hv1.1.1 hv1.1.2 rfl rfl (Nat.le_of_ble_eq_true rfl)) rfl (fun x2 => ?_)
  refine pn_iastc dX2_gatherFacts_32 rfl hw0.2.2.2.2.2.2.1 hw0.2.2.2.2.2.2.2.1 hw0.2.2.2.2.2.2.2.2 (by decide) qn_25 ?_
  refine pn_aload_n dX2_gatherFacts_33 rfl rfl rfl ?_
  refine pn_geta dX2_gatherFacts_34 rfl lf_X2_27_2 hw0.1.1 hw0.1.2 (pn_RW5 hw0.1.2) hw0.2.2.2.2.2.2.1 ?_
  refine pn_bipush dX2_gatherFacts_37 rfl bc_7 ?_
  refine pn_aload_n dX2_gatherFacts_39 rfl rfl rfl ?_
  refine pn_iload_n dX2_gatherFacts_40 rfl rfl rfl ?_
  refine pn_iconst dX2_gatherFacts_41 rfl ic_4 ?_
  refine pn_cp (fun r9 h9 => pn_LKV dX2_gatherFacts_42 lm_X2_56 (ct_X8_of Γ v1 hv1 a3 (4 : Int32) (pn_up (pn_up (pn_up σ (w0 + 6) 24 a2) (w0 + 6) 2 x1) (w0 + 6) 25 x2) r9 h9) (by decide) hv1.1.1 hv1.1.2 rfl rfl (Nat.le_of_ble_eq_true rfl)) rfl (fun x3 => ?_)
  refine pn_iastc dX2_gatherFacts_45 rfl hw0.2.2.2.2.2.2.1 hw0.2.2.2.2.2.2.2.1 hw0.2.2.2.2.2.2.2.2 (by decide) qn_7 ?_
  refine pn_aload_n dX2_gatherFacts_46 rfl rfl rfl ?_
  refine pn_geta dX2_gatherFacts_47 rfl lf_X2_27_2 hw0.1.1 hw0.1.2 (pn_RW5 hw0.1.2) hw0.2.2.2.2.2.2.1 ?_
  refine pn_iconst dX2_gatherFacts_50 rfl ic_4 ?_
  refine pn_aload_n dX2_gatherFacts_51 rfl rfl rfl ?_
  refine pn_iload_n dX2_gatherFacts_52 rfl rfl rfl ?_
  refine pn_iconst dX2_gatherFacts_53 rfl ic_3 ?_
  refine pn_cp (fun r9 h9 => pn_LKV dX2_gatherFacts_54 lm_X2_56 (ct_X8_of Γ v1 hv1 a3 (3 : Int32) (pn_up (pn_up (pn_up (pn_up σ (w0 + 6) 24 a2) (w0 + 6) 2 x1) (w0 + 6) 25 x2) (w0 + 6) 7 x3) r9 h9) (by decide) hv1.1.1 hv1.1.2 rfl rfl (Nat.le_of_ble_eq_true rfl)) rfl (fun x4 => ?_)
  refine pn_iastc dX2_gatherFacts_57 rfl hw0.2.2.2.2.2.2.1 hw0.2.2.2.2.2.2.2.1 hw0.2.2.2.2.2.2.2.2 (by decide) qn_4 ?_
  refine pn_aload_n dX2_gatherFacts_58 rfl rfl rfl ?_
  refine pn_geta dX2_gatherFacts_59 rfl lf_X2_27_2 hw0.1.1 hw0.1.2 (pn_RW5 hw0.1.2) hw0.2.2.2.2.2.2.1 ?_
  refine pn_bipush dX2_gatherFacts_62 rfl bc_26 ?_
  refine pn_aload_n dX2_gatherFacts_64 rfl rfl rfl ?_
  refine pn_geti dX2_gatherFacts_65 rfl lf_X2_71_7 hv1.1.1 hv1.1.2 (pn_RVi hv1.1.2 (by decide)) ?_
  refine pn_iload_n dX2_gatherFacts_68 rfl rfl rfl ?_
  refine pn_icmp_ne (tgt := 79) dX2_gatherFacts_69 rfl rfl (fun c5 => ?_) (fun c5 => ?_)
  · refine pn_aload_n dX2_gatherFacts_72 rfl rfl rfl ?_
    refine pn_geti dX2_gatherFacts_73 rfl lf_X2_74_7 hv1.1.1 hv1.1.2 (pn_RVi hv1.1.2 (by decide)) ?_
    refine pn_goto (pc' := 80) dX2_gatherFacts_76 rfl ?_
    exact wX2_gatherFacts_80 Γ w0 hw0 v1 hv1 a2 a3 (26 : Int32) ((pn_up (pn_up (pn_up (pn_up (pn_up σ (w0 + 6) 24 a2) (w0 + 6) 2 x1) (w0 + 6) 25 x2) (w0 + 6) 7 x3) (w0 + 6) 4 x4) v1 5) (pn_up (pn_up (pn_up (pn_up (pn_up σ (w0 + 6) 24 a2) (w0 + 6) 2 x1) (w0 + 6) 25 x2) (w0 + 6) 7 x3) (w0 + 6) 4 x4)
  · refine pn_iconst dX2_gatherFacts_79 rfl ic_0 ?_
    exact wX2_gatherFacts_80 Γ w0 hw0 v1 hv1 a2 a3 (26 : Int32) (0 : Int32) (pn_up (pn_up (pn_up (pn_up (pn_up σ (w0 + 6) 24 a2) (w0 + 6) 2 x1) (w0 + 6) 25 x2) (w0 + 6) 7 x3) (w0 + 6) 4 x4)

