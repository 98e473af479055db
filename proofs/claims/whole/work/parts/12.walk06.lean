set_option maxRecDepth 20000 in
set_option maxHeartbeats 4000000 in
theorem ct_X11_after (Γ : pn_G) (j0 : Nat) (hj0 : j0 < 28) (a2 : Int32) (a3 : Int32) (σ : pn_S) : ∀ r, fX11_after j0 a2 a3 σ = some r → pn_C Γ 7 mX11_after [.ref 85, .ref (6000 + j0), .int a2, .int a3] σ (pn_i r) := by
  refine pn_of (ls := [.ref 85, .ref (6000 + j0), .int a2, .int a3]) (by decide) rfl (pn_cat rfl) rfl (Nat.le_of_ble_eq_true rfl) ?_
  rw [fX11_after]
  refine pn_aload_n dX11_after_0 rfl rfl rfl ?_
  refine pn_cv (fun r9 h9 => pn_LKV dX11_after_1 lm_X11_99 (ct_X11_letters Γ σ r9 h9) (by decide) qt_85 qk_85 rfl rfl (Nat.le_of_ble_eq_true rfl)) rfl (fun σ1 => ?_)
  refine pn_aload_n dX11_after_4 rfl rfl rfl ?_
  refine pn_aload_n dX11_after_5 rfl rfl rfl ?_
  refine pn_cp (fun r9 h9 => pn_LKV dX11_after_6 lm_X11_102 (ct_X11_isWord Γ j0 hj0 σ1 r9 h9) (by decide) qt_85 qk_85 rfl rfl (Nat.le_of_ble_eq_true rfl)) rfl (fun x2 => ?_)
  refine pn_if_eq (tgt := 21) dX11_after_9 rfl rfl (fun c3 => ?_) (fun c3 => ?_)
  · refine pn_iconst dX11_after_21 rfl ic_m1 ?_
    exact pn_iretv dX11_after_22 rfl rfl rfl
  · refine pn_aload_n dX11_after_12 rfl rfl rfl ?_
    refine pn_iload_n dX11_after_13 rfl rfl rfl ?_
    refine pn_iload_n dX11_after_14 rfl rfl rfl ?_
    refine pn_ci (fun r9 h9 => pn_LKV dX11_after_15 lm_X11_106 (ct_X11_number Γ a2 a3 σ1 r9 h9) (by decide) qt_85 qk_85 rfl rfl (Nat.le_of_ble_eq_true rfl)) rfl (fun x4 σ4 => ?_)
    refine pn_goto (pc' := 22) dX11_after_18 rfl ?_
    exact pn_iretv dX11_after_22 rfl rfl rfl

set_option maxRecDepth 20000 in
set_option maxHeartbeats 4000000 in
theorem ct_X11_fault (Γ : pn_G)  (σ : pn_S) : ∀ r, fX11_fault  σ = some r → pn_C Γ 1 mX11_fault [.ref 85] σ (pn_i r) := by
  refine pn_of (ls := [.ref 85]) (by decide) rfl (pn_cat rfl) rfl (Nat.le_of_ble_eq_true rfl) ?_
  rw [fX11_fault]
  refine pn_aload_n dX11_fault_0 rfl rfl rfl ?_
  refine pn_iconst dX11_fault_1 rfl ic_0 ?_
  refine pn_puti dX11_fault_2 rfl lf_X11_3_10 (fpi_10_0 (0 : Int32)) qt_85 qk_85 qr_85_0 ?_
  refine pn_aload_n dX11_fault_5 rfl rfl rfl ?_
  refine pn_geti dX11_fault_6 rfl lf_X11_33_10 qt_85 qk_85 qr_85_14 ?_
  exact pn_iretv dX11_fault_9 rfl rfl rfl

set_option maxRecDepth 20000 in
set_option maxHeartbeats 4000000 in
theorem ct_X11_uses (Γ : pn_G)  (σ : pn_S) : ∀ r, fX11_uses  σ = some r → pn_C Γ 1 mX11_uses [.ref 85] σ (pn_v r) := by
  refine pn_of (ls := [.ref 85]) (by decide) rfl (pn_cat rfl) rfl (Nat.le_of_ble_eq_true rfl) ?_
  rw [fX11_uses]
  refine pn_aload_n dX11_uses_0 rfl rfl rfl ?_
  refine pn_iconst dX11_uses_1 rfl ic_0 ?_
  refine pn_puti dX11_uses_2 rfl lf_X11_3_10 (fpi_10_0 (0 : Int32)) qt_85 qk_85 qr_85_0 ?_
  refine pn_aload_n dX11_uses_5 rfl rfl rfl ?_
  refine pn_aload_n dX11_uses_6 rfl rfl rfl ?_
  refine pn_geti dX11_uses_7 rfl lf_X11_71_10 qt_85 qk_85 qr_85_9 ?_
  refine pn_puti dX11_uses_10 rfl lf_X11_77_10 (fpi_10_11 ((pn_up σ 85 0 (0 : Int32)) 85 9)) qt_85 qk_85 qr_85_11 ?_
  refine pn_aload_n dX11_uses_13 rfl rfl rfl ?_
  refine pn_iconst dX11_uses_14 rfl ic_0 ?_
  refine pn_puti dX11_uses_15 rfl lf_X11_71_10 (fpi_10_9 (0 : Int32)) qt_85 qk_85 qr_85_9 ?_
  refine pn_aload_n dX11_uses_18 rfl rfl rfl ?_
  refine pn_iconst dX11_uses_19 rfl ic_0 ?_
  refine pn_puti dX11_uses_20 rfl lf_X11_74_10 (fpi_10_10 (0 : Int32)) qt_85 qk_85 qr_85_10 ?_
  exact pn_vretv dX11_uses_23 rfl rfl

set_option maxRecDepth 20000 in
set_option maxHeartbeats 4000000 in
theorem wX11_readNumber_29 (Γ : pn_G)  (l4 : Int32) (s1 : Int32) (s2 : Int32) (σ : pn_S) : pn_W9 Γ 4 mX11_readNumber pn_i 29 [.null, .null, .null, .null, .int l4] [.int s2, .int s1, .ref 86] σ (fX11_readNumber_29 l4 s1 s2 σ) := by
  rw [fX11_readNumber_29]
  refine pn_iast dX11_readNumber_29 rfl qt_86 qk_86 ql_86 ?_
  refine pn_iload dX11_readNumber_30 rfl rfl ?_
  refine pn_if_lt (tgt := 39) dX11_readNumber_32 rfl rfl (fun c3 => ?_) (fun c3 => ?_)
  · refine pn_iconst dX11_readNumber_39 rfl ic_0 ?_
    exact pn_iretv dX11_readNumber_40 rfl rfl rfl
  · refine pn_iconst dX11_readNumber_35 rfl ic_1 ?_
    refine pn_goto (pc' := 40) dX11_readNumber_36 rfl ?_
    exact pn_iretv dX11_readNumber_40 rfl rfl rfl

set_option maxRecDepth 20000 in
set_option maxHeartbeats 4000000 in
theorem ct_X11_readNumber (Γ : pn_G) (a1 : Int32) (a2 : Int32) (a3 : Int32) (σ : pn_S) : ∀ r, fX11_readNumber a1 a2 a3 σ = some r → pn_C Γ 4 mX11_readNumber [.ref 85, .int a1, .int a2, .int a3] σ (pn_i r) := by
  refine pn_of (ls := [.ref 85, .int a1, .int a2, .int a3, .null]) (by decide) rfl (pn_cat rfl) rfl (Nat.le_of_ble_eq_true rfl) ?_
  rw [fX11_readNumber]
  refine pn_aload_n dX11_readNumber_0 rfl rfl rfl ?_
  refine pn_iload_n dX11_readNumber_1 rfl rfl rfl ?_
  refine pn_iload_n dX11_readNumber_2 rfl rfl rfl ?_
  refine pn_ci (fun r9 h9 => pn_LKV dX11_readNumber_3 lm_X11_106 (ct_X11_number Γ a2 a3 σ r9 h9) (by decide) qt_85 qk_85 rfl rfl (Nat.le_of_ble_eq_true rfl)) rfl (fun x1 σ1 => ?_)
  refine pn_istore (ls' := [.ref 85, .int a1, .int a2, .int a3, .int x1]) dX11_readNumber_6 rfl (Nat.le_of_ble_eq_true rfl) rfl ?_
  refine pn_aload_n dX11_readNumber_8 rfl rfl rfl ?_
  refine pn_geta dX11_readNumber_9 rfl lf_X11_13_10 qt_85 qk_85 qr_85_1 qt_86 ?_
  refine pn_iload_n dX11_readNumber_12 rfl rfl rfl ?_
  refine pn_iload dX11_readNumber_13 rfl rfl ?_
  refine pn_if_ge (tgt := 27) dX11_readNumber_15 rfl rfl (fun c2 => ?_) (fun c2 => ?_)
  · refine pn_iload dX11_readNumber_27 rfl rfl ?_
    exact pn_wk (pn_leN (pn_leN (pn_leN (pn_leN (pn_leC rfl pn_le0))))) (wX11_readNumber_29 Γ x1 a1 x1 σ1)
  · refine pn_aload_n dX11_readNumber_18 rfl rfl rfl ?_
    refine pn_geta dX11_readNumber_19 rfl lf_X11_13_10 qt_85 qk_85 qr_85_1 qt_86 ?_
    refine pn_iload_n dX11_readNumber_22 rfl rfl rfl ?_
    refine pn_iald dX11_readNumber_23 rfl qt_86 qk_86 ql_86 ?_
    refine pn_goto (pc' := 29) dX11_readNumber_24 rfl ?_
    exact pn_wk (pn_leN (pn_leN (pn_leN (pn_leN (pn_leC rfl pn_le0))))) (wX11_readNumber_29 Γ x1 a1 (σ1 86 (Int32.toNatClampNeg a1)) σ1)

set_option maxRecDepth 20000 in
set_option maxHeartbeats 4000000 in
theorem ct_X11_personTold (Γ : pn_G)  (σ : pn_S) : ∀ r, fX11_personTold  σ = some r → pn_C Γ 4 mX11_personTold [.ref 85] σ (pn_i r) := by
  refine pn_of (ls := [.ref 85]) (by decide) rfl (pn_cat rfl) rfl (Nat.le_of_ble_eq_true rfl) ?_
  rw [fX11_personTold]
  refine pn_aload_n dX11_personTold_0 rfl rfl rfl ?_
  refine pn_iconst dX11_personTold_1 rfl ic_0 ?_
  refine pn_aload_n dX11_personTold_2 rfl rfl rfl ?_
  refine pn_cp (fun r9 h9 => pn_LKV dX11_personTold_3 lm_X11_55 (ct_X11_people Γ σ r9 h9) (by decide) qt_85 qk_85 rfl rfl (Nat.le_of_ble_eq_true rfl)) rfl (fun x1 => ?_)
  refine pn_iconst dX11_personTold_6 rfl ic_1 ?_
  refine pn_isub dX11_personTold_7 rfl ?_
  refine pn_ci (fun r9 h9 => pn_LKV dX11_personTold_8 lm_X11_106 (ct_X11_number Γ (0 : Int32) (x1 - (1 : Int32)) σ r9 h9) (by decide) qt_85 qk_85 rfl rfl (Nat.le_of_ble_eq_true rfl)) rfl (fun x2 σ2 => ?_)
  exact pn_iretv dX11_personTold_11 rfl rfl rfl

set_option maxRecDepth 20000 in
set_option maxHeartbeats 4000000 in
theorem wX11_readPerson_205 (Γ : pn_G)  (s1 : Int32) (s2 : Int32) (σ : pn_S) : pn_W9 Γ 8 mX11_readPerson pn_i 205 [.ref 85, .null, .null, .null, .null, .null] [.int s2, .int s1, .ref 86] σ (fX11_readPerson_205 s1 s2 σ) := by
  rw [fX11_readPerson_205]
  refine pn_iast dX11_readPerson_205 rfl qt_86 qk_86 ql_86 ?_
  refine pn_aload_n dX11_readPerson_206 rfl rfl rfl ?_
  refine pn_geta dX11_readPerson_207 rfl lf_X11_13_10 qt_85 qk_85 qr_85_1 qt_86 ?_
  refine pn_iconst dX11_readPerson_210 rfl ic_0 ?_
  refine pn_dup2 dX11_readPerson_211 rfl ?_
  refine pn_ialdc dX11_readPerson_212 rfl qt_86 qk_86 ql_86 (by decide) qn_0 ?_
  refine pn_iconst dX11_readPerson_213 rfl ic_1 ?_
  refine pn_iadd dX11_readPerson_214 rfl ?_
  refine pn_iastc dX11_readPerson_215 rfl qt_86 qk_86 ql_86 (by decide) qn_0 ?_
  refine pn_iconst dX11_readPerson_216 rfl ic_1 ?_
  exact pn_iretv dX11_readPerson_217 rfl rfl rfl

set_option maxRecDepth 20000 in
set_option maxHeartbeats 4000000 in
theorem wX11_readPerson_180 (Γ : pn_G)  (l1 : Int32) (s1 : Int32) (s2 : Int32) (σ : pn_S) : pn_W9 Γ 8 mX11_readPerson pn_i 180 [.ref 85, .int l1, .null, .null, .null, .null] [.int s2, .int s1, .ref 86] σ (fX11_readPerson_180 l1 s1 s2 σ) := by
  rw [fX11_readPerson_180]
  refine pn_iast dX11_readPerson_180 rfl qt_86 qk_86 ql_86 ?_
  refine pn_aload_n dX11_readPerson_181 rfl rfl rfl ?_
  refine pn_geta dX11_readPerson_182 rfl lf_X11_13_10 qt_85 qk_85 qr_85_1 qt_86 ?_
  refine pn_iload_n dX11_readPerson_185 rfl rfl rfl ?_
  refine pn_bipush dX11_readPerson_186 rfl bc_7 ?_
  refine pn_cp (fun r9 h9 => pn_LKS dX11_readPerson_188 lm_X11_59 (ct_X11_at Γ l1 (7 : Int32) (pn_up σ 86 (Int32.toNatClampNeg s1) s2) r9 h9) (by decide) rfl rfl (Nat.le_of_ble_eq_true rfl)) rfl (fun x20 => ?_)
  refine pn_aload_n dX11_readPerson_191 rfl rfl rfl ?_
  refine pn_ldcs (j := 7) dX11_readPerson_192 rfl rfl (by decide) ?_
  refine pn_ci (fun r9 h9 => pn_LKV dX11_readPerson_194 lm_X11_122 (ct_X11_passes Γ 7 (by decide) (pn_up σ 86 (Int32.toNatClampNeg s1) s2) r9 h9) (by decide) qt_85 qk_85 rfl rfl (Nat.le_of_ble_eq_true rfl)) rfl (fun x21 σ21 => ?_)
  refine pn_if_eq (tgt := 204) dX11_readPerson_197 rfl rfl (fun c22 => ?_) (fun c22 => ?_)
  · refine pn_iconst dX11_readPerson_204 rfl ic_0 ?_
    exact pn_wk (pn_leC rfl (pn_leN (pn_leN (pn_leN (pn_leN (pn_leN pn_le0)))))) (wX11_readPerson_205 Γ x20 (0 : Int32) σ21)
  · refine pn_iconst dX11_readPerson_200 rfl ic_1 ?_
    refine pn_goto (pc' := 205) dX11_readPerson_201 rfl ?_
    exact pn_wk (pn_leC rfl (pn_leN (pn_leN (pn_leN (pn_leN (pn_leN pn_le0)))))) (wX11_readPerson_205 Γ x20 (1 : Int32) σ21)

set_option maxRecDepth 20000 in
set_option maxHeartbeats 4000000 in
theorem wX11_readPerson_79 (Γ : pn_G)  (l1 : Int32) (l2 : Int32) (l3 : Int32) (l4 : Int32) (s0 : Int32) (σ : pn_S) : pn_W9 Γ 8 mX11_readPerson pn_i 79 [.ref 85, .int l1, .int l2, .int l3, .int l4, .null] [.int s0] σ (fX11_readPerson_79 l1 l2 l3 l4 s0 σ) := by
  rw [fX11_readPerson_79]
  refine pn_istore (ls' := [.ref 85, .int l1, .int l2, .int l3, .int l4, .int s0]) dX11_readPerson_79 rfl (Nat.le_of_ble_eq_true rfl) rfl ?_
  refine pn_iload dX11_readPerson_81 rfl rfl ?_
  refine pn_if_ge (tgt := 88) dX11_readPerson_83 rfl rfl (fun c10 => ?_) (fun c10 => ?_)
  · refine pn_aload_n dX11_readPerson_88 rfl rfl rfl ?_
    refine pn_geta dX11_readPerson_89 rfl lf_X11_13_10 qt_85 qk_85 qr_85_1 qt_86 ?_
    refine pn_iload_n dX11_readPerson_92 rfl rfl rfl ?_
    refine pn_iconst dX11_readPerson_93 rfl ic_0 ?_
    refine pn_cp (fun r9 h9 => pn_LKS dX11_readPerson_94 lm_X11_59 (ct_X11_at Γ l1 (0 : Int32) σ r9 h9) (by decide) rfl rfl (Nat.le_of_ble_eq_true rfl)) rfl (fun x11 => ?_)
    refine pn_iload_n dX11_readPerson_97 rfl rfl rfl ?_
    refine pn_iast dX11_readPerson_98 rfl qt_86 qk_86 ql_86 ?_
    refine pn_aload_n dX11_readPerson_99 rfl rfl rfl ?_
    refine pn_geta dX11_readPerson_100 rfl lf_X11_13_10 qt_85 qk_85 qr_85_1 qt_86 ?_
    refine pn_iload_n dX11_readPerson_103 rfl rfl rfl ?_
    refine pn_iconst dX11_readPerson_104 rfl ic_1 ?_
    refine pn_cp (fun r9 h9 => pn_LKS dX11_readPerson_105 lm_X11_59 (ct_X11_at Γ l1 (1 : Int32) (pn_up σ 86 (Int32.toNatClampNeg x11) l2) r9 h9) (by decide) rfl rfl (Nat.le_of_ble_eq_true rfl)) rfl (fun x12 => ?_)
    refine pn_iload_n dX11_readPerson_108 rfl rfl rfl ?_
    refine pn_iast dX11_readPerson_109 rfl qt_86 qk_86 ql_86 ?_
    refine pn_aload_n dX11_readPerson_110 rfl rfl rfl ?_
    refine pn_geta dX11_readPerson_111 rfl lf_X11_13_10 qt_85 qk_85 qr_85_1 qt_86 ?_
    refine pn_iload_n dX11_readPerson_114 rfl rfl rfl ?_
    refine pn_iconst dX11_readPerson_115 rfl ic_2 ?_
    refine pn_cp (fun r9 h9 => pn_LKS dX11_readPerson_116 lm_X11_59 (ct_X11_at Γ l1 (2 : Int32) (pn_up (pn_up σ 86 (Int32.toNatClampNeg x11) l2) 86 (Int32.toNatClampNeg x12) l3) r9 h9) (by decide) rfl rfl (Nat.le_of_ble_eq_true rfl)) rfl (fun x13 => ?_)
    refine pn_iload dX11_readPerson_119 rfl rfl ?_
    refine pn_iast dX11_readPerson_121 rfl qt_86 qk_86 ql_86 ?_
    refine pn_aload_n dX11_readPerson_122 rfl rfl rfl ?_
    refine pn_geta dX11_readPerson_123 rfl lf_X11_13_10 qt_85 qk_85 qr_85_1 qt_86 ?_
    refine pn_iload_n dX11_readPerson_126 rfl rfl rfl ?_
    refine pn_iconst dX11_readPerson_127 rfl ic_3 ?_
    refine pn_cp (fun r9 h9 => pn_LKS dX11_readPerson_128 lm_X11_59 (ct_X11_at Γ l1 (3 : Int32) (pn_up (pn_up (pn_up σ 86 (Int32.toNatClampNeg x11) l2) 86 (Int32.toNatClampNeg x12) l3) 86 (Int32.toNatClampNeg x13) l4) r9 h9) (by decide) rfl rfl (Nat.le_of_ble_eq_true rfl)) rfl (fun x14 => ?_)
    refine pn_iload dX11_readPerson_131 rfl rfl ?_
    refine pn_iast dX11_readPerson_133 rfl qt_86 qk_86 ql_86 ?_
    refine pn_aload_n dX11_readPerson_134 rfl rfl rfl ?_
    refine pn_geta dX11_readPerson_135 rfl lf_X11_13_10 qt_85 qk_85 qr_85_1 qt_86 ?_
    refine pn_iload_n dX11_readPerson_138 rfl rfl rfl ?_
    refine pn_iconst dX11_readPerson_139 rfl ic_4 ?_
    refine pn_cp (fun r9 h9 => pn_LKS dX11_readPerson_140 lm_X11_59 (ct_X11_at Γ l1 (4 : Int32) (pn_up (pn_up (pn_up (pn_up σ 86 (Int32.toNatClampNeg x11) l2) 86 (Int32.toNatClampNeg x12) l3) 86 (Int32.toNatClampNeg x13) l4) 86 (Int32.toNatClampNeg x14) s0) r9 h9) (by decide) rfl rfl (Nat.le_of_ble_eq_true rfl)) rfl (fun x15 => ?_)
    refine pn_iconst dX11_readPerson_143 rfl ic_0 ?_
    refine pn_iast dX11_readPerson_144 rfl qt_86 qk_86 ql_86 ?_
    refine pn_aload_n dX11_readPerson_145 rfl rfl rfl ?_
    refine pn_geta dX11_readPerson_146 rfl lf_X11_13_10 qt_85 qk_85 qr_85_1 qt_86 ?_
    refine pn_iload_n dX11_readPerson_149 rfl rfl rfl ?_
    refine pn_iconst dX11_readPerson_150 rfl ic_5 ?_
    refine pn_cp (fun r9 h9 => pn_LKS dX11_readPerson_151 lm_X11_59 (ct_X11_at Γ l1 (5 : Int32) (pn_up (pn_up (pn_up (pn_up (pn_up σ 86 (Int32.toNatClampNeg x11) l2) 86 (Int32.toNatClampNeg x12) l3) 86 (Int32.toNatClampNeg x13) l4) 86 (Int32.toNatClampNeg x14) s0) 86 (Int32.toNatClampNeg x15) (0 : Int32)) r9 h9) (by decide) rfl rfl (Nat.le_of_ble_eq_true rfl)) rfl (fun x16 => ?_)
    refine pn_iconst dX11_readPerson_154 rfl ic_m1 ?_
    refine pn_iast dX11_readPerson_155 rfl qt_86 qk_86 ql_86 ?_
    refine pn_aload_n dX11_readPerson_156 rfl rfl rfl ?_
    refine pn_geta dX11_readPerson_157 rfl lf_X11_13_10 qt_85 qk_85 qr_85_1 qt_86 ?_
    refine pn_iload_n dX11_readPerson_160 rfl rfl rfl ?_
    refine pn_bipush dX11_readPerson_161 rfl bc_6 ?_
    refine pn_cp (fun r9 h9 => pn_LKS dX11_readPerson_163 lm_X11_59 (ct_X11_at Γ l1 (6 : Int32) (pn_up (pn_up (pn_up (pn_up (pn_up (pn_up σ 86 (Int32.toNatClampNeg x11) l2) 86 (Int32.toNatClampNeg x12) l3) 86 (Int32.toNatClampNeg x13) l4) 86 (Int32.toNatClampNeg x14) s0) 86 (Int32.toNatClampNeg x15) (0 : Int32)) 86 (Int32.toNatClampNeg x16) (-1 : Int32)) r9 h9) (by decide) rfl rfl (Nat.le_of_ble_eq_true rfl)) rfl (fun x17 => ?_)
    refine pn_aload_n dX11_readPerson_166 rfl rfl rfl ?_
    refine pn_ldcs (j := 6) dX11_readPerson_167 rfl rfl (by decide) ?_
    refine pn_ci (fun r9 h9 => pn_LKV dX11_readPerson_169 lm_X11_122 (ct_X11_passes Γ 6 (by decide) (pn_up (pn_up (pn_up (pn_up (pn_up (pn_up σ 86 (Int32.toNatClampNeg x11) l2) 86 (Int32.toNatClampNeg x12) l3) 86 (Int32.toNatClampNeg x13) l4) 86 (Int32.toNatClampNeg x14) s0) 86 (Int32.toNatClampNeg x15) (0 : Int32)) 86 (Int32.toNatClampNeg x16) (-1 : Int32)) r9 h9) (by decide) qt_85 qk_85 rfl rfl (Nat.le_of_ble_eq_true rfl)) rfl (fun x18 σ18 => ?_)
    refine pn_if_eq (tgt := 179) dX11_readPerson_172 rfl rfl (fun c19 => ?_) (fun c19 => ?_)
    · refine pn_iconst dX11_readPerson_179 rfl ic_0 ?_
      exact pn_wk (pn_leC rfl (pn_leC rfl (pn_leN (pn_leN (pn_leN (pn_leN pn_le0)))))) (wX11_readPerson_180 Γ l1 x17 (0 : Int32) σ18)
    · refine pn_iconst dX11_readPerson_175 rfl ic_1 ?_
      refine pn_goto (pc' := 180) dX11_readPerson_176 rfl ?_
      exact pn_wk (pn_leC rfl (pn_leC rfl (pn_leN (pn_leN (pn_leN (pn_leN pn_le0)))))) (wX11_readPerson_180 Γ l1 x17 (1 : Int32) σ18)
  · refine pn_iconst dX11_readPerson_86 rfl ic_0 ?_
    exact pn_iretv dX11_readPerson_87 rfl rfl rfl

set_option maxRecDepth 20000 in
set_option maxHeartbeats 4000000 in
theorem wX11_readPerson_58 (Γ : pn_G)  (l1 : Int32) (l2 : Int32) (l3 : Int32) (s0 : Int32) (σ : pn_S) : pn_W9 Γ 8 mX11_readPerson pn_i 58 [.ref 85, .int l1, .int l2, .int l3, .null, .null] [.int s0] σ (fX11_readPerson_58 l1 l2 l3 s0 σ) := by
  rw [fX11_readPerson_58]
  refine pn_istore (ls' := [.ref 85, .int l1, .int l2, .int l3, .int s0, .null]) dX11_readPerson_58 rfl (Nat.le_of_ble_eq_true rfl) rfl ?_
  refine pn_iload dX11_readPerson_60 rfl rfl ?_
  refine pn_if_ge (tgt := 69) dX11_readPerson_62 rfl rfl (fun c8 => ?_) (fun c8 => ?_)
  · refine pn_aload_n dX11_readPerson_69 rfl rfl rfl ?_
    refine pn_ldcs (j := 5) dX11_readPerson_70 rfl rfl (by decide) ?_
    refine pn_iconst dX11_readPerson_72 rfl ic_0 ?_
    refine pn_sipush dX11_readPerson_73 rfl sc_999 ?_
    refine pn_ci (fun r9 h9 => pn_LKV dX11_readPerson_76 lm_X11_110 (ct_X11_after Γ 5 (by decide) (0 : Int32) (999 : Int32) σ r9 h9) (by decide) qt_85 qk_85 rfl rfl (Nat.le_of_ble_eq_true rfl)) rfl (fun x9 σ9 => ?_)
    exact wX11_readPerson_79 Γ l1 l2 l3 s0 x9 σ9
  · refine pn_iconst dX11_readPerson_65 rfl ic_m1 ?_
    refine pn_goto (pc' := 79) dX11_readPerson_66 rfl ?_
    exact wX11_readPerson_79 Γ l1 l2 l3 s0 (-1 : Int32) σ

set_option maxRecDepth 20000 in
set_option maxHeartbeats 4000000 in
theorem wX11_readPerson_40 (Γ : pn_G)  (l1 : Int32) (l2 : Int32) (s0 : Int32) (σ : pn_S) : pn_W9 Γ 8 mX11_readPerson pn_i 40 [.ref 85, .int l1, .int l2, .null, .null, .null] [.int s0] σ (fX11_readPerson_40 l1 l2 s0 σ) := by
  rw [fX11_readPerson_40]
  refine pn_istore_n (ls' := [.ref 85, .int l1, .int l2, .int s0, .null, .null]) dX11_readPerson_40 rfl rfl (Nat.le_of_ble_eq_true rfl) rfl ?_
  refine pn_iload_n dX11_readPerson_41 rfl rfl rfl ?_
  refine pn_if_ge (tgt := 49) dX11_readPerson_42 rfl rfl (fun c6 => ?_) (fun c6 => ?_)
  · refine pn_aload_n dX11_readPerson_49 rfl rfl rfl ?_
    refine pn_ldcs (j := 4) dX11_readPerson_50 rfl rfl (by decide) ?_
    refine pn_iconst dX11_readPerson_52 rfl ic_0 ?_
    refine pn_bipush dX11_readPerson_53 rfl bc_99 ?_
    refine pn_ci (fun r9 h9 => pn_LKV dX11_readPerson_55 lm_X11_110 (ct_X11_after Γ 4 (by decide) (0 : Int32) (99 : Int32) σ r9 h9) (by decide) qt_85 qk_85 rfl rfl (Nat.le_of_ble_eq_true rfl)) rfl (fun x7 σ7 => ?_)
    exact wX11_readPerson_58 Γ l1 l2 s0 x7 σ7
  · refine pn_iconst dX11_readPerson_45 rfl ic_m1 ?_
    refine pn_goto (pc' := 58) dX11_readPerson_46 rfl ?_
    exact wX11_readPerson_58 Γ l1 l2 s0 (-1 : Int32) σ

set_option maxRecDepth 20000 in
set_option maxHeartbeats 4000000 in
theorem ct_X11_readPerson (Γ : pn_G)  (σ : pn_S) : ∀ r, fX11_readPerson  σ = some r → pn_C Γ 8 mX11_readPerson [.ref 85] σ (pn_i r) := by
  refine pn_of (ls := [.ref 85, .null, .null, .null, .null, .null]) (by decide) rfl (pn_cat rfl) rfl (Nat.le_of_ble_eq_true rfl) ?_
  rw [fX11_readPerson]
  refine pn_aload_n dX11_readPerson_0 rfl rfl rfl ?_
  refine pn_cp (fun r9 h9 => pn_LKV dX11_readPerson_1 lm_X11_55 (ct_X11_people Γ σ r9 h9) (by decide) qt_85 qk_85 rfl rfl (Nat.le_of_ble_eq_true rfl)) rfl (fun x1 => ?_)
  refine pn_istore_n (ls' := [.ref 85, .int x1, .null, .null, .null, .null]) dX11_readPerson_4 rfl rfl (Nat.le_of_ble_eq_true rfl) rfl ?_
  refine pn_iload_n dX11_readPerson_5 rfl rfl rfl ?_
  refine pn_bipush dX11_readPerson_6 rfl bc_8 ?_
  refine pn_icmp_ne (tgt := 13) dX11_readPerson_8 rfl rfl (fun c2 => ?_) (fun c2 => ?_)
  · refine pn_iconst dX11_readPerson_11 rfl ic_0 ?_
    exact pn_iretv dX11_readPerson_12 rfl rfl rfl
  · refine pn_aload_n dX11_readPerson_13 rfl rfl rfl ?_
    refine pn_ldcs (j := 2) dX11_readPerson_14 rfl rfl (by decide) ?_
    refine pn_iconst dX11_readPerson_16 rfl ic_0 ?_
    refine pn_bipush dX11_readPerson_17 rfl bc_8 ?_
    refine pn_ci (fun r9 h9 => pn_LKV dX11_readPerson_19 lm_X11_110 (ct_X11_after Γ 2 (by decide) (0 : Int32) (8 : Int32) σ r9 h9) (by decide) qt_85 qk_85 rfl rfl (Nat.le_of_ble_eq_true rfl)) rfl (fun x3 σ3 => ?_)
    refine pn_istore_n (ls' := [.ref 85, .int x1, .int x3, .null, .null, .null]) dX11_readPerson_22 rfl rfl (Nat.le_of_ble_eq_true rfl) rfl ?_
    refine pn_iload_n dX11_readPerson_23 rfl rfl rfl ?_
    refine pn_if_ge (tgt := 31) dX11_readPerson_24 rfl rfl (fun c4 => ?_) (fun c4 => ?_)
    · refine pn_aload_n dX11_readPerson_31 rfl rfl rfl ?_
      refine pn_ldcs (j := 3) dX11_readPerson_32 rfl rfl (by decide) ?_
      refine pn_iconst dX11_readPerson_34 rfl ic_0 ?_
      refine pn_bipush dX11_readPerson_35 rfl bc_9 ?_
      refine pn_ci (fun r9 h9 => pn_LKV dX11_readPerson_37 lm_X11_110 (ct_X11_after Γ 3 (by decide) (0 : Int32) (9 : Int32) σ3 r9 h9) (by decide) qt_85 qk_85 rfl rfl (Nat.le_of_ble_eq_true rfl)) rfl (fun x5 σ5 => ?_)
      exact wX11_readPerson_40 Γ x1 x3 x5 σ5
    · refine pn_iconst dX11_readPerson_27 rfl ic_m1 ?_
      refine pn_goto (pc' := 40) dX11_readPerson_28 rfl ?_
      exact wX11_readPerson_40 Γ x1 x3 (-1 : Int32) σ3

set_option maxRecDepth 20000 in
set_option maxHeartbeats 4000000 in
theorem ct_X11_readWrong (Γ : pn_G)  (σ : pn_S) : ∀ r, fX11_readWrong  σ = some r → pn_C Γ 5 mX11_readWrong [.ref 85] σ (pn_i r) := by
  refine pn_of (ls := [.ref 85, .null]) (by decide) rfl (pn_cat rfl) rfl (Nat.le_of_ble_eq_true rfl) ?_
  rw [fX11_readWrong]
  refine pn_aload_n dX11_readWrong_0 rfl rfl rfl ?_
  refine pn_ci (fun r9 h9 => pn_LKV dX11_readWrong_1 lm_X11_127 (ct_X11_personTold Γ σ r9 h9) (by decide) qt_85 qk_85 rfl rfl (Nat.le_of_ble_eq_true rfl)) rfl (fun x1 σ1 => ?_)
  refine pn_istore_n (ls' := [.ref 85, .int x1]) dX11_readWrong_4 rfl rfl (Nat.le_of_ble_eq_true rfl) rfl ?_
  refine pn_iload_n dX11_readWrong_5 rfl rfl rfl ?_
  refine pn_if_lt (tgt := 28) dX11_readWrong_6 rfl rfl (fun c2 => ?_) (fun c2 => ?_)
  · refine pn_iconst dX11_readWrong_28 rfl ic_0 ?_
    exact pn_iretv dX11_readWrong_29 rfl rfl rfl
  · refine pn_aload_n dX11_readWrong_9 rfl rfl rfl ?_
    refine pn_iload_n dX11_readWrong_10 rfl rfl rfl ?_
    refine pn_iconst dX11_readWrong_11 rfl ic_4 ?_
    refine pn_cp (fun r9 h9 => pn_LKS dX11_readWrong_12 lm_X11_59 (ct_X11_at Γ x1 (4 : Int32) σ1 r9 h9) (by decide) rfl rfl (Nat.le_of_ble_eq_true rfl)) rfl (fun x3 => ?_)
    refine pn_iconst dX11_readWrong_15 rfl ic_0 ?_
    refine pn_bipush dX11_readWrong_16 rfl bc_9 ?_
    refine pn_ci (fun r9 h9 => pn_LKV dX11_readWrong_18 lm_X11_130 (ct_X11_readNumber Γ x3 (0 : Int32) (9 : Int32) σ1 r9 h9) (by decide) qt_85 qk_85 rfl rfl (Nat.le_of_ble_eq_true rfl)) rfl (fun x4 σ4 => ?_)
    refine pn_if_eq (tgt := 28) dX11_readWrong_21 rfl rfl (fun c5 => ?_) (fun c5 => ?_)
    · refine pn_iconst dX11_readWrong_28 rfl ic_0 ?_
      exact pn_iretv dX11_readWrong_29 rfl rfl rfl
    · refine pn_iconst dX11_readWrong_24 rfl ic_1 ?_
      refine pn_goto (pc' := 29) dX11_readWrong_25 rfl ?_
      exact pn_iretv dX11_readWrong_29 rfl rfl rfl

set_option maxRecDepth 20000 in
set_option maxHeartbeats 4000000 in
theorem wX11_readFeud_26 (Γ : pn_G)  (l1 : Int32) (s0 : Int32) (σ : pn_S) : pn_W9 Γ 8 mX11_readFeud pn_i 26 [.ref 85, .int l1, .null] [.int s0] σ (fX11_readFeud_26 l1 s0 σ) := by
  rw [fX11_readFeud_26]
  refine pn_istore_n (ls' := [.ref 85, .int l1, .int s0]) dX11_readFeud_26 rfl rfl (Nat.le_of_ble_eq_true rfl) rfl ?_
  refine pn_iload_n dX11_readFeud_27 rfl rfl rfl ?_
  refine pn_if_lt (tgt := 36) dX11_readFeud_28 rfl rfl (fun c5 => ?_) (fun c5 => ?_)
  · refine pn_iconst dX11_readFeud_36 rfl ic_0 ?_
    exact pn_iretv dX11_readFeud_37 rfl rfl rfl
  · refine pn_iload_n dX11_readFeud_31 rfl rfl rfl ?_
    refine pn_iload_n dX11_readFeud_32 rfl rfl rfl ?_
    refine pn_icmp_ne (tgt := 38) dX11_readFeud_33 rfl rfl (fun c6 => ?_) (fun c6 => ?_)
    · refine pn_iconst dX11_readFeud_36 rfl ic_0 ?_
      exact pn_iretv dX11_readFeud_37 rfl rfl rfl
    · refine pn_aload_n dX11_readFeud_38 rfl rfl rfl ?_
      refine pn_geta dX11_readFeud_39 rfl lf_X11_13_10 qt_85 qk_85 qr_85_1 qt_86 ?_
      refine pn_iload_n dX11_readFeud_42 rfl rfl rfl ?_
      refine pn_iconst dX11_readFeud_43 rfl ic_5 ?_
      refine pn_cp (fun r9 h9 => pn_LKS dX11_readFeud_44 lm_X11_59 (ct_X11_at Γ l1 (5 : Int32) σ r9 h9) (by decide) rfl rfl (Nat.le_of_ble_eq_true rfl)) rfl (fun x7 => ?_)
      refine pn_iload_n dX11_readFeud_47 rfl rfl rfl ?_
      refine pn_iast dX11_readFeud_48 rfl qt_86 qk_86 ql_86 ?_
      refine pn_iconst dX11_readFeud_49 rfl ic_1 ?_
      exact pn_iretv dX11_readFeud_50 rfl rfl rfl

set_option maxRecDepth 20000 in
set_option maxHeartbeats 4000000 in
theorem ct_X11_readFeud (Γ : pn_G)  (σ : pn_S) : ∀ r, fX11_readFeud  σ = some r → pn_C Γ 8 mX11_readFeud [.ref 85] σ (pn_i r) := by
  refine pn_of (ls := [.ref 85, .null, .null]) (by decide) rfl (pn_cat rfl) rfl (Nat.le_of_ble_eq_true rfl) ?_
  rw [fX11_readFeud]
  refine pn_aload_n dX11_readFeud_0 rfl rfl rfl ?_
  refine pn_ci (fun r9 h9 => pn_LKV dX11_readFeud_1 lm_X11_127 (ct_X11_personTold Γ σ r9 h9) (by decide) qt_85 qk_85 rfl rfl (Nat.le_of_ble_eq_true rfl)) rfl (fun x1 σ1 => ?_)
  refine pn_istore_n (ls' := [.ref 85, .int x1, .null]) dX11_readFeud_4 rfl rfl (Nat.le_of_ble_eq_true rfl) rfl ?_
  refine pn_iload_n dX11_readFeud_5 rfl rfl rfl ?_
  refine pn_if_ge (tgt := 13) dX11_readFeud_6 rfl rfl (fun c2 => ?_) (fun c2 => ?_)
  · refine pn_aload_n dX11_readFeud_13 rfl rfl rfl ?_
    refine pn_ldcs (j := 10) dX11_readFeud_14 rfl rfl (by decide) ?_
    refine pn_iconst dX11_readFeud_16 rfl ic_0 ?_
    refine pn_aload_n dX11_readFeud_17 rfl rfl rfl ?_
    refine pn_cp (fun r9 h9 => pn_LKV dX11_readFeud_18 lm_X11_55 (ct_X11_people Γ σ1 r9 h9) (by decide) qt_85 qk_85 rfl rfl (Nat.le_of_ble_eq_true rfl)) rfl (fun x3 => ?_)
    refine pn_iconst dX11_readFeud_21 rfl ic_1 ?_
    refine pn_isub dX11_readFeud_22 rfl ?_
    refine pn_ci (fun r9 h9 => pn_LKV dX11_readFeud_23 lm_X11_110 (ct_X11_after Γ 10 (by decide) (0 : Int32) (x3 - (1 : Int32)) σ1 r9 h9) (by decide) qt_85 qk_85 rfl rfl (Nat.le_of_ble_eq_true rfl)) rfl (fun x4 σ4 => ?_)
    exact wX11_readFeud_26 Γ x1 x4 σ4
  · refine pn_iconst dX11_readFeud_9 rfl ic_m1 ?_
    refine pn_goto (pc' := 26) dX11_readFeud_10 rfl ?_
    exact wX11_readFeud_26 Γ x1 (-1 : Int32) σ1

set_option maxRecDepth 20000 in
set_option maxHeartbeats 4000000 in
theorem ct_X11_readTarget (Γ : pn_G)  (σ : pn_S) : ∀ r, fX11_readTarget  σ = some r → pn_C Γ 5 mX11_readTarget [.ref 85] σ (pn_i r) := by
  refine pn_of (ls := [.ref 85, .null]) (by decide) rfl (pn_cat rfl) rfl (Nat.le_of_ble_eq_true rfl) ?_
  rw [fX11_readTarget]
  refine pn_aload_n dX11_readTarget_0 rfl rfl rfl ?_
  refine pn_ci (fun r9 h9 => pn_LKV dX11_readTarget_1 lm_X11_127 (ct_X11_personTold Γ σ r9 h9) (by decide) qt_85 qk_85 rfl rfl (Nat.le_of_ble_eq_true rfl)) rfl (fun x1 σ1 => ?_)
  refine pn_istore_n (ls' := [.ref 85, .int x1]) dX11_readTarget_4 rfl rfl (Nat.le_of_ble_eq_true rfl) rfl ?_
  refine pn_iload_n dX11_readTarget_5 rfl rfl rfl ?_
  refine pn_if_ge (tgt := 11) dX11_readTarget_6 rfl rfl (fun c2 => ?_) (fun c2 => ?_)
  · refine pn_aload_n dX11_readTarget_11 rfl rfl rfl ?_
    refine pn_geta dX11_readTarget_12 rfl lf_X11_13_10 qt_85 qk_85 qr_85_1 qt_86 ?_
    refine pn_iconst dX11_readTarget_15 rfl ic_5 ?_
    refine pn_iload_n dX11_readTarget_16 rfl rfl rfl ?_
    refine pn_iastc dX11_readTarget_17 rfl qt_86 qk_86 ql_86 (by decide) qn_5 ?_
    refine pn_aload_n dX11_readTarget_18 rfl rfl rfl ?_
    refine pn_geta dX11_readTarget_19 rfl lf_X11_13_10 qt_85 qk_85 qr_85_1 qt_86 ?_
    refine pn_bipush dX11_readTarget_22 rfl bc_6 ?_
    refine pn_iconst dX11_readTarget_24 rfl ic_0 ?_
    refine pn_iastc dX11_readTarget_25 rfl qt_86 qk_86 ql_86 (by decide) qn_6 ?_
    refine pn_iconst dX11_readTarget_26 rfl ic_1 ?_
    exact pn_iretv dX11_readTarget_27 rfl rfl rfl
  · refine pn_iconst dX11_readTarget_9 rfl ic_0 ?_
    exact pn_iretv dX11_readTarget_10 rfl rfl rfl

set_option maxRecDepth 20000 in
set_option maxHeartbeats 4000000 in
theorem ct_X11_readVillageLine (Γ : pn_G)  (σ : pn_S) : ∀ r, fX11_readVillageLine  σ = some r → pn_C Γ 9 mX11_readVillageLine [.ref 85] σ (pn_i r) := by
  refine pn_of (ls := [.ref 85]) (by decide) rfl (pn_cat rfl) rfl (Nat.le_of_ble_eq_true rfl) ?_
  rw [fX11_readVillageLine]
  refine pn_aload_n dX11_readVillageLine_0 rfl rfl rfl ?_
  refine pn_ldcs (j := 1) dX11_readVillageLine_1 rfl rfl (by decide) ?_
  refine pn_cp (fun r9 h9 => pn_LKV dX11_readVillageLine_3 lm_X11_102 (ct_X11_isWord Γ 1 (by decide) σ r9 h9) (by decide) qt_85 qk_85 rfl rfl (Nat.le_of_ble_eq_true rfl)) rfl (fun x1 => ?_)
  refine pn_if_eq (tgt := 14) dX11_readVillageLine_6 rfl rfl (fun c2 => ?_) (fun c2 => ?_)
  · refine pn_aload_n dX11_readVillageLine_14 rfl rfl rfl ?_
    refine pn_ldcs (j := 8) dX11_readVillageLine_15 rfl rfl (by decide) ?_
    refine pn_cp (fun r9 h9 => pn_LKV dX11_readVillageLine_17 lm_X11_102 (ct_X11_isWord Γ 8 (by decide) σ r9 h9) (by decide) qt_85 qk_85 rfl rfl (Nat.le_of_ble_eq_true rfl)) rfl (fun x3 => ?_)
    refine pn_if_eq (tgt := 28) dX11_readVillageLine_20 rfl rfl (fun c4 => ?_) (fun c4 => ?_)
    · refine pn_aload_n dX11_readVillageLine_28 rfl rfl rfl ?_
      refine pn_ldcs (j := 9) dX11_readVillageLine_29 rfl rfl (by decide) ?_
      refine pn_cp (fun r9 h9 => pn_LKV dX11_readVillageLine_31 lm_X11_102 (ct_X11_isWord Γ 9 (by decide) σ r9 h9) (by decide) qt_85 qk_85 rfl rfl (Nat.le_of_ble_eq_true rfl)) rfl (fun x5 => ?_)
      refine pn_if_eq (tgt := 42) dX11_readVillageLine_34 rfl rfl (fun c6 => ?_) (fun c6 => ?_)
      · refine pn_aload_n dX11_readVillageLine_42 rfl rfl rfl ?_
        refine pn_ldcs (j := 11) dX11_readVillageLine_43 rfl rfl (by decide) ?_
        refine pn_cp (fun r9 h9 => pn_LKV dX11_readVillageLine_45 lm_X11_102 (ct_X11_isWord Γ 11 (by decide) σ r9 h9) (by decide) qt_85 qk_85 rfl rfl (Nat.le_of_ble_eq_true rfl)) rfl (fun x7 => ?_)
        refine pn_if_eq (tgt := 56) dX11_readVillageLine_48 rfl rfl (fun c8 => ?_) (fun c8 => ?_)
        · refine pn_aload_n dX11_readVillageLine_56 rfl rfl rfl ?_
          refine pn_ldcs (j := 12) dX11_readVillageLine_57 rfl rfl (by decide) ?_
          refine pn_cp (fun r9 h9 => pn_LKV dX11_readVillageLine_59 lm_X11_102 (ct_X11_isWord Γ 12 (by decide) σ r9 h9) (by decide) qt_85 qk_85 rfl rfl (Nat.le_of_ble_eq_true rfl)) rfl (fun x9 => ?_)
          refine pn_if_eq (tgt := 75) dX11_readVillageLine_62 rfl rfl (fun c10 => ?_) (fun c10 => ?_)
          · refine pn_aload_n dX11_readVillageLine_75 rfl rfl rfl ?_
            refine pn_ldcs (j := 13) dX11_readVillageLine_76 rfl rfl (by decide) ?_
            refine pn_cp (fun r9 h9 => pn_LKV dX11_readVillageLine_78 lm_X11_102 (ct_X11_isWord Γ 13 (by decide) σ r9 h9) (by decide) qt_85 qk_85 rfl rfl (Nat.le_of_ble_eq_true rfl)) rfl (fun x11 => ?_)
            refine pn_if_eq (tgt := 94) dX11_readVillageLine_81 rfl rfl (fun c12 => ?_) (fun c12 => ?_)
            · refine pn_aload_n dX11_readVillageLine_94 rfl rfl rfl ?_
              refine pn_ldcs (j := 14) dX11_readVillageLine_95 rfl rfl (by decide) ?_
              refine pn_cp (fun r9 h9 => pn_LKV dX11_readVillageLine_97 lm_X11_102 (ct_X11_isWord Γ 14 (by decide) σ r9 h9) (by decide) qt_85 qk_85 rfl rfl (Nat.le_of_ble_eq_true rfl)) rfl (fun x13 => ?_)
              refine pn_if_eq (tgt := 113) dX11_readVillageLine_100 rfl rfl (fun c14 => ?_) (fun c14 => ?_)
              · refine pn_aload_n dX11_readVillageLine_113 rfl rfl rfl ?_
                refine pn_ldcs (j := 15) dX11_readVillageLine_114 rfl rfl (by decide) ?_
                refine pn_cp (fun r9 h9 => pn_LKV dX11_readVillageLine_116 lm_X11_102 (ct_X11_isWord Γ 15 (by decide) σ r9 h9) (by decide) qt_85 qk_85 rfl rfl (Nat.le_of_ble_eq_true rfl)) rfl (fun x15 => ?_)
                refine pn_if_eq (tgt := 132) dX11_readVillageLine_119 rfl rfl (fun c16 => ?_) (fun c16 => ?_)
                · refine pn_aload_n dX11_readVillageLine_132 rfl rfl rfl ?_
                  refine pn_ldcs (j := 16) dX11_readVillageLine_133 rfl rfl (by decide) ?_
                  refine pn_cp (fun r9 h9 => pn_LKV dX11_readVillageLine_135 lm_X11_102 (ct_X11_isWord Γ 16 (by decide) σ r9 h9) (by decide) qt_85 qk_85 rfl rfl (Nat.le_of_ble_eq_true rfl)) rfl (fun x17 => ?_)
                  refine pn_if_eq (tgt := 157) dX11_readVillageLine_138 rfl rfl (fun c18 => ?_) (fun c18 => ?_)
                  · refine pn_iconst dX11_readVillageLine_157 rfl ic_0 ?_
                    exact pn_iretv dX11_readVillageLine_158 rfl rfl rfl
                  · refine pn_aload_n dX11_readVillageLine_141 rfl rfl rfl ?_
                    refine pn_iconst dX11_readVillageLine_142 rfl ic_3 ?_
                    refine pn_iconst dX11_readVillageLine_143 rfl ic_0 ?_
                    refine pn_sipush dX11_readVillageLine_144 rfl sc_999 ?_
                    refine pn_ci (fun r9 h9 => pn_LKV dX11_readVillageLine_147 lm_X11_130 (ct_X11_readNumber Γ (3 : Int32) (0 : Int32) (999 : Int32) σ r9 h9) (by decide) qt_85 qk_85 rfl rfl (Nat.le_of_ble_eq_true rfl)) rfl (fun x19 σ19 => ?_)
                    refine pn_if_eq (tgt := 157) dX11_readVillageLine_150 rfl rfl (fun c20 => ?_) (fun c20 => ?_)
                    · refine pn_iconst dX11_readVillageLine_157 rfl ic_0 ?_
                      exact pn_iretv dX11_readVillageLine_158 rfl rfl rfl
                    · refine pn_iconst dX11_readVillageLine_153 rfl ic_1 ?_
                      refine pn_goto (pc' := 158) dX11_readVillageLine_154 rfl ?_
                      exact pn_iretv dX11_readVillageLine_158 rfl rfl rfl
                · refine pn_aload_n dX11_readVillageLine_122 rfl rfl rfl ?_
                  refine pn_bipush dX11_readVillageLine_123 rfl bc_10 ?_
                  refine pn_iconst dX11_readVillageLine_125 rfl ic_0 ?_
                  refine pn_bipush dX11_readVillageLine_126 rfl bc_20 ?_
                  refine pn_ci (fun r9 h9 => pn_LKV dX11_readVillageLine_128 lm_X11_130 (ct_X11_readNumber Γ (10 : Int32) (0 : Int32) (20 : Int32) σ r9 h9) (by decide) qt_85 qk_85 rfl rfl (Nat.le_of_ble_eq_true rfl)) rfl (fun x21 σ21 => ?_)
                  exact pn_iretb dX11_readVillageLine_131 rfl rfl
              · refine pn_aload_n dX11_readVillageLine_103 rfl rfl rfl ?_
                refine pn_bipush dX11_readVillageLine_104 rfl bc_9 ?_
                refine pn_iconst dX11_readVillageLine_106 rfl ic_0 ?_
                refine pn_bipush dX11_readVillageLine_107 rfl bc_30 ?_
                refine pn_ci (fun r9 h9 => pn_LKV dX11_readVillageLine_109 lm_X11_130 (ct_X11_readNumber Γ (9 : Int32) (0 : Int32) (30 : Int32) σ r9 h9) (by decide) qt_85 qk_85 rfl rfl (Nat.le_of_ble_eq_true rfl)) rfl (fun x22 σ22 => ?_)
                exact pn_iretb dX11_readVillageLine_112 rfl rfl
            · refine pn_aload_n dX11_readVillageLine_84 rfl rfl rfl ?_
              refine pn_bipush dX11_readVillageLine_85 rfl bc_8 ?_
              refine pn_iconst dX11_readVillageLine_87 rfl ic_0 ?_
              refine pn_bipush dX11_readVillageLine_88 rfl bc_100 ?_
              refine pn_ci (fun r9 h9 => pn_LKV dX11_readVillageLine_90 lm_X11_130 (ct_X11_readNumber Γ (8 : Int32) (0 : Int32) (100 : Int32) σ r9 h9) (by decide) qt_85 qk_85 rfl rfl (Nat.le_of_ble_eq_true rfl)) rfl (fun x23 σ23 => ?_)
              exact pn_iretb dX11_readVillageLine_93 rfl rfl
          · refine pn_aload_n dX11_readVillageLine_65 rfl rfl rfl ?_
            refine pn_bipush dX11_readVillageLine_66 rfl bc_7 ?_
            refine pn_iconst dX11_readVillageLine_68 rfl ic_0 ?_
            refine pn_bipush dX11_readVillageLine_69 rfl bc_100 ?_
            refine pn_ci (fun r9 h9 => pn_LKV dX11_readVillageLine_71 lm_X11_130 (ct_X11_readNumber Γ (7 : Int32) (0 : Int32) (100 : Int32) σ r9 h9) (by decide) qt_85 qk_85 rfl rfl (Nat.le_of_ble_eq_true rfl)) rfl (fun x24 σ24 => ?_)
            exact pn_iretb dX11_readVillageLine_74 rfl rfl
        · refine pn_aload_n dX11_readVillageLine_51 rfl rfl rfl ?_
          refine pn_ci (fun r9 h9 => pn_LKV dX11_readVillageLine_52 lm_X11_153 (ct_X11_readTarget Γ σ r9 h9) (by decide) qt_85 qk_85 rfl rfl (Nat.le_of_ble_eq_true rfl)) rfl (fun x25 σ25 => ?_)
          exact pn_iretb dX11_readVillageLine_55 rfl rfl
      · refine pn_aload_n dX11_readVillageLine_37 rfl rfl rfl ?_
        refine pn_ci (fun r9 h9 => pn_LKV dX11_readVillageLine_38 lm_X11_148 (ct_X11_readFeud Γ σ r9 h9) (by decide) qt_85 qk_85 rfl rfl (Nat.le_of_ble_eq_true rfl)) rfl (fun x26 σ26 => ?_)
        exact pn_iretb dX11_readVillageLine_41 rfl rfl
    · refine pn_aload_n dX11_readVillageLine_23 rfl rfl rfl ?_
      refine pn_ci (fun r9 h9 => pn_LKV dX11_readVillageLine_24 lm_X11_143 (ct_X11_readWrong Γ σ r9 h9) (by decide) qt_85 qk_85 rfl rfl (Nat.le_of_ble_eq_true rfl)) rfl (fun x27 σ27 => ?_)
      exact pn_iretb dX11_readVillageLine_27 rfl rfl
  · refine pn_aload_n dX11_readVillageLine_9 rfl rfl rfl ?_
    refine pn_ci (fun r9 h9 => pn_LKV dX11_readVillageLine_10 lm_X11_137 (ct_X11_readPerson Γ σ r9 h9) (by decide) qt_85 qk_85 rfl rfl (Nat.le_of_ble_eq_true rfl)) rfl (fun x28 σ28 => ?_)
    exact pn_iretb dX11_readVillageLine_13 rfl rfl

set_option maxRecDepth 20000 in
set_option maxHeartbeats 4000000 in
theorem wX11_emits_44 (Γ : pn_G)   (σ : pn_S) : pn_W9 Γ 1 mX11_emits pn_v 44 [.null, .null, .null] [] σ (fX11_emits_44  σ) := by
  rw [fX11_emits_44]
  exact pn_vretv dX11_emits_44 rfl rfl

set_option maxRecDepth 20000 in
set_option maxHeartbeats 4000000 in
theorem ct_X11_emits (Γ : pn_G) (a1 : Int32) (a2 : Int32) (σ : pn_S) : ∀ r, fX11_emits a1 a2 σ = some r → pn_C Γ 1 mX11_emits [.ref 85, .int a1, .int a2] σ (pn_v r) := by
  refine pn_of (ls := [.ref 85, .int a1, .int a2]) (by decide) rfl (pn_cat rfl) rfl (Nat.le_of_ble_eq_true rfl) ?_
  rw [fX11_emits]
  refine pn_aload_n dX11_emits_0 rfl rfl rfl ?_
  refine pn_geta dX11_emits_1 rfl lf_X11_13_10 qt_85 qk_85 qr_85_1 qt_86 ?_
  refine pn_sipush dX11_emits_4 rfl sc_1215 ?_
  refine pn_iconst dX11_emits_7 rfl ic_2 ?_
  refine pn_aload_n dX11_emits_8 rfl rfl rfl ?_
  refine pn_geti dX11_emits_9 rfl lf_X11_166_10 qt_85 qk_85 qr_85_16 ?_
  refine pn_imul dX11_emits_12 rfl ?_
  refine pn_iadd dX11_emits_13 rfl ?_
  refine pn_iload_n dX11_emits_14 rfl rfl rfl ?_
  refine pn_iast dX11_emits_15 rfl qt_86 qk_86 ql_86 ?_
  refine pn_aload_n dX11_emits_16 rfl rfl rfl ?_
  refine pn_geta dX11_emits_17 rfl lf_X11_13_10 qt_85 qk_85 qr_85_1 qt_86 ?_
  refine pn_sipush dX11_emits_20 rfl sc_1215 ?_
  refine pn_iconst dX11_emits_23 rfl ic_2 ?_
  refine pn_aload_n dX11_emits_24 rfl rfl rfl ?_
  refine pn_geti dX11_emits_25 rfl lf_X11_166_10 qt_85 qk_85 qr_85_16 ?_
  refine pn_imul dX11_emits_28 rfl ?_
  refine pn_iadd dX11_emits_29 rfl ?_
  refine pn_iconst dX11_emits_30 rfl ic_1 ?_
  refine pn_iadd dX11_emits_31 rfl ?_
  refine pn_iload_n dX11_emits_32 rfl rfl rfl ?_
  refine pn_iast dX11_emits_33 rfl qt_86 qk_86 ql_86 ?_
  refine pn_aload_n dX11_emits_34 rfl rfl rfl ?_
  refine pn_dupa dX11_emits_35 rfl ?_
  refine pn_geti dX11_emits_36 rfl lf_X11_166_10 qt_85 qk_85 qr_85_16 ?_
  refine pn_iconst dX11_emits_39 rfl ic_1 ?_
  refine pn_iadd dX11_emits_40 rfl ?_
  refine pn_puti dX11_emits_41 rfl lf_X11_166_10 (fpi_10_16 (((pn_up (pn_up σ 86 (Int32.toNatClampNeg ((1215 : Int32) + ((2 : Int32) * (σ 85 16)))) a1) 86 (Int32.toNatClampNeg (((1215 : Int32) + ((2 : Int32) * ((pn_up σ 86 (Int32.toNatClampNeg ((1215 : Int32) + ((2 : Int32) * (σ 85 16)))) a1) 85 16))) + (1 : Int32))) a2) 85 16) + (1 : Int32))) qt_85 qk_85 qr_85_16 ?_
  exact pn_wk (pn_leN (pn_leN (pn_leN pn_le0))) (wX11_emits_44 Γ (pn_up (pn_up (pn_up σ 86 (Int32.toNatClampNeg ((1215 : Int32) + ((2 : Int32) * (σ 85 16)))) a1) 86 (Int32.toNatClampNeg (((1215 : Int32) + ((2 : Int32) * ((pn_up σ 86 (Int32.toNatClampNeg ((1215 : Int32) + ((2 : Int32) * (σ 85 16)))) a1) 85 16))) + (1 : Int32))) a2) 85 16 (((pn_up (pn_up σ 86 (Int32.toNatClampNeg ((1215 : Int32) + ((2 : Int32) * (σ 85 16)))) a1) 86 (Int32.toNatClampNeg (((1215 : Int32) + ((2 : Int32) * ((pn_up σ 86 (Int32.toNatClampNeg ((1215 : Int32) + ((2 : Int32) * (σ 85 16)))) a1) 85 16))) + (1 : Int32))) a2) 85 16) + (1 : Int32))))

set_option maxRecDepth 20000 in
set_option maxHeartbeats 4000000 in
theorem ct_X11_wordOfPart (Γ : pn_G)  (σ : pn_S) : ∀ r, fX11_wordOfPart  σ = some r → pn_C Γ 7 mX11_wordOfPart [.ref 85] σ ((pn_p σ) r) := by
  refine pn_of (ls := [.ref 85]) (by decide) rfl (pn_cat rfl) rfl (Nat.le_of_ble_eq_true rfl) ?_
  rw [fX11_wordOfPart]
  refine pn_aload_n dX11_wordOfPart_0 rfl rfl rfl ?_
  refine pn_ldcs (j := 23) dX11_wordOfPart_1 rfl rfl (by decide) ?_
  refine pn_cp (fun r9 h9 => pn_LKV dX11_wordOfPart_3 lm_X11_102 (ct_X11_isWord Γ 23 (by decide) σ r9 h9) (by decide) qt_85 qk_85 rfl rfl (Nat.le_of_ble_eq_true rfl)) rfl (fun x1 => ?_)
  refine pn_if_eq (tgt := 11) dX11_wordOfPart_6 rfl rfl (fun c2 => ?_) (fun c2 => ?_)
  · refine pn_aload_n dX11_wordOfPart_11 rfl rfl rfl ?_
    refine pn_ldcs (j := 3) dX11_wordOfPart_12 rfl rfl (by decide) ?_
    refine pn_cp (fun r9 h9 => pn_LKV dX11_wordOfPart_14 lm_X11_102 (ct_X11_isWord Γ 3 (by decide) σ r9 h9) (by decide) qt_85 qk_85 rfl rfl (Nat.le_of_ble_eq_true rfl)) rfl (fun x3 => ?_)
    refine pn_if_eq (tgt := 22) dX11_wordOfPart_17 rfl rfl (fun c4 => ?_) (fun c4 => ?_)
    · refine pn_aload_n dX11_wordOfPart_22 rfl rfl rfl ?_
      refine pn_ldcs (j := 24) dX11_wordOfPart_23 rfl rfl (by decide) ?_
      refine pn_cp (fun r9 h9 => pn_LKV dX11_wordOfPart_25 lm_X11_102 (ct_X11_isWord Γ 24 (by decide) σ r9 h9) (by decide) qt_85 qk_85 rfl rfl (Nat.le_of_ble_eq_true rfl)) rfl (fun x5 => ?_)
      refine pn_if_eq (tgt := 33) dX11_wordOfPart_28 rfl rfl (fun c6 => ?_) (fun c6 => ?_)
      · refine pn_aload_n dX11_wordOfPart_33 rfl rfl rfl ?_
        refine pn_ldcs (j := 8) dX11_wordOfPart_34 rfl rfl (by decide) ?_
        refine pn_cp (fun r9 h9 => pn_LKV dX11_wordOfPart_36 lm_X11_102 (ct_X11_isWord Γ 8 (by decide) σ r9 h9) (by decide) qt_85 qk_85 rfl rfl (Nat.le_of_ble_eq_true rfl)) rfl (fun x7 => ?_)
        refine pn_if_eq (tgt := 44) dX11_wordOfPart_39 rfl rfl (fun c8 => ?_) (fun c8 => ?_)
        · refine pn_aload_n dX11_wordOfPart_44 rfl rfl rfl ?_
          refine pn_ldcs (j := 5) dX11_wordOfPart_45 rfl rfl (by decide) ?_
          refine pn_cp (fun r9 h9 => pn_LKV dX11_wordOfPart_47 lm_X11_102 (ct_X11_isWord Γ 5 (by decide) σ r9 h9) (by decide) qt_85 qk_85 rfl rfl (Nat.le_of_ble_eq_true rfl)) rfl (fun x9 => ?_)
          refine pn_if_eq (tgt := 55) dX11_wordOfPart_50 rfl rfl (fun c10 => ?_) (fun c10 => ?_)
          · refine pn_aload_n dX11_wordOfPart_55 rfl rfl rfl ?_
            refine pn_ldcs (j := 25) dX11_wordOfPart_56 rfl rfl (by decide) ?_
            refine pn_cp (fun r9 h9 => pn_LKV dX11_wordOfPart_58 lm_X11_102 (ct_X11_isWord Γ 25 (by decide) σ r9 h9) (by decide) qt_85 qk_85 rfl rfl (Nat.le_of_ble_eq_true rfl)) rfl (fun x11 => ?_)
            refine pn_if_eq (tgt := 66) dX11_wordOfPart_61 rfl rfl (fun c12 => ?_) (fun c12 => ?_)
            · refine pn_aload_n dX11_wordOfPart_66 rfl rfl rfl ?_
              refine pn_ldcs (j := 16) dX11_wordOfPart_67 rfl rfl (by decide) ?_
              refine pn_cp (fun r9 h9 => pn_LKV dX11_wordOfPart_69 lm_X11_102 (ct_X11_isWord Γ 16 (by decide) σ r9 h9) (by decide) qt_85 qk_85 rfl rfl (Nat.le_of_ble_eq_true rfl)) rfl (fun x13 => ?_)
              refine pn_if_eq (tgt := 80) dX11_wordOfPart_72 rfl rfl (fun c14 => ?_) (fun c14 => ?_)
              · refine pn_iconst dX11_wordOfPart_80 rfl ic_m1 ?_
                exact pn_iretv dX11_wordOfPart_81 rfl rfl rfl
              · refine pn_bipush dX11_wordOfPart_75 rfl bc_6 ?_
                refine pn_goto (pc' := 81) dX11_wordOfPart_77 rfl ?_
                exact pn_iretv dX11_wordOfPart_81 rfl rfl rfl
            · refine pn_iconst dX11_wordOfPart_64 rfl ic_5 ?_
              exact pn_iretv dX11_wordOfPart_65 rfl rfl rfl
          · refine pn_iconst dX11_wordOfPart_53 rfl ic_4 ?_
            exact pn_iretv dX11_wordOfPart_54 rfl rfl rfl
        · refine pn_iconst dX11_wordOfPart_42 rfl ic_3 ?_
          exact pn_iretv dX11_wordOfPart_43 rfl rfl rfl
      · refine pn_iconst dX11_wordOfPart_31 rfl ic_2 ?_
        exact pn_iretv dX11_wordOfPart_32 rfl rfl rfl
    · refine pn_iconst dX11_wordOfPart_20 rfl ic_1 ?_
      exact pn_iretv dX11_wordOfPart_21 rfl rfl rfl
  · refine pn_iconst dX11_wordOfPart_9 rfl ic_0 ?_
    exact pn_iretv dX11_wordOfPart_10 rfl rfl rfl

set_option maxRecDepth 20000 in
set_option maxHeartbeats 4000000 in
theorem wX11_readPart_61 (Γ : pn_G)  (l2 : Int32) (s1 : Int32) (s2 : Int32) (σ : pn_S) : pn_W9 Γ 8 mX11_readPart pn_i 61 [.null, .null, .int l2] [.int s2, .int s1, .ref 85] σ (fX11_readPart_61 l2 s1 s2 σ) := by
  rw [fX11_readPart_61]
  refine pn_cv (fun r9 h9 => pn_LKV dX11_readPart_61 lm_X11_178 (ct_X11_emits Γ s1 s2 σ r9 h9) (by decide) qt_85 qk_85 rfl rfl (Nat.le_of_ble_eq_true rfl)) rfl (fun σ7 => ?_)
  refine pn_iload_n dX11_readPart_64 rfl rfl rfl ?_
  refine pn_if_lt (tgt := 72) dX11_readPart_65 rfl rfl (fun c8 => ?_) (fun c8 => ?_)
  · refine pn_iconst dX11_readPart_72 rfl ic_0 ?_
    exact pn_iretv dX11_readPart_73 rfl rfl rfl
  · refine pn_iconst dX11_readPart_68 rfl ic_1 ?_
    refine pn_goto (pc' := 73) dX11_readPart_69 rfl ?_
    exact pn_iretv dX11_readPart_73 rfl rfl rfl

set_option maxRecDepth 20000 in
set_option maxHeartbeats 4000000 in
theorem wX11_readPart_52 (Γ : pn_G)  (l1 : Int32) (l2 : Int32) (s1 : Int32) (σ : pn_S) : pn_W9 Γ 8 mX11_readPart pn_i 52 [.null, .int l1, .int l2] [.int s1, .ref 85] σ (fX11_readPart_52 l1 l2 s1 σ) := by
  rw [fX11_readPart_52]
  refine pn_iload_n dX11_readPart_52 rfl rfl rfl ?_
  refine pn_if_eq (tgt := 60) dX11_readPart_53 rfl rfl (fun c6 => ?_) (fun c6 => ?_)
  · refine pn_iconst dX11_readPart_60 rfl ic_0 ?_
    exact pn_wk (pn_leN (pn_leN (pn_leC rfl pn_le0))) (wX11_readPart_61 Γ l2 s1 (0 : Int32) σ)
  · refine pn_iload_n dX11_readPart_56 rfl rfl rfl ?_
    refine pn_goto (pc' := 61) dX11_readPart_57 rfl ?_
    exact pn_wk (pn_leN (pn_leN (pn_leC rfl pn_le0))) (wX11_readPart_61 Γ l2 s1 l2 σ)

set_option maxRecDepth 20000 in
set_option maxHeartbeats 4000000 in
theorem wX11_readPart_40 (Γ : pn_G)  (l1 : Int32) (s0 : Int32) (σ : pn_S) : pn_W9 Γ 8 mX11_readPart pn_i 40 [.ref 85, .int l1, .null] [.int s0] σ (fX11_readPart_40 l1 s0 σ) := by
  rw [fX11_readPart_40]
  refine pn_istore_n (ls' := [.ref 85, .int l1, .int s0]) dX11_readPart_40 rfl rfl (Nat.le_of_ble_eq_true rfl) rfl ?_
  refine pn_aload_n dX11_readPart_41 rfl rfl rfl ?_
  refine pn_iload_n dX11_readPart_42 rfl rfl rfl ?_
  refine pn_if_eq (tgt := 51) dX11_readPart_43 rfl rfl (fun c5 => ?_) (fun c5 => ?_)
  · refine pn_iload_n dX11_readPart_51 rfl rfl rfl ?_
    exact pn_wk (pn_leN (pn_leC rfl (pn_leC rfl pn_le0))) (wX11_readPart_52 Γ l1 s0 s0 σ)
  · refine pn_bipush dX11_readPart_46 rfl bc_10 ?_
    refine pn_goto (pc' := 52) dX11_readPart_48 rfl ?_
    exact pn_wk (pn_leN (pn_leC rfl (pn_leC rfl pn_le0))) (wX11_readPart_52 Γ l1 s0 (10 : Int32) σ)

set_option maxRecDepth 20000 in
set_option maxHeartbeats 4000000 in
theorem wX11_readPart_20 (Γ : pn_G)  (s0 : Int32) (σ : pn_S) : pn_W9 Γ 8 mX11_readPart pn_i 20 [.ref 85, .null, .null] [.int s0] σ (fX11_readPart_20 s0 σ) := by
  rw [fX11_readPart_20]
  refine pn_istore_n (ls' := [.ref 85, .int s0, .null]) dX11_readPart_20 rfl rfl (Nat.le_of_ble_eq_true rfl) rfl ?_
  refine pn_iload_n dX11_readPart_21 rfl rfl rfl ?_
  refine pn_if_eq (tgt := 36) dX11_readPart_22 rfl rfl (fun c3 => ?_) (fun c3 => ?_)
  · refine pn_aload_n dX11_readPart_36 rfl rfl rfl ?_
    refine pn_cp (fun r9 h9 => pn_LKV dX11_readPart_37 lm_X11_175 (ct_X11_wordOfPart Γ σ r9 h9) (by decide) qt_85 qk_85 rfl rfl (Nat.le_of_ble_eq_true rfl)) rfl (fun x4 => ?_)
    exact wX11_readPart_40 Γ s0 x4 σ
  · refine pn_aload_n dX11_readPart_25 rfl rfl rfl ?_
    refine pn_iconst dX11_readPart_26 rfl ic_0 ?_
    refine pn_sipush dX11_readPart_27 rfl sc_999 ?_
    refine pn_ci (fun r9 h9 => pn_LKV dX11_readPart_30 lm_X11_106 (ct_X11_number Γ (0 : Int32) (999 : Int32) σ r9 h9) (by decide) qt_85 qk_85 rfl rfl (Nat.le_of_ble_eq_true rfl)) rfl (fun x9 σ9 => ?_)
    refine pn_goto (pc' := 40) dX11_readPart_33 rfl ?_
    exact wX11_readPart_40 Γ s0 x9 σ9

set_option maxRecDepth 20000 in
set_option maxHeartbeats 4000000 in
theorem ct_X11_readPart (Γ : pn_G)  (σ : pn_S) : ∀ r, fX11_readPart  σ = some r → pn_C Γ 8 mX11_readPart [.ref 85] σ (pn_i r) := by
  refine pn_of (ls := [.ref 85, .null, .null]) (by decide) rfl (pn_cat rfl) rfl (Nat.le_of_ble_eq_true rfl) ?_
  rw [fX11_readPart]
  refine pn_aload_n dX11_readPart_0 rfl rfl rfl ?_
  refine pn_cv (fun r9 h9 => pn_LKV dX11_readPart_1 lm_X11_99 (ct_X11_letters Γ σ r9 h9) (by decide) qt_85 qk_85 rfl rfl (Nat.le_of_ble_eq_true rfl)) rfl (fun σ1 => ?_)
  refine pn_aload_n dX11_readPart_4 rfl rfl rfl ?_
  refine pn_geti dX11_readPart_5 rfl lf_X11_74_10 qt_85 qk_85 qr_85_10 ?_
  refine pn_aload_n dX11_readPart_8 rfl rfl rfl ?_
  refine pn_geti dX11_readPart_9 rfl lf_X11_84_10 qt_85 qk_85 qr_85_12 ?_
  refine pn_icmp_ne (tgt := 19) dX11_readPart_12 rfl rfl (fun c2 => ?_) (fun c2 => ?_)
  · refine pn_iconst dX11_readPart_15 rfl ic_1 ?_
    refine pn_goto (pc' := 20) dX11_readPart_16 rfl ?_
    exact wX11_readPart_20 Γ (1 : Int32) σ1
  · refine pn_iconst dX11_readPart_19 rfl ic_0 ?_
    exact wX11_readPart_20 Γ (0 : Int32) σ1

set_option maxRecDepth 20000 in
set_option maxHeartbeats 4000000 in
theorem wX11_readSum_9 (Γ : pn_G)  : ∀ (n9 : Nat) (σ : pn_S), pn_W9 Γ 9 mX11_readSum pn_i 9 [.ref 85] [] σ (fX11_readSum_9 n9  σ) := by
  intro n9
  induction n9 with
  | zero => intro σ; exact pn_none
  | succ n9 ih =>
    intro σ
    rw [fX11_readSum_9]
    refine pn_aload_n dX11_readSum_9 rfl rfl rfl ?_
    refine pn_bipush dX11_readSum_10 rfl bc_43 ?_
    refine pn_ci (fun r9 h9 => pn_LKV dX11_readSum_12 lm_X11_185 (ct_X11_sign Γ (43 : Int32) σ r9 h9) (by decide) qt_85 qk_85 rfl rfl (Nat.le_of_ble_eq_true rfl)) rfl (fun x3 σ3 => ?_)
    refine pn_if_eq (tgt := 37) dX11_readSum_15 rfl rfl (fun c4 => ?_) (fun c4 => ?_)
    · refine pn_iconst dX11_readSum_37 rfl ic_1 ?_
      exact pn_iretv dX11_readSum_38 rfl rfl rfl
    · refine pn_aload_n dX11_readSum_18 rfl rfl rfl ?_
      refine pn_ci (fun r9 h9 => pn_LKV dX11_readSum_19 lm_X11_182 (ct_X11_readPart Γ σ3 r9 h9) (by decide) qt_85 qk_85 rfl rfl (Nat.le_of_ble_eq_true rfl)) rfl (fun x5 σ5 => ?_)
      refine pn_if_ne (tgt := 27) dX11_readSum_22 rfl rfl (fun c6 => ?_) (fun c6 => ?_)
      · refine pn_iconst dX11_readSum_25 rfl ic_0 ?_
        exact pn_iretv dX11_readSum_26 rfl rfl rfl
      · refine pn_aload_n dX11_readSum_27 rfl rfl rfl ?_
        refine pn_bipush dX11_readSum_28 rfl bc_11 ?_
        refine pn_iconst dX11_readSum_30 rfl ic_0 ?_
        refine pn_cv (fun r9 h9 => pn_LKV dX11_readSum_31 lm_X11_178 (ct_X11_emits Γ (11 : Int32) (0 : Int32) σ5 r9 h9) (by decide) qt_85 qk_85 rfl rfl (Nat.le_of_ble_eq_true rfl)) rfl (fun σ7 => ?_)
        refine pn_goto (pc' := 9) dX11_readSum_34 rfl ?_
        exact ih σ7

set_option maxRecDepth 20000 in
set_option maxHeartbeats 4000000 in
theorem ct_X11_readSum (Γ : pn_G)  (σ : pn_S) : ∀ r, fX11_readSum  σ = some r → pn_C Γ 9 mX11_readSum [.ref 85] σ (pn_i r) := by
  refine pn_of (ls := [.ref 85]) (by decide) rfl (pn_cat rfl) rfl (Nat.le_of_ble_eq_true rfl) ?_
  rw [fX11_readSum]
  refine pn_aload_n dX11_readSum_0 rfl rfl rfl ?_
  refine pn_ci (fun r9 h9 => pn_LKV dX11_readSum_1 lm_X11_182 (ct_X11_readPart Γ σ r9 h9) (by decide) qt_85 qk_85 rfl rfl (Nat.le_of_ble_eq_true rfl)) rfl (fun x1 σ1 => ?_)
  refine pn_if_ne (tgt := 9) dX11_readSum_4 rfl rfl (fun c2 => ?_) (fun c2 => ?_)
  · refine pn_iconst dX11_readSum_7 rfl ic_0 ?_
    exact pn_iretv dX11_readSum_8 rfl rfl rfl
  · exact wX11_readSum_9 Γ 5000 σ1

set_option maxRecDepth 20000 in
set_option maxHeartbeats 4000000 in
theorem wX11_readTag_69 (Γ : pn_G)  (l1 : Int32) (σ : pn_S) : pn_W9 Γ 7 mX11_readTag pn_i 69 [.null, .int l1] [] σ (fX11_readTag_69 l1 σ) := by
  rw [fX11_readTag_69]
  refine pn_iload_n dX11_readTag_69 rfl rfl rfl ?_
  refine pn_if_lt (tgt := 77) dX11_readTag_70 rfl rfl (fun c9 => ?_) (fun c9 => ?_)
  · refine pn_iconst dX11_readTag_77 rfl ic_0 ?_
    exact pn_iretv dX11_readTag_78 rfl rfl rfl
  · refine pn_iconst dX11_readTag_73 rfl ic_1 ?_
    refine pn_goto (pc' := 78) dX11_readTag_74 rfl ?_
    exact pn_iretv dX11_readTag_78 rfl rfl rfl

set_option maxRecDepth 20000 in
set_option maxHeartbeats 4000000 in
theorem wX11_readTag_47 (Γ : pn_G)  (s0 : Int32) (σ : pn_S) : pn_W9 Γ 7 mX11_readTag pn_i 47 [.ref 85, .null] [.int s0] σ (fX11_readTag_47 s0 σ) := by
  rw [fX11_readTag_47]
  refine pn_istore_n (ls' := [.ref 85, .int s0]) dX11_readTag_47 rfl rfl (Nat.le_of_ble_eq_true rfl) rfl ?_
  refine pn_iload_n dX11_readTag_48 rfl rfl rfl ?_
  refine pn_if_lt (tgt := 61) dX11_readTag_49 rfl rfl (fun c8 => ?_) (fun c8 => ?_)
  · refine pn_aload_n dX11_readTag_61 rfl rfl rfl ?_
    refine pn_aload_n dX11_readTag_62 rfl rfl rfl ?_
    refine pn_geti dX11_readTag_63 rfl lf_X11_84_10 qt_85 qk_85 qr_85_12 ?_
    refine pn_puti dX11_readTag_66 rfl lf_X11_74_10 (fpi_10_10 (σ 85 12)) qt_85 qk_85 qr_85_10 ?_
    exact pn_wk (pn_leN (pn_leC rfl pn_le0)) (wX11_readTag_69 Γ s0 (pn_up σ 85 10 (σ 85 12)))
  · refine pn_aload_n dX11_readTag_52 rfl rfl rfl ?_
    refine pn_iload_n dX11_readTag_53 rfl rfl rfl ?_
    refine pn_iconst dX11_readTag_54 rfl ic_0 ?_
    refine pn_cv (fun r9 h9 => pn_LKV dX11_readTag_55 lm_X11_178 (ct_X11_emits Γ s0 (0 : Int32) σ r9 h9) (by decide) qt_85 qk_85 rfl rfl (Nat.le_of_ble_eq_true rfl)) rfl (fun σ10 => ?_)
    refine pn_goto (pc' := 69) dX11_readTag_58 rfl ?_
    exact pn_wk (pn_leN (pn_leC rfl pn_le0)) (wX11_readTag_69 Γ s0 σ10)

set_option maxRecDepth 20000 in
set_option maxHeartbeats 4000000 in
theorem ct_X11_readTag (Γ : pn_G)  (σ : pn_S) : ∀ r, fX11_readTag  σ = some r → pn_C Γ 7 mX11_readTag [.ref 85] σ (pn_i r) := by
  refine pn_of (ls := [.ref 85, .null]) (by decide) rfl (pn_cat rfl) rfl (Nat.le_of_ble_eq_true rfl) ?_
  rw [fX11_readTag]
  refine pn_aload_n dX11_readTag_0 rfl rfl rfl ?_
  refine pn_cv (fun r9 h9 => pn_LKV dX11_readTag_1 lm_X11_99 (ct_X11_letters Γ σ r9 h9) (by decide) qt_85 qk_85 rfl rfl (Nat.le_of_ble_eq_true rfl)) rfl (fun σ1 => ?_)
  refine pn_aload_n dX11_readTag_4 rfl rfl rfl ?_
  refine pn_ldcs (j := 9) dX11_readTag_5 rfl rfl (by decide) ?_
  refine pn_cp (fun r9 h9 => pn_LKV dX11_readTag_7 lm_X11_102 (ct_X11_isWord Γ 9 (by decide) σ1 r9 h9) (by decide) qt_85 qk_85 rfl rfl (Nat.le_of_ble_eq_true rfl)) rfl (fun x2 => ?_)
  refine pn_if_eq (tgt := 18) dX11_readTag_10 rfl rfl (fun c3 => ?_) (fun c3 => ?_)
  · refine pn_aload_n dX11_readTag_18 rfl rfl rfl ?_
    refine pn_ldcs (j := 6) dX11_readTag_19 rfl rfl (by decide) ?_
    refine pn_cp (fun r9 h9 => pn_LKV dX11_readTag_21 lm_X11_102 (ct_X11_isWord Γ 6 (by decide) σ1 r9 h9) (by decide) qt_85 qk_85 rfl rfl (Nat.le_of_ble_eq_true rfl)) rfl (fun x4 => ?_)
    refine pn_if_eq (tgt := 32) dX11_readTag_24 rfl rfl (fun c5 => ?_) (fun c5 => ?_)
    · refine pn_aload_n dX11_readTag_32 rfl rfl rfl ?_
      refine pn_ldcs (j := 22) dX11_readTag_33 rfl rfl (by decide) ?_
      refine pn_cp (fun r9 h9 => pn_LKV dX11_readTag_35 lm_X11_102 (ct_X11_isWord Γ 22 (by decide) σ1 r9 h9) (by decide) qt_85 qk_85 rfl rfl (Nat.le_of_ble_eq_true rfl)) rfl (fun x6 => ?_)
      refine pn_if_eq (tgt := 46) dX11_readTag_38 rfl rfl (fun c7 => ?_) (fun c7 => ?_)
      · refine pn_iconst dX11_readTag_46 rfl ic_m1 ?_
        exact wX11_readTag_47 Γ (-1 : Int32) σ1
      · refine pn_bipush dX11_readTag_41 rfl bc_9 ?_
        refine pn_goto (pc' := 47) dX11_readTag_43 rfl ?_
        exact wX11_readTag_47 Γ (9 : Int32) σ1
    · refine pn_bipush dX11_readTag_27 rfl bc_8 ?_
      refine pn_goto (pc' := 47) dX11_readTag_29 rfl ?_
      exact wX11_readTag_47 Γ (8 : Int32) σ1
  · refine pn_bipush dX11_readTag_13 rfl bc_7 ?_
    refine pn_goto (pc' := 47) dX11_readTag_15 rfl ?_
    exact wX11_readTag_47 Γ (7 : Int32) σ1

set_option maxRecDepth 20000 in
set_option maxHeartbeats 4000000 in
theorem wX11_readAtom_173 (Γ : pn_G) (d9 : Nat) (hd9 : 20 ≤ d9) (gC : pn_S → Option (Int32 × pn_S)) (hgC : ∀  (σ : pn_S) (r : Int32 × pn_S), gC  σ = some r → pn_C Γ d9 mX11_readCond [.ref 85] σ (pn_i r)) (gA : pn_S → Option (Int32 × pn_S)) (hgA : ∀  (σ : pn_S) (r : Int32 × pn_S), gA  σ = some r → pn_C Γ d9 mX11_readAtom [.ref 85] σ (pn_i r)) (s1 : Int32) (σ : pn_S) : pn_W9 Γ (d9 + 1) mX11_readAtom pn_i 173 [.null, .null] [.int s1, .ref 85] σ (fX11_readAtom_173 gC gA s1 σ) := by
  rw [fX11_readAtom_173]
  refine pn_iconst dX11_readAtom_173 rfl ic_0 ?_
  refine pn_cv (fun r9 h9 => pn_LKV dX11_readAtom_174 lm_X11_178 (ct_X11_emits Γ s1 (0 : Int32) σ r9 h9) (by omega) qt_85 qk_85 rfl rfl (Nat.le_of_ble_eq_true rfl)) rfl (fun σ16 => ?_)
  refine pn_iconst dX11_readAtom_177 rfl ic_1 ?_
  exact pn_iretv dX11_readAtom_178 rfl rfl rfl

set_option maxRecDepth 20000 in
set_option maxHeartbeats 4000000 in
theorem wX11_readAtom_152 (Γ : pn_G) (d9 : Nat) (hd9 : 20 ≤ d9) (gC : pn_S → Option (Int32 × pn_S)) (hgC : ∀  (σ : pn_S) (r : Int32 × pn_S), gC  σ = some r → pn_C Γ d9 mX11_readCond [.ref 85] σ (pn_i r)) (gA : pn_S → Option (Int32 × pn_S)) (hgA : ∀  (σ : pn_S) (r : Int32 × pn_S), gA  σ = some r → pn_C Γ d9 mX11_readAtom [.ref 85] σ (pn_i r)) (l1 : Int32) (σ : pn_S) : pn_W9 Γ (d9 + 1) mX11_readAtom pn_i 152 [.ref 85, .int l1] [] σ (fX11_readAtom_152 gC gA l1 σ) := by
  rw [fX11_readAtom_152]
  refine pn_aload_n dX11_readAtom_152 rfl rfl rfl ?_
  refine pn_ci (fun r9 h9 => pn_LKV dX11_readAtom_153 lm_X11_205 (ct_X11_readSum Γ σ r9 h9) (by omega) qt_85 qk_85 rfl rfl (Nat.le_of_ble_eq_true rfl)) rfl (fun x13 σ13 => ?_)
  refine pn_if_ne (tgt := 161) dX11_readAtom_156 rfl rfl (fun c14 => ?_) (fun c14 => ?_)
  · refine pn_iconst dX11_readAtom_159 rfl ic_0 ?_
    exact pn_iretv dX11_readAtom_160 rfl rfl rfl
  · refine pn_aload_n dX11_readAtom_161 rfl rfl rfl ?_
    refine pn_iload_n dX11_readAtom_162 rfl rfl rfl ?_
    refine pn_if_eq (tgt := 171) dX11_readAtom_163 rfl rfl (fun c15 => ?_) (fun c15 => ?_)
    · refine pn_bipush dX11_readAtom_171 rfl bc_13 ?_
      exact pn_wk (pn_leN (pn_leN pn_le0)) (wX11_readAtom_173 Γ d9 hd9 gC hgC gA hgA (13 : Int32) σ13)
    · refine pn_bipush dX11_readAtom_166 rfl bc_12 ?_
      refine pn_goto (pc' := 173) dX11_readAtom_168 rfl ?_
      exact pn_wk (pn_leN (pn_leN pn_le0)) (wX11_readAtom_173 Γ d9 hd9 gC hgC gA hgA (12 : Int32) σ13)

set_option maxRecDepth 20000 in
set_option maxHeartbeats 4000000 in
theorem ct_X11_readAtom (Γ : pn_G) (d9 : Nat) (hd9 : 20 ≤ d9) (gC : pn_S → Option (Int32 × pn_S)) (hgC : ∀  (σ : pn_S) (r : Int32 × pn_S), gC  σ = some r → pn_C Γ d9 mX11_readCond [.ref 85] σ (pn_i r)) (gA : pn_S → Option (Int32 × pn_S)) (hgA : ∀  (σ : pn_S) (r : Int32 × pn_S), gA  σ = some r → pn_C Γ d9 mX11_readAtom [.ref 85] σ (pn_i r)) (σ : pn_S) : ∀ r, fX11_readAtom gC gA σ = some r → pn_C Γ (d9 + 1) mX11_readAtom [.ref 85] σ (pn_i r) := by
  refine pn_of (ls := [.ref 85, .null]) (by decide) rfl (pn_cat rfl) rfl (Nat.le_of_ble_eq_true rfl) ?_
  rw [fX11_readAtom]
  refine pn_aload_n dX11_readAtom_0 rfl rfl rfl ?_
  refine pn_bipush dX11_readAtom_1 rfl bc_40 ?_
  refine pn_ci (fun r9 h9 => pn_LKV dX11_readAtom_3 lm_X11_185 (ct_X11_sign Γ (40 : Int32) σ r9 h9) (by omega) qt_85 qk_85 rfl rfl (Nat.le_of_ble_eq_true rfl)) rfl (fun x1 σ1 => ?_)
  refine pn_if_eq (tgt := 56) dX11_readAtom_6 rfl rfl (fun c2 => ?_) (fun c2 => ?_)
  · refine pn_aload_n dX11_readAtom_56 rfl rfl rfl ?_
    refine pn_ldcs (j := 21) dX11_readAtom_57 rfl rfl (by decide) ?_
    refine pn_ci (fun r9 h9 => pn_LKV dX11_readAtom_59 lm_X11_122 (ct_X11_passes Γ 21 (by decide) σ1 r9 h9) (by omega) qt_85 qk_85 rfl rfl (Nat.le_of_ble_eq_true rfl)) rfl (fun x3 σ3 => ?_)
    refine pn_if_eq (tgt := 114) dX11_readAtom_62 rfl rfl (fun c4 => ?_) (fun c4 => ?_)
    · refine pn_aload_n dX11_readAtom_114 rfl rfl rfl ?_
      refine pn_ci (fun r9 h9 => pn_LKV dX11_readAtom_115 lm_X11_202 (ct_X11_readTag Γ σ3 r9 h9) (by omega) qt_85 qk_85 rfl rfl (Nat.le_of_ble_eq_true rfl)) rfl (fun x5 σ5 => ?_)
      refine pn_if_eq (tgt := 123) dX11_readAtom_118 rfl rfl (fun c6 => ?_) (fun c6 => ?_)
      · refine pn_aload_n dX11_readAtom_123 rfl rfl rfl ?_
        refine pn_ci (fun r9 h9 => pn_LKV dX11_readAtom_124 lm_X11_205 (ct_X11_readSum Γ σ5 r9 h9) (by omega) qt_85 qk_85 rfl rfl (Nat.le_of_ble_eq_true rfl)) rfl (fun x7 σ7 => ?_)
        refine pn_if_ne (tgt := 132) dX11_readAtom_127 rfl rfl (fun c8 => ?_) (fun c8 => ?_)
        · refine pn_iconst dX11_readAtom_130 rfl ic_0 ?_
          exact pn_iretv dX11_readAtom_131 rfl rfl rfl
        · refine pn_aload_n dX11_readAtom_132 rfl rfl rfl ?_
          refine pn_bipush dX11_readAtom_133 rfl bc_60 ?_
          refine pn_ci (fun r9 h9 => pn_LKV dX11_readAtom_135 lm_X11_185 (ct_X11_sign Γ (60 : Int32) σ7 r9 h9) (by omega) qt_85 qk_85 rfl rfl (Nat.le_of_ble_eq_true rfl)) rfl (fun x9 σ9 => ?_)
          refine pn_istore_n (ls' := [.ref 85, .int x9]) dX11_readAtom_138 rfl rfl (Nat.le_of_ble_eq_true rfl) rfl ?_
          refine pn_iload_n dX11_readAtom_139 rfl rfl rfl ?_
          refine pn_if_ne (tgt := 152) dX11_readAtom_140 rfl rfl (fun c10 => ?_) (fun c10 => ?_)
          · refine pn_aload_n dX11_readAtom_143 rfl rfl rfl ?_
            refine pn_bipush dX11_readAtom_144 rfl bc_62 ?_
            refine pn_ci (fun r9 h9 => pn_LKV dX11_readAtom_146 lm_X11_185 (ct_X11_sign Γ (62 : Int32) σ9 r9 h9) (by omega) qt_85 qk_85 rfl rfl (Nat.le_of_ble_eq_true rfl)) rfl (fun x11 σ11 => ?_)
            refine pn_if_eq (tgt := 159) dX11_readAtom_149 rfl rfl (fun c12 => ?_) (fun c12 => ?_)
            · refine pn_iconst dX11_readAtom_159 rfl ic_0 ?_
              exact pn_iretv dX11_readAtom_160 rfl rfl rfl
            · exact wX11_readAtom_152 Γ d9 hd9 gC hgC gA hgA x9 σ11
          · exact wX11_readAtom_152 Γ d9 hd9 gC hgC gA hgA x9 σ9
      · refine pn_iconst dX11_readAtom_121 rfl ic_1 ?_
        exact pn_iretv dX11_readAtom_122 rfl rfl rfl
    · refine pn_aload_n dX11_readAtom_65 rfl rfl rfl ?_
      refine pn_geti dX11_readAtom_66 rfl lf_X11_191_10 qt_85 qk_85 qr_85_13 ?_
      refine pn_bipush dX11_readAtom_69 rfl bc_6 ?_
      refine pn_icmp_ne (tgt := 76) dX11_readAtom_71 rfl rfl (fun c17 => ?_) (fun c17 => ?_)
      · refine pn_iconst dX11_readAtom_74 rfl ic_0 ?_
        exact pn_iretv dX11_readAtom_75 rfl rfl rfl
      · refine pn_aload_n dX11_readAtom_76 rfl rfl rfl ?_
        refine pn_dupa dX11_readAtom_77 rfl ?_
        refine pn_geti dX11_readAtom_78 rfl lf_X11_191_10 qt_85 qk_85 qr_85_13 ?_
        refine pn_iconst dX11_readAtom_81 rfl ic_1 ?_
        refine pn_iadd dX11_readAtom_82 rfl ?_
        refine pn_puti dX11_readAtom_83 rfl lf_X11_191_10 (fpi_10_13 ((σ3 85 13) + (1 : Int32))) qt_85 qk_85 qr_85_13 ?_
        refine pn_aload_n dX11_readAtom_86 rfl rfl rfl ?_
        refine pn_ci (fun r9 h9 => pn_LKV dX11_readAtom_87 lm_X11_199 (hgA (pn_up σ3 85 13 ((σ3 85 13) + (1 : Int32))) r9 h9) (Nat.lt_succ_self d9) qt_85 qk_85 rfl rfl (Nat.le_of_ble_eq_true rfl)) rfl (fun x18 σ18 => ?_)
        refine pn_if_ne (tgt := 95) dX11_readAtom_90 rfl rfl (fun c19 => ?_) (fun c19 => ?_)
        · refine pn_iconst dX11_readAtom_93 rfl ic_0 ?_
          exact pn_iretv dX11_readAtom_94 rfl rfl rfl
        · refine pn_aload_n dX11_readAtom_95 rfl rfl rfl ?_
          refine pn_dupa dX11_readAtom_96 rfl ?_
          refine pn_geti dX11_readAtom_97 rfl lf_X11_191_10 qt_85 qk_85 qr_85_13 ?_
          refine pn_iconst dX11_readAtom_100 rfl ic_1 ?_
          refine pn_isub dX11_readAtom_101 rfl ?_
          refine pn_puti dX11_readAtom_102 rfl lf_X11_191_10 (fpi_10_13 ((σ18 85 13) - (1 : Int32))) qt_85 qk_85 qr_85_13 ?_
          refine pn_aload_n dX11_readAtom_105 rfl rfl rfl ?_
          refine pn_bipush dX11_readAtom_106 rfl bc_14 ?_
          refine pn_iconst dX11_readAtom_108 rfl ic_0 ?_
          refine pn_cv (fun r9 h9 => pn_LKV dX11_readAtom_109 lm_X11_178 (ct_X11_emits Γ (14 : Int32) (0 : Int32) (pn_up σ18 85 13 ((σ18 85 13) - (1 : Int32))) r9 h9) (by omega) qt_85 qk_85 rfl rfl (Nat.le_of_ble_eq_true rfl)) rfl (fun σ20 => ?_)
          refine pn_iconst dX11_readAtom_112 rfl ic_1 ?_
          exact pn_iretv dX11_readAtom_113 rfl rfl rfl
  · refine pn_aload_n dX11_readAtom_9 rfl rfl rfl ?_
    refine pn_geti dX11_readAtom_10 rfl lf_X11_191_10 qt_85 qk_85 qr_85_13 ?_
    refine pn_bipush dX11_readAtom_13 rfl bc_6 ?_
    refine pn_icmp_ne (tgt := 20) dX11_readAtom_15 rfl rfl (fun c21 => ?_) (fun c21 => ?_)
    · refine pn_iconst dX11_readAtom_18 rfl ic_0 ?_
      exact pn_iretv dX11_readAtom_19 rfl rfl rfl
    · refine pn_aload_n dX11_readAtom_20 rfl rfl rfl ?_
      refine pn_dupa dX11_readAtom_21 rfl ?_
      refine pn_geti dX11_readAtom_22 rfl lf_X11_191_10 qt_85 qk_85 qr_85_13 ?_
      refine pn_iconst dX11_readAtom_25 rfl ic_1 ?_
      refine pn_iadd dX11_readAtom_26 rfl ?_
      refine pn_puti dX11_readAtom_27 rfl lf_X11_191_10 (fpi_10_13 ((σ1 85 13) + (1 : Int32))) qt_85 qk_85 qr_85_13 ?_
      refine pn_aload_n dX11_readAtom_30 rfl rfl rfl ?_
      refine pn_ci (fun r9 h9 => pn_LKV dX11_readAtom_31 lm_X11_194 (hgC (pn_up σ1 85 13 ((σ1 85 13) + (1 : Int32))) r9 h9) (Nat.lt_succ_self d9) qt_85 qk_85 rfl rfl (Nat.le_of_ble_eq_true rfl)) rfl (fun x22 σ22 => ?_)
      refine pn_if_ne (tgt := 39) dX11_readAtom_34 rfl rfl (fun c23 => ?_) (fun c23 => ?_)
      · refine pn_iconst dX11_readAtom_37 rfl ic_0 ?_
        exact pn_iretv dX11_readAtom_38 rfl rfl rfl
      · refine pn_aload_n dX11_readAtom_39 rfl rfl rfl ?_
        refine pn_dupa dX11_readAtom_40 rfl ?_
        refine pn_geti dX11_readAtom_41 rfl lf_X11_191_10 qt_85 qk_85 qr_85_13 ?_
        refine pn_iconst dX11_readAtom_44 rfl ic_1 ?_
        refine pn_isub dX11_readAtom_45 rfl ?_
        refine pn_puti dX11_readAtom_46 rfl lf_X11_191_10 (fpi_10_13 ((σ22 85 13) - (1 : Int32))) qt_85 qk_85 qr_85_13 ?_
        refine pn_aload_n dX11_readAtom_49 rfl rfl rfl ?_
        refine pn_bipush dX11_readAtom_50 rfl bc_41 ?_
        refine pn_ci (fun r9 h9 => pn_LKV dX11_readAtom_52 lm_X11_185 (ct_X11_sign Γ (41 : Int32) (pn_up σ22 85 13 ((σ22 85 13) - (1 : Int32))) r9 h9) (by omega) qt_85 qk_85 rfl rfl (Nat.le_of_ble_eq_true rfl)) rfl (fun x24 σ24 => ?_)
        exact pn_iretb dX11_readAtom_55 rfl rfl

set_option maxRecDepth 20000 in
set_option maxHeartbeats 4000000 in
theorem wX11_readAllOf_9 (Γ : pn_G) (d9 : Nat) (hd9 : 20 ≤ d9) (gA : pn_S → Option (Int32 × pn_S)) (hgA : ∀  (σ : pn_S) (r : Int32 × pn_S), gA  σ = some r → pn_C Γ d9 mX11_readAtom [.ref 85] σ (pn_i r)) : ∀ (n9 : Nat) (σ : pn_S), pn_W9 Γ (d9 + 1) mX11_readAllOf pn_i 9 [.ref 85] [] σ (fX11_readAllOf_9 gA n9  σ) := by
  intro n9
  induction n9 with
  | zero => intro σ; exact pn_none
  | succ n9 ih =>
    intro σ
    rw [fX11_readAllOf_9]
    refine pn_aload_n dX11_readAllOf_9 rfl rfl rfl ?_
    refine pn_ldcs (j := 26) dX11_readAllOf_10 rfl rfl (by decide) ?_
    refine pn_ci (fun r9 h9 => pn_LKV dX11_readAllOf_12 lm_X11_122 (ct_X11_passes Γ 26 (by decide) σ r9 h9) (by omega) qt_85 qk_85 rfl rfl (Nat.le_of_ble_eq_true rfl)) rfl (fun x3 σ3 => ?_)
    refine pn_if_eq (tgt := 37) dX11_readAllOf_15 rfl rfl (fun c4 => ?_) (fun c4 => ?_)
    · refine pn_iconst dX11_readAllOf_37 rfl ic_1 ?_
      exact pn_iretv dX11_readAllOf_38 rfl rfl rfl
    · refine pn_aload_n dX11_readAllOf_18 rfl rfl rfl ?_
      refine pn_ci (fun r9 h9 => pn_LKV dX11_readAllOf_19 lm_X11_199 (hgA σ3 r9 h9) (Nat.lt_succ_self d9) qt_85 qk_85 rfl rfl (Nat.le_of_ble_eq_true rfl)) rfl (fun x5 σ5 => ?_)
      refine pn_if_ne (tgt := 27) dX11_readAllOf_22 rfl rfl (fun c6 => ?_) (fun c6 => ?_)
      · refine pn_iconst dX11_readAllOf_25 rfl ic_0 ?_
        exact pn_iretv dX11_readAllOf_26 rfl rfl rfl
      · refine pn_aload_n dX11_readAllOf_27 rfl rfl rfl ?_
        refine pn_bipush dX11_readAllOf_28 rfl bc_15 ?_
        refine pn_iconst dX11_readAllOf_30 rfl ic_0 ?_
        refine pn_cv (fun r9 h9 => pn_LKV dX11_readAllOf_31 lm_X11_178 (ct_X11_emits Γ (15 : Int32) (0 : Int32) σ5 r9 h9) (by omega) qt_85 qk_85 rfl rfl (Nat.le_of_ble_eq_true rfl)) rfl (fun σ7 => ?_)
        refine pn_goto (pc' := 9) dX11_readAllOf_34 rfl ?_
        exact ih σ7

set_option maxRecDepth 20000 in
set_option maxHeartbeats 4000000 in
theorem ct_X11_readAllOf (Γ : pn_G) (d9 : Nat) (hd9 : 20 ≤ d9) (gA : pn_S → Option (Int32 × pn_S)) (hgA : ∀  (σ : pn_S) (r : Int32 × pn_S), gA  σ = some r → pn_C Γ d9 mX11_readAtom [.ref 85] σ (pn_i r)) (σ : pn_S) : ∀ r, fX11_readAllOf gA σ = some r → pn_C Γ (d9 + 1) mX11_readAllOf [.ref 85] σ (pn_i r) := by
  refine pn_of (ls := [.ref 85]) (by decide) rfl (pn_cat rfl) rfl (Nat.le_of_ble_eq_true rfl) ?_
  rw [fX11_readAllOf]
  refine pn_aload_n dX11_readAllOf_0 rfl rfl rfl ?_
  refine pn_ci (fun r9 h9 => pn_LKV dX11_readAllOf_1 lm_X11_199 (hgA σ r9 h9) (Nat.lt_succ_self d9) qt_85 qk_85 rfl rfl (Nat.le_of_ble_eq_true rfl)) rfl (fun x1 σ1 => ?_)
  refine pn_if_ne (tgt := 9) dX11_readAllOf_4 rfl rfl (fun c2 => ?_) (fun c2 => ?_)
  · refine pn_iconst dX11_readAllOf_7 rfl ic_0 ?_
    exact pn_iretv dX11_readAllOf_8 rfl rfl rfl
  · exact wX11_readAllOf_9 Γ d9 hd9 gA hgA 5000 σ1

set_option maxRecDepth 20000 in
set_option maxHeartbeats 4000000 in
theorem wX11_readCond_9 (Γ : pn_G) (d9 : Nat) (hd9 : 20 ≤ d9) (gL : pn_S → Option (Int32 × pn_S)) (hgL : ∀  (σ : pn_S) (r : Int32 × pn_S), gL  σ = some r → pn_C Γ d9 mX11_readAllOf [.ref 85] σ (pn_i r)) : ∀ (n9 : Nat) (σ : pn_S), pn_W9 Γ (d9 + 1) mX11_readCond pn_i 9 [.ref 85] [] σ (fX11_readCond_9 gL n9  σ) := by
  intro n9
  induction n9 with
  | zero => intro σ; exact pn_none
  | succ n9 ih =>
    intro σ
    rw [fX11_readCond_9]
    refine pn_aload_n dX11_readCond_9 rfl rfl rfl ?_
    refine pn_ldcs (j := 27) dX11_readCond_10 rfl rfl (by decide) ?_
    refine pn_ci (fun r9 h9 => pn_LKV dX11_readCond_12 lm_X11_122 (ct_X11_passes Γ 27 (by decide) σ r9 h9) (by omega) qt_85 qk_85 rfl rfl (Nat.le_of_ble_eq_true rfl)) rfl (fun x3 σ3 => ?_)
    refine pn_if_eq (tgt := 37) dX11_readCond_15 rfl rfl (fun c4 => ?_) (fun c4 => ?_)
    · refine pn_iconst dX11_readCond_37 rfl ic_1 ?_
      exact pn_iretv dX11_readCond_38 rfl rfl rfl
    · refine pn_aload_n dX11_readCond_18 rfl rfl rfl ?_
      refine pn_ci (fun r9 h9 => pn_LKV dX11_readCond_19 lm_X11_210 (hgL σ3 r9 h9) (Nat.lt_succ_self d9) qt_85 qk_85 rfl rfl (Nat.le_of_ble_eq_true rfl)) rfl (fun x5 σ5 => ?_)
      refine pn_if_ne (tgt := 27) dX11_readCond_22 rfl rfl (fun c6 => ?_) (fun c6 => ?_)
      · refine pn_iconst dX11_readCond_25 rfl ic_0 ?_
        exact pn_iretv dX11_readCond_26 rfl rfl rfl
      · refine pn_aload_n dX11_readCond_27 rfl rfl rfl ?_
        refine pn_bipush dX11_readCond_28 rfl bc_16 ?_
        refine pn_iconst dX11_readCond_30 rfl ic_0 ?_
        refine pn_cv (fun r9 h9 => pn_LKV dX11_readCond_31 lm_X11_178 (ct_X11_emits Γ (16 : Int32) (0 : Int32) σ5 r9 h9) (by omega) qt_85 qk_85 rfl rfl (Nat.le_of_ble_eq_true rfl)) rfl (fun σ7 => ?_)
        refine pn_goto (pc' := 9) dX11_readCond_34 rfl ?_
        exact ih σ7

set_option maxRecDepth 20000 in
set_option maxHeartbeats 4000000 in
theorem ct_X11_readCond (Γ : pn_G) (d9 : Nat) (hd9 : 20 ≤ d9) (gL : pn_S → Option (Int32 × pn_S)) (hgL : ∀  (σ : pn_S) (r : Int32 × pn_S), gL  σ = some r → pn_C Γ d9 mX11_readAllOf [.ref 85] σ (pn_i r)) (σ : pn_S) : ∀ r, fX11_readCond gL σ = some r → pn_C Γ (d9 + 1) mX11_readCond [.ref 85] σ (pn_i r) := by
  refine pn_of (ls := [.ref 85]) (by decide) rfl (pn_cat rfl) rfl (Nat.le_of_ble_eq_true rfl) ?_
  rw [fX11_readCond]
  refine pn_aload_n dX11_readCond_0 rfl rfl rfl ?_
  refine pn_ci (fun r9 h9 => pn_LKV dX11_readCond_1 lm_X11_210 (hgL σ r9 h9) (Nat.lt_succ_self d9) qt_85 qk_85 rfl rfl (Nat.le_of_ble_eq_true rfl)) rfl (fun x1 σ1 => ?_)
  refine pn_if_ne (tgt := 9) dX11_readCond_4 rfl rfl (fun c2 => ?_) (fun c2 => ?_)
  · refine pn_iconst dX11_readCond_7 rfl ic_0 ?_
    exact pn_iretv dX11_readCond_8 rfl rfl rfl
  · exact wX11_readCond_9 Γ d9 hd9 gL hgL 5000 σ1
theorem ct_X11_both (Γ : pn_G) : ∀ (n : Nat), (∀ (σ : pn_S) r, (fX11_both n).1 σ = some r → pn_C Γ (20 + n) mX11_readCond [.ref 85] σ (pn_i r)) ∧ (∀ (σ : pn_S) r, (fX11_both n).2.1 σ = some r → pn_C Γ (20 + n) mX11_readAllOf [.ref 85] σ (pn_i r)) ∧ (∀ (σ : pn_S) r, (fX11_both n).2.2 σ = some r → pn_C Γ (20 + n) mX11_readAtom [.ref 85] σ (pn_i r)) := by
  intro n
  induction n with
  | zero => exact ⟨fun _ _ h => (nomatch h), fun _ _ h => (nomatch h), fun _ _ h => (nomatch h)⟩
  | succ n ih => exact ⟨fun σ r h => ct_X11_readCond Γ (20 + n) (by omega) _ ih.2.1 σ r h, fun σ r h => ct_X11_readAllOf Γ (20 + n) (by omega) _ ih.2.2 σ r h, fun σ r h => ct_X11_readAtom Γ (20 + n) (by omega) _ ih.1 _ ih.2.2 σ r h⟩
theorem ct_X11_cond (Γ : pn_G) (σ : pn_S) : ∀ r, fX11_cond σ = some r → pn_C Γ 60 mX11_readCond [.ref 85] σ (pn_i r) := (ct_X11_both Γ 40).1 σ

set_option maxRecDepth 20000 in
set_option maxHeartbeats 4000000 in
theorem wX11_readLawLine_128 (Γ : pn_G)  (l2 : Int32) (σ : pn_S) : pn_W9 Γ 61 mX11_readLawLine pn_i 128 [.ref 85, .null, .int l2] [] σ (fX11_readLawLine_128 l2 σ) := by
  rw [fX11_readLawLine_128]
  refine pn_aload_n dX11_readLawLine_128 rfl rfl rfl ?_
  refine pn_geta dX11_readLawLine_129 rfl lf_X11_13_10 qt_85 qk_85 qr_85_1 qt_86 ?_
  refine pn_iload_n dX11_readLawLine_132 rfl rfl rfl ?_
  refine pn_iconst dX11_readLawLine_133 rfl ic_3 ?_
  refine pn_iadd dX11_readLawLine_134 rfl ?_
  refine pn_aload_n dX11_readLawLine_135 rfl rfl rfl ?_
  refine pn_geti dX11_readLawLine_136 rfl lf_X11_166_10 qt_85 qk_85 qr_85_16 ?_
  refine pn_iast dX11_readLawLine_139 rfl qt_86 qk_86 ql_86 ?_
  refine pn_iconst dX11_readLawLine_140 rfl ic_1 ?_
  exact pn_iretv dX11_readLawLine_141 rfl rfl rfl

set_option maxRecDepth 20000 in
set_option maxHeartbeats 4000000 in
theorem wX11_readLawLine_53 (Γ : pn_G)  (l2 : Int32) (s1 : Int32) (s2 : Int32) (σ : pn_S) : pn_W9 Γ 61 mX11_readLawLine pn_i 53 [.ref 85, .null, .int l2] [.int s2, .int s1, .ref 86] σ (fX11_readLawLine_53 l2 s1 s2 σ) := by
  rw [fX11_readLawLine_53]
  refine pn_iast dX11_readLawLine_53 rfl qt_86 qk_86 ql_86 ?_
  refine pn_aload_n dX11_readLawLine_54 rfl rfl rfl ?_
  refine pn_geta dX11_readLawLine_55 rfl lf_X11_13_10 qt_85 qk_85 qr_85_1 qt_86 ?_
  refine pn_iload_n dX11_readLawLine_58 rfl rfl rfl ?_
  refine pn_iald dX11_readLawLine_59 rfl qt_86 qk_86 ql_86 ?_
  refine pn_if_ge (tgt := 65) dX11_readLawLine_60 rfl rfl (fun c7 => ?_) (fun c7 => ?_)
  · refine pn_aload_n dX11_readLawLine_65 rfl rfl rfl ?_
    refine pn_geta dX11_readLawLine_66 rfl lf_X11_13_10 qt_85 qk_85 qr_85_1 qt_86 ?_
    refine pn_iload_n dX11_readLawLine_69 rfl rfl rfl ?_
    refine pn_iconst dX11_readLawLine_70 rfl ic_1 ?_
    refine pn_iadd dX11_readLawLine_71 rfl ?_
    refine pn_aload_n dX11_readLawLine_72 rfl rfl rfl ?_
    refine pn_iconst dX11_readLawLine_73 rfl ic_0 ?_
    refine pn_bipush dX11_readLawLine_74 rfl bc_30 ?_
    refine pn_ci (fun r9 h9 => pn_LKV dX11_readLawLine_76 lm_X11_106 (ct_X11_number Γ (0 : Int32) (30 : Int32) (pn_up σ 86 (Int32.toNatClampNeg s1) s2) r9 h9) (by decide) qt_85 qk_85 rfl rfl (Nat.le_of_ble_eq_true rfl)) rfl (fun x8 σ8 => ?_)
    refine pn_iast dX11_readLawLine_79 rfl qt_86 qk_86 ql_86 ?_
    refine pn_aload_n dX11_readLawLine_80 rfl rfl rfl ?_
    refine pn_geta dX11_readLawLine_81 rfl lf_X11_13_10 qt_85 qk_85 qr_85_1 qt_86 ?_
    refine pn_iload_n dX11_readLawLine_84 rfl rfl rfl ?_
    refine pn_iconst dX11_readLawLine_85 rfl ic_1 ?_
    refine pn_iadd dX11_readLawLine_86 rfl ?_
    refine pn_iald dX11_readLawLine_87 rfl qt_86 qk_86 ql_86 ?_
    refine pn_if_ge (tgt := 93) dX11_readLawLine_88 rfl rfl (fun c9 => ?_) (fun c9 => ?_)
    · refine pn_aload_n dX11_readLawLine_93 rfl rfl rfl ?_
      refine pn_geta dX11_readLawLine_94 rfl lf_X11_13_10 qt_85 qk_85 qr_85_1 qt_86 ?_
      refine pn_iload_n dX11_readLawLine_97 rfl rfl rfl ?_
      refine pn_iconst dX11_readLawLine_98 rfl ic_2 ?_
      refine pn_iadd dX11_readLawLine_99 rfl ?_
      refine pn_aload_n dX11_readLawLine_100 rfl rfl rfl ?_
      refine pn_geti dX11_readLawLine_101 rfl lf_X11_166_10 qt_85 qk_85 qr_85_16 ?_
      refine pn_iast dX11_readLawLine_104 rfl qt_86 qk_86 ql_86 ?_
      refine pn_aload_n dX11_readLawLine_105 rfl rfl rfl ?_
      refine pn_iconst dX11_readLawLine_106 rfl ic_0 ?_
      refine pn_puti dX11_readLawLine_107 rfl lf_X11_191_10 (fpi_10_13 (0 : Int32)) qt_85 qk_85 qr_85_13 ?_
      refine pn_aload_n dX11_readLawLine_110 rfl rfl rfl ?_
      refine pn_ldcs (j := 20) dX11_readLawLine_111 rfl rfl (by decide) ?_
      refine pn_ci (fun r9 h9 => pn_LKV dX11_readLawLine_113 lm_X11_122 (ct_X11_passes Γ 20 (by decide) (pn_up (pn_up (pn_up σ8 86 (Int32.toNatClampNeg (l2 + (1 : Int32))) x8) 86 (Int32.toNatClampNeg (l2 + (2 : Int32))) ((pn_up σ8 86 (Int32.toNatClampNeg (l2 + (1 : Int32))) x8) 85 16)) 85 13 (0 : Int32)) r9 h9) (by decide) qt_85 qk_85 rfl rfl (Nat.le_of_ble_eq_true rfl)) rfl (fun x10 σ10 => ?_)
      refine pn_if_eq (tgt := 128) dX11_readLawLine_116 rfl rfl (fun c11 => ?_) (fun c11 => ?_)
      · exact wX11_readLawLine_128 Γ l2 σ10
      · refine pn_aload_n dX11_readLawLine_119 rfl rfl rfl ?_
        refine pn_ci (fun r9 h9 => pn_LKV dX11_readLawLine_120 lm_X11_194 (ct_X11_cond Γ σ10 r9 h9) (by decide) qt_85 qk_85 rfl rfl (Nat.le_of_ble_eq_true rfl)) rfl (fun x12 σ12 => ?_)
        refine pn_if_ne (tgt := 128) dX11_readLawLine_123 rfl rfl (fun c13 => ?_) (fun c13 => ?_)
        · refine pn_iconst dX11_readLawLine_126 rfl ic_0 ?_
          exact pn_iretv dX11_readLawLine_127 rfl rfl rfl
        · exact wX11_readLawLine_128 Γ l2 σ12
    · refine pn_iconst dX11_readLawLine_91 rfl ic_0 ?_
      exact pn_iretv dX11_readLawLine_92 rfl rfl rfl
  · refine pn_iconst dX11_readLawLine_63 rfl ic_0 ?_
    exact pn_iretv dX11_readLawLine_64 rfl rfl rfl

set_option maxRecDepth 20000 in
set_option maxHeartbeats 4000000 in
theorem ct_X11_readLawLine (Γ : pn_G) (a1 : Int32) (σ : pn_S) : ∀ r, fX11_readLawLine a1 σ = some r → pn_C Γ 61 mX11_readLawLine [.ref 85, .int a1] σ (pn_i r) := by
  refine pn_of (ls := [.ref 85, .int a1, .null]) (by decide) rfl (pn_cat rfl) rfl (Nat.le_of_ble_eq_true rfl) ?_
  rw [fX11_readLawLine]
  refine pn_sipush dX11_readLawLine_0 rfl sc_1167 ?_
  refine pn_iconst dX11_readLawLine_3 rfl ic_4 ?_
  refine pn_iload_n dX11_readLawLine_4 rfl rfl rfl ?_
  refine pn_imul dX11_readLawLine_5 rfl ?_
  refine pn_iadd dX11_readLawLine_6 rfl ?_
  refine pn_istore_n (ls' := [.ref 85, .int a1, .int ((1167 : Int32) + ((4 : Int32) * a1))]) dX11_readLawLine_7 rfl rfl (Nat.le_of_ble_eq_true rfl) rfl ?_
  refine pn_aload_n dX11_readLawLine_8 rfl rfl rfl ?_
  refine pn_geta dX11_readLawLine_9 rfl lf_X11_13_10 qt_85 qk_85 qr_85_1 qt_86 ?_
  refine pn_iload_n dX11_readLawLine_12 rfl rfl rfl ?_
  refine pn_aload_n dX11_readLawLine_13 rfl rfl rfl ?_
  refine pn_ldcs (j := 17) dX11_readLawLine_14 rfl rfl (by decide) ?_
  refine pn_cp (fun r9 h9 => pn_LKV dX11_readLawLine_16 lm_X11_102 (ct_X11_isWord Γ 17 (by decide) σ r9 h9) (by decide) qt_85 qk_85 rfl rfl (Nat.le_of_ble_eq_true rfl)) rfl (fun x1 => ?_)
  refine pn_if_eq (tgt := 26) dX11_readLawLine_19 rfl rfl (fun c2 => ?_) (fun c2 => ?_)
  · refine pn_aload_n dX11_readLawLine_26 rfl rfl rfl ?_
    refine pn_ldcs (j := 18) dX11_readLawLine_27 rfl rfl (by decide) ?_
    refine pn_cp (fun r9 h9 => pn_LKV dX11_readLawLine_29 lm_X11_102 (ct_X11_isWord Γ 18 (by decide) σ r9 h9) (by decide) qt_85 qk_85 rfl rfl (Nat.le_of_ble_eq_true rfl)) rfl (fun x3 => ?_)
    refine pn_if_eq (tgt := 39) dX11_readLawLine_32 rfl rfl (fun c4 => ?_) (fun c4 => ?_)
    · refine pn_aload_n dX11_readLawLine_39 rfl rfl rfl ?_
      refine pn_ldcs (j := 19) dX11_readLawLine_40 rfl rfl (by decide) ?_
      refine pn_cp (fun r9 h9 => pn_LKV dX11_readLawLine_42 lm_X11_102 (ct_X11_isWord Γ 19 (by decide) σ r9 h9) (by decide) qt_85 qk_85 rfl rfl (Nat.le_of_ble_eq_true rfl)) rfl (fun x5 => ?_)
      refine pn_if_eq (tgt := 52) dX11_readLawLine_45 rfl rfl (fun c6 => ?_) (fun c6 => ?_)
      · refine pn_iconst dX11_readLawLine_52 rfl ic_m1 ?_
        exact pn_wk (pn_leC rfl (pn_leN (pn_leC rfl pn_le0))) (wX11_readLawLine_53 Γ ((1167 : Int32) + ((4 : Int32) * a1)) ((1167 : Int32) + ((4 : Int32) * a1)) (-1 : Int32) σ)
      · refine pn_iconst dX11_readLawLine_48 rfl ic_2 ?_
        refine pn_goto (pc' := 53) dX11_readLawLine_49 rfl ?_
        exact pn_wk (pn_leC rfl (pn_leN (pn_leC rfl pn_le0))) (wX11_readLawLine_53 Γ ((1167 : Int32) + ((4 : Int32) * a1)) ((1167 : Int32) + ((4 : Int32) * a1)) (2 : Int32) σ)
    · refine pn_iconst dX11_readLawLine_35 rfl ic_1 ?_
      refine pn_goto (pc' := 53) dX11_readLawLine_36 rfl ?_
      exact pn_wk (pn_leC rfl (pn_leN (pn_leC rfl pn_le0))) (wX11_readLawLine_53 Γ ((1167 : Int32) + ((4 : Int32) * a1)) ((1167 : Int32) + ((4 : Int32) * a1)) (1 : Int32) σ)
  · refine pn_iconst dX11_readLawLine_22 rfl ic_0 ?_
    refine pn_goto (pc' := 53) dX11_readLawLine_23 rfl ?_
    exact pn_wk (pn_leC rfl (pn_leN (pn_leC rfl pn_le0))) (wX11_readLawLine_53 Γ ((1167 : Int32) + ((4 : Int32) * a1)) ((1167 : Int32) + ((4 : Int32) * a1)) (0 : Int32) σ)

set_option maxRecDepth 20000 in
set_option maxHeartbeats 4000000 in
theorem wX11_readLine_16 (Γ : pn_G)  (l1 : Int32) (l2 : Int32) (s0 : Int32) (s1 : Int32) (σ : pn_S) : pn_W9 Γ 62 mX11_readLine pn_i 16 [.ref 85, .int l1, .int l2] [.int s1, .int s0] σ (fX11_readLine_16 l1 l2 s0 s1 σ) := by
  rw [fX11_readLine_16]
  refine pn_icmp_ge (tgt := 45) dX11_readLine_16 rfl rfl (fun c3 => ?_) (fun c3 => ?_)
  · refine pn_iconst dX11_readLine_45 rfl ic_0 ?_
    exact pn_iretv dX11_readLine_46 rfl rfl rfl
  · refine pn_iload_n dX11_readLine_19 rfl rfl rfl ?_
    refine pn_if_eq (tgt := 33) dX11_readLine_20 rfl rfl (fun c4 => ?_) (fun c4 => ?_)
    · refine pn_aload_n dX11_readLine_33 rfl rfl rfl ?_
      refine pn_iload_n dX11_readLine_34 rfl rfl rfl ?_
      refine pn_ci (fun r9 h9 => pn_LKV dX11_readLine_35 lm_X11_226 (ct_X11_readLawLine Γ l2 σ r9 h9) (by decide) qt_85 qk_85 rfl rfl (Nat.le_of_ble_eq_true rfl)) rfl (fun x5 σ5 => ?_)
      refine pn_if_eq (tgt := 45) dX11_readLine_38 rfl rfl (fun c6 => ?_) (fun c6 => ?_)
      · refine pn_iconst dX11_readLine_45 rfl ic_0 ?_
        exact pn_iretv dX11_readLine_46 rfl rfl rfl
      · refine pn_iconst dX11_readLine_41 rfl ic_1 ?_
        refine pn_goto (pc' := 46) dX11_readLine_42 rfl ?_
        exact pn_iretv dX11_readLine_46 rfl rfl rfl
    · refine pn_aload_n dX11_readLine_23 rfl rfl rfl ?_
      refine pn_ci (fun r9 h9 => pn_LKV dX11_readLine_24 lm_X11_223 (ct_X11_readVillageLine Γ σ r9 h9) (by decide) qt_85 qk_85 rfl rfl (Nat.le_of_ble_eq_true rfl)) rfl (fun x7 σ7 => ?_)
      refine pn_if_eq (tgt := 45) dX11_readLine_27 rfl rfl (fun c8 => ?_) (fun c8 => ?_)
      · refine pn_iconst dX11_readLine_45 rfl ic_0 ?_
        exact pn_iretv dX11_readLine_46 rfl rfl rfl
      · refine pn_goto (pc' := 41) dX11_readLine_30 rfl ?_
        refine pn_iconst dX11_readLine_41 rfl ic_1 ?_
        refine pn_goto (pc' := 46) dX11_readLine_42 rfl ?_
        exact pn_iretv dX11_readLine_46 rfl rfl rfl

set_option maxRecDepth 20000 in
set_option maxHeartbeats 4000000 in
theorem ct_X11_readLine (Γ : pn_G) (a1 : Int32) (a2 : Int32) (σ : pn_S) : ∀ r, fX11_readLine a1 a2 σ = some r → pn_C Γ 62 mX11_readLine [.ref 85, .int a1, .int a2] σ (pn_i r) := by
  refine pn_of (ls := [.ref 85, .int a1, .int a2]) (by decide) rfl (pn_cat rfl) rfl (Nat.le_of_ble_eq_true rfl) ?_
  rw [fX11_readLine]
  refine pn_aload_n dX11_readLine_0 rfl rfl rfl ?_
  refine pn_cv (fun r9 h9 => pn_LKV dX11_readLine_1 lm_X11_99 (ct_X11_letters Γ σ r9 h9) (by decide) qt_85 qk_85 rfl rfl (Nat.le_of_ble_eq_true rfl)) rfl (fun σ1 => ?_)
  refine pn_iload_n dX11_readLine_4 rfl rfl rfl ?_
  refine pn_iload_n dX11_readLine_5 rfl rfl rfl ?_
  refine pn_if_eq (tgt := 14) dX11_readLine_6 rfl rfl (fun c2 => ?_) (fun c2 => ?_)
  · refine pn_bipush dX11_readLine_14 rfl bc_12 ?_
    exact wX11_readLine_16 Γ a1 a2 a2 (12 : Int32) σ1
  · refine pn_bipush dX11_readLine_9 rfl bc_14 ?_
    refine pn_goto (pc' := 16) dX11_readLine_11 rfl ?_
    exact wX11_readLine_16 Γ a1 a2 a2 (14 : Int32) σ1

set_option maxRecDepth 20000 in
set_option maxHeartbeats 4000000 in
theorem wX11_readAll_28 (Γ : pn_G)  : ∀ (n9 : Nat) (l1 : Int32) (l2 : Int32) (σ : pn_S), pn_W9 Γ 63 mX11_readAll pn_i 28 [.ref 85, .int l1, .int l2] [] σ (fX11_readAll_28 n9 l1 l2 σ) := by
  intro n9
  induction n9 with
  | zero => intro l1 l2 σ; exact pn_none
  | succ n9 ih =>
    intro l1 l2 σ
    rw [fX11_readAll_28]
    refine pn_aload_n dX11_readAll_28 rfl rfl rfl ?_
    refine pn_iload_n dX11_readAll_29 rfl rfl rfl ?_
    refine pn_iload_n dX11_readAll_30 rfl rfl rfl ?_
    refine pn_ci (fun r9 h9 => pn_LKV dX11_readAll_31 lm_X11_232 (ct_X11_readLine Γ l1 l2 σ r9 h9) (by decide) qt_85 qk_85 rfl rfl (Nat.le_of_ble_eq_true rfl)) rfl (fun x4 σ4 => ?_)
    refine pn_if_ne (tgt := 39) dX11_readAll_34 rfl rfl (fun c5 => ?_) (fun c5 => ?_)
    · refine pn_iconst dX11_readAll_37 rfl ic_m1 ?_
      exact pn_iretv dX11_readAll_38 rfl rfl rfl
    · refine pn_aload_n dX11_readAll_39 rfl rfl rfl ?_
      refine pn_cv (fun r9 h9 => pn_LKV dX11_readAll_40 lm_X11_87 (ct_X11_blanks Γ σ4 r9 h9) (by decide) qt_85 qk_85 rfl rfl (Nat.le_of_ble_eq_true rfl)) rfl (fun σ6 => ?_)
      refine pn_aload_n dX11_readAll_43 rfl rfl rfl ?_
      refine pn_geti dX11_readAll_44 rfl lf_X11_74_10 qt_85 qk_85 qr_85_10 ?_
      refine pn_aload_n dX11_readAll_47 rfl rfl rfl ?_
      refine pn_geti dX11_readAll_48 rfl lf_X11_77_10 qt_85 qk_85 qr_85_11 ?_
      refine pn_icmp_ne (tgt := 58) dX11_readAll_51 rfl rfl (fun c7 => ?_) (fun c7 => ?_)
      · refine pn_iload_n dX11_readAll_54 rfl rfl rfl ?_
        refine pn_iconst dX11_readAll_55 rfl ic_1 ?_
        refine pn_iadd dX11_readAll_56 rfl ?_
        exact pn_iretv dX11_readAll_57 rfl rfl rfl
      · refine pn_aload_n dX11_readAll_58 rfl rfl rfl ?_
        refine pn_bipush dX11_readAll_59 rfl bc_59 ?_
        refine pn_bipush dX11_readAll_61 rfl bc_59 ?_
        refine pn_cp (fun r9 h9 => pn_LKV dX11_readAll_63 lm_X11_80 (ct_X11_isAt Γ (59 : Int32) (59 : Int32) σ6 r9 h9) (by decide) qt_85 qk_85 rfl rfl (Nat.le_of_ble_eq_true rfl)) rfl (fun x8 => ?_)
        refine pn_if_ne (tgt := 71) dX11_readAll_66 rfl rfl (fun c9 => ?_) (fun c9 => ?_)
        · refine pn_iconst dX11_readAll_69 rfl ic_m1 ?_
          exact pn_iretv dX11_readAll_70 rfl rfl rfl
        · refine pn_aload_n dX11_readAll_71 rfl rfl rfl ?_
          refine pn_dupa dX11_readAll_72 rfl ?_
          refine pn_geti dX11_readAll_73 rfl lf_X11_74_10 qt_85 qk_85 qr_85_10 ?_
          refine pn_iconst dX11_readAll_76 rfl ic_1 ?_
          refine pn_iadd dX11_readAll_77 rfl ?_
          refine pn_puti dX11_readAll_78 rfl lf_X11_74_10 (fpi_10_10 ((σ6 85 10) + (1 : Int32))) qt_85 qk_85 qr_85_10 ?_
          refine pn_iinc (ls' := [.ref 85, .int l1, .int (l2 + (1 : Int32))]) dX11_readAll_81 rfl (Nat.le_of_ble_eq_true rfl) rfl (congrArg (fun z => l2 + z) ic_1) rfl ?_
          refine pn_goto (pc' := 28) dX11_readAll_84 rfl ?_
          exact ih l1 (l2 + (1 : Int32)) (pn_up σ6 85 10 ((σ6 85 10) + (1 : Int32)))

set_option maxRecDepth 20000 in
set_option maxHeartbeats 4000000 in
theorem ct_X11_readAll (Γ : pn_G) (a1 : Int32) (σ : pn_S) : ∀ r, fX11_readAll a1 σ = some r → pn_C Γ 63 mX11_readAll [.ref 85, .int a1] σ (pn_i r) := by
  refine pn_of (ls := [.ref 85, .int a1, .null]) (by decide) rfl (pn_cat rfl) rfl (Nat.le_of_ble_eq_true rfl) ?_
  rw [fX11_readAll]
  refine pn_aload_n dX11_readAll_0 rfl rfl rfl ?_
  refine pn_cv (fun r9 h9 => pn_LKV dX11_readAll_1 lm_X11_229 (ct_X11_uses Γ σ r9 h9) (by decide) qt_85 qk_85 rfl rfl (Nat.le_of_ble_eq_true rfl)) rfl (fun σ1 => ?_)
  refine pn_aload_n dX11_readAll_4 rfl rfl rfl ?_
  refine pn_iconst dX11_readAll_5 rfl ic_0 ?_
  refine pn_puti dX11_readAll_6 rfl lf_X11_166_10 (fpi_10_16 (0 : Int32)) qt_85 qk_85 qr_85_16 ?_
  refine pn_aload_n dX11_readAll_9 rfl rfl rfl ?_
  refine pn_cv (fun r9 h9 => pn_LKV dX11_readAll_10 lm_X11_87 (ct_X11_blanks Γ (pn_up σ1 85 16 (0 : Int32)) r9 h9) (by decide) qt_85 qk_85 rfl rfl (Nat.le_of_ble_eq_true rfl)) rfl (fun σ2 => ?_)
  refine pn_aload_n dX11_readAll_13 rfl rfl rfl ?_
  refine pn_geti dX11_readAll_14 rfl lf_X11_74_10 qt_85 qk_85 qr_85_10 ?_
  refine pn_aload_n dX11_readAll_17 rfl rfl rfl ?_
  refine pn_geti dX11_readAll_18 rfl lf_X11_77_10 qt_85 qk_85 qr_85_11 ?_
  refine pn_icmp_ne (tgt := 26) dX11_readAll_21 rfl rfl (fun c3 => ?_) (fun c3 => ?_)
  · refine pn_iconst dX11_readAll_24 rfl ic_0 ?_
    exact pn_iretv dX11_readAll_25 rfl rfl rfl
  · refine pn_iconst dX11_readAll_26 rfl ic_0 ?_
    refine pn_istore_n (ls' := [.ref 85, .int a1, .int (0 : Int32)]) dX11_readAll_27 rfl rfl (Nat.le_of_ble_eq_true rfl) rfl ?_
    exact wX11_readAll_28 Γ 5000 a1 (0 : Int32) σ2

set_option maxRecDepth 20000 in
set_option maxHeartbeats 4000000 in
theorem wX11_village_92 (Γ : pn_G)  : ∀ (n9 : Nat) (l2 : Int32) (σ : pn_S), pn_W9 Γ 64 mX11_village pn_i 92 [.ref 85, .null, .int l2] [] σ (fX11_village_92 n9 l2 σ) := by
  intro n9
  induction n9 with
  | zero => intro l2 σ; exact pn_none
  | succ n9 ih =>
    intro l2 σ
    rw [fX11_village_92]
    refine pn_iload_n dX11_village_92 rfl rfl rfl ?_
    refine pn_sipush dX11_village_93 rfl sc_1166 ?_
    refine pn_icmp_ge (tgt := 117) dX11_village_96 rfl rfl (fun c10 => ?_) (fun c10 => ?_)
    · refine pn_iconst dX11_village_117 rfl ic_0 ?_
      exact pn_iretv dX11_village_118 rfl rfl rfl
    · refine pn_aload_n dX11_village_99 rfl rfl rfl ?_
      refine pn_geta dX11_village_100 rfl lf_X11_13_10 qt_85 qk_85 qr_85_1 qt_86 ?_
      refine pn_iload_n dX11_village_103 rfl rfl rfl ?_
      refine pn_aload_n dX11_village_104 rfl rfl rfl ?_
      refine pn_geta dX11_village_105 rfl lf_X11_20_10 qt_85 qk_85 qr_85_3 qt_88 ?_
      refine pn_iload_n dX11_village_108 rfl rfl rfl ?_
      refine pn_iald dX11_village_109 rfl qt_88 qk_88 ql_88 ?_
      refine pn_iast dX11_village_110 rfl qt_86 qk_86 ql_86 ?_
      refine pn_iinc (ls' := [.ref 85, .null, .int (l2 + (1 : Int32))]) dX11_village_111 rfl (Nat.le_of_ble_eq_true rfl) rfl (congrArg (fun z => l2 + z) ic_1) rfl ?_
      refine pn_goto (pc' := 92) dX11_village_114 rfl ?_
      exact ih (l2 + (1 : Int32)) (pn_up σ 86 (Int32.toNatClampNeg l2) (σ 88 (Int32.toNatClampNeg l2)))

set_option maxRecDepth 20000 in
set_option maxHeartbeats 4000000 in
theorem wX11_village_83 (Γ : pn_G)  (s1 : Int32) (σ : pn_S) : pn_W9 Γ 64 mX11_village pn_i 83 [.ref 85, .null, .null] [.int s1, .ref 85] σ (fX11_village_83 s1 σ) := by
  rw [fX11_village_83]
  refine pn_iconst dX11_village_83 rfl ic_2 ?_
  refine pn_ci (fun r9 h9 => pn_LKV dX11_village_84 lm_X11_240 (ct_X11_throwsIf Γ s1 (2 : Int32) σ r9 h9) (by decide) qt_85 qk_85 rfl rfl (Nat.le_of_ble_eq_true rfl)) rfl (fun x8 σ8 => ?_)
  refine pn_if_eq (tgt := 119) dX11_village_87 rfl rfl (fun c9 => ?_) (fun c9 => ?_)
  · refine pn_aload_n dX11_village_119 rfl rfl rfl ?_
    refine pn_geta dX11_village_120 rfl lf_X11_13_10 qt_85 qk_85 qr_85_1 qt_86 ?_
    refine pn_iconst dX11_village_123 rfl ic_1 ?_
    refine pn_dup2 dX11_village_124 rfl ?_
    refine pn_ialdc dX11_village_125 rfl qt_86 qk_86 ql_86 (by decide) qn_1 ?_
    refine pn_iconst dX11_village_126 rfl ic_1 ?_
    refine pn_iadd dX11_village_127 rfl ?_
    refine pn_iastc dX11_village_128 rfl qt_86 qk_86 ql_86 (by decide) qn_1 ?_
    refine pn_aload_n dX11_village_129 rfl rfl rfl ?_
    refine pn_iconst dX11_village_130 rfl ic_0 ?_
    refine pn_puti dX11_village_131 rfl lf_X11_52_10 (fpi_10_7 (0 : Int32)) qt_85 qk_85 qr_85_7 ?_
    refine pn_aload_n dX11_village_134 rfl rfl rfl ?_
    refine pn_geta dX11_village_135 rfl lf_X11_13_10 qt_85 qk_85 qr_85_1 qt_86 ?_
    refine pn_iconst dX11_village_138 rfl ic_1 ?_
    refine pn_ialdc dX11_village_139 rfl qt_86 qk_86 ql_86 (by decide) qn_1 ?_
    exact pn_iretv dX11_village_140 rfl rfl rfl
  · refine pn_iconst dX11_village_90 rfl ic_0 ?_
    refine pn_istore_n (ls' := [.ref 85, .null, .int (0 : Int32)]) dX11_village_91 rfl rfl (Nat.le_of_ble_eq_true rfl) rfl ?_
    exact wX11_village_92 Γ 5000 (0 : Int32) σ8

set_option maxRecDepth 20000 in
set_option maxHeartbeats 4000000 in
theorem wX11_village_59 (Γ : pn_G)  (s1 : Int32) (σ : pn_S) : pn_W9 Γ 64 mX11_village pn_i 59 [.ref 85, .null, .null] [.int s1, .ref 85] σ (fX11_village_59 s1 σ) := by
  rw [fX11_village_59]
  refine pn_iconst dX11_village_59 rfl ic_1 ?_
  refine pn_ci (fun r9 h9 => pn_LKV dX11_village_60 lm_X11_240 (ct_X11_throwsIf Γ s1 (1 : Int32) σ r9 h9) (by decide) qt_85 qk_85 rfl rfl (Nat.le_of_ble_eq_true rfl)) rfl (fun x5 σ5 => ?_)
  refine pn_if_ne (tgt := 90) dX11_village_63 rfl rfl (fun c6 => ?_) (fun c6 => ?_)
  · refine pn_aload_n dX11_village_66 rfl rfl rfl ?_
    refine pn_aload_n dX11_village_67 rfl rfl rfl ?_
    refine pn_geta dX11_village_68 rfl lf_X11_13_10 qt_85 qk_85 qr_85_1 qt_86 ?_
    refine pn_iconst dX11_village_71 rfl ic_1 ?_
    refine pn_ialdc dX11_village_72 rfl qt_86 qk_86 ql_86 (by decide) qn_1 ?_
    refine pn_bipush dX11_village_73 rfl bc_12 ?_
    refine pn_icmp_ne (tgt := 82) dX11_village_75 rfl rfl (fun c7 => ?_) (fun c7 => ?_)
    · refine pn_iconst dX11_village_78 rfl ic_1 ?_
      refine pn_goto (pc' := 83) dX11_village_79 rfl ?_
      exact wX11_village_83 Γ (1 : Int32) σ5
    · refine pn_iconst dX11_village_82 rfl ic_0 ?_
      exact wX11_village_83 Γ (0 : Int32) σ5
  · refine pn_iconst dX11_village_90 rfl ic_0 ?_
    refine pn_istore_n (ls' := [.ref 85, .null, .int (0 : Int32)]) dX11_village_91 rfl rfl (Nat.le_of_ble_eq_true rfl) rfl ?_
    exact wX11_village_92 Γ 5000 (0 : Int32) σ5

set_option maxRecDepth 20000 in
set_option maxHeartbeats 4000000 in
theorem wX11_village_46 (Γ : pn_G)  (l1 : Int32) (s1 : Int32) (σ : pn_S) : pn_W9 Γ 64 mX11_village pn_i 46 [.ref 85, .int l1, .null] [.int s1, .ref 85] σ (fX11_village_46 l1 s1 σ) := by
  rw [fX11_village_46]
  refine pn_puti dX11_village_46 rfl lf_X11_33_10 (fpi_10_14 s1) qt_85 qk_85 qr_85_14 ?_
  refine pn_aload_n dX11_village_49 rfl rfl rfl ?_
  refine pn_iload_n dX11_village_50 rfl rfl rfl ?_
  refine pn_if_ge (tgt := 58) dX11_village_51 rfl rfl (fun c4 => ?_) (fun c4 => ?_)
  · refine pn_iconst dX11_village_58 rfl ic_0 ?_
    exact pn_wk (pn_leC rfl (pn_leN (pn_leN pn_le0))) (wX11_village_59 Γ (0 : Int32) (pn_up σ 85 14 s1))
  · refine pn_iconst dX11_village_54 rfl ic_1 ?_
    refine pn_goto (pc' := 59) dX11_village_55 rfl ?_
    exact pn_wk (pn_leC rfl (pn_leN (pn_leN pn_le0))) (wX11_village_59 Γ (1 : Int32) (pn_up σ 85 14 s1))

set_option maxRecDepth 20000 in
set_option maxHeartbeats 4000000 in
theorem wX11_village_2 (Γ : pn_G)  : ∀ (n9 : Nat) (l1 : Int32) (σ : pn_S), pn_W9 Γ 64 mX11_village pn_i 2 [.ref 85, .int l1, .null] [] σ (fX11_village_2 n9 l1 σ) := by
  intro n9
  induction n9 with
  | zero => intro l1 σ; exact pn_none
  | succ n9 ih =>
    intro l1 σ
    rw [fX11_village_2]
    refine pn_iload_n dX11_village_2 rfl rfl rfl ?_
    refine pn_sipush dX11_village_3 rfl sc_1166 ?_
    refine pn_icmp_ge (tgt := 27) dX11_village_6 rfl rfl (fun c1 => ?_) (fun c1 => ?_)
    · refine pn_aload_n dX11_village_27 rfl rfl rfl ?_
      refine pn_iconst dX11_village_28 rfl ic_1 ?_
      refine pn_ci (fun r9 h9 => pn_LKV dX11_village_29 lm_X11_236 (ct_X11_readAll Γ (1 : Int32) σ r9 h9) (by decide) qt_85 qk_85 rfl rfl (Nat.le_of_ble_eq_true rfl)) rfl (fun x2 σ2 => ?_)
      refine pn_istore_n (ls' := [.ref 85, .int x2, .null]) dX11_village_32 rfl rfl (Nat.le_of_ble_eq_true rfl) rfl ?_
      refine pn_aload_n dX11_village_33 rfl rfl rfl ?_
      refine pn_iload_n dX11_village_34 rfl rfl rfl ?_
      refine pn_if_ge (tgt := 45) dX11_village_35 rfl rfl (fun c3 => ?_) (fun c3 => ?_)
      · refine pn_iconst dX11_village_45 rfl ic_m1 ?_
        exact wX11_village_46 Γ x2 (-1 : Int32) σ2
      · refine pn_aload_n dX11_village_38 rfl rfl rfl ?_
        refine pn_geti dX11_village_39 rfl lf_X11_84_10 qt_85 qk_85 qr_85_12 ?_
        refine pn_goto (pc' := 46) dX11_village_42 rfl ?_
        exact wX11_village_46 Γ x2 (σ2 85 12) σ2
    · refine pn_aload_n dX11_village_9 rfl rfl rfl ?_
      refine pn_geta dX11_village_10 rfl lf_X11_20_10 qt_85 qk_85 qr_85_3 qt_88 ?_
      refine pn_iload_n dX11_village_13 rfl rfl rfl ?_
      refine pn_aload_n dX11_village_14 rfl rfl rfl ?_
      refine pn_geta dX11_village_15 rfl lf_X11_13_10 qt_85 qk_85 qr_85_1 qt_86 ?_
      refine pn_iload_n dX11_village_18 rfl rfl rfl ?_
      refine pn_iald dX11_village_19 rfl qt_86 qk_86 ql_86 ?_
      refine pn_iast dX11_village_20 rfl qt_88 qk_88 ql_88 ?_
      refine pn_iinc (ls' := [.ref 85, .int (l1 + (1 : Int32)), .null]) dX11_village_21 rfl (Nat.le_of_ble_eq_true rfl) rfl (congrArg (fun z => l1 + z) ic_1) rfl ?_
      refine pn_goto (pc' := 2) dX11_village_24 rfl ?_
      exact ih (l1 + (1 : Int32)) (pn_up σ 88 (Int32.toNatClampNeg l1) (σ 86 (Int32.toNatClampNeg l1)))

set_option maxRecDepth 20000 in
set_option maxHeartbeats 4000000 in
theorem ct_X11_village (Γ : pn_G)  (σ : pn_S) : ∀ r, fX11_village  σ = some r → pn_C Γ 64 mX11_village [.ref 85] σ (pn_i r) := by
  refine pn_of (ls := [.ref 85, .null, .null]) (by decide) rfl (pn_cat rfl) rfl (Nat.le_of_ble_eq_true rfl) ?_
  rw [fX11_village]
  refine pn_iconst dX11_village_0 rfl ic_0 ?_
  refine pn_istore_n (ls' := [.ref 85, .int (0 : Int32), .null]) dX11_village_1 rfl rfl (Nat.le_of_ble_eq_true rfl) rfl ?_
  exact wX11_village_2 Γ 5000 (0 : Int32) σ

