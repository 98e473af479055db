set_option maxRecDepth 20000 in
set_option maxHeartbeats 4000000 in
theorem ct_X11_priceBy (Γ : pn_G) (a1 : Int32) (a2 : Int32) (σ : pn_S) : ∀ r, fX11_priceBy a1 a2 σ = some r → pn_C Γ 2 mX11_priceBy [.ref 85, .int a1, .int a2] σ ((pn_p σ) r) := by
  refine pn_of (ls := [.ref 85, .int a1, .int a2]) (by decide) rfl (pn_cat rfl) rfl (Nat.le_of_ble_eq_true rfl) ?_
  rw [fX11_priceBy]
  refine pn_iload_n dX11_priceBy_0 rfl rfl rfl ?_
  refine pn_iload_n dX11_priceBy_1 rfl rfl rfl ?_
  refine pn_cp (fun r9 h9 => pn_LKS dX11_priceBy_2 lm_X11_277 (ct_J6_bitCount_0f7a4 Γ a1 σ r9 h9) (by decide) rfl rfl (Nat.le_of_ble_eq_true rfl)) rfl (fun x1 => ?_)
  refine pn_imul dX11_priceBy_5 rfl ?_
  exact pn_iretv dX11_priceBy_6 rfl rfl rfl

set_option maxRecDepth 20000 in
set_option maxHeartbeats 4000000 in
theorem wX11_buysOff_45 (Γ : pn_G)  : ∀ (n9 : Nat) (l1 : Int32) (l3 : Int32) (σ : pn_S), pn_W9 Γ 3 mX11_buysOff pn_v 45 [.ref 85, .int l1, .null, .int l3] [] σ (fX11_buysOff_45 n9 l1 l3 σ) := by
  intro n9
  induction n9 with
  | zero => intro l1 l3 σ; exact pn_none
  | succ n9 ih =>
    intro l1 l3 σ
    rw [fX11_buysOff_45]
    refine pn_iload_n dX11_buysOff_45 rfl rfl rfl ?_
    refine pn_aload_n dX11_buysOff_46 rfl rfl rfl ?_
    refine pn_cp (fun r9 h9 => pn_LKV dX11_buysOff_47 lm_X11_55 (ct_X11_people Γ σ r9 h9) (by decide) qt_85 qk_85 rfl rfl (Nat.le_of_ble_eq_true rfl)) rfl (fun x4 => ?_)
    refine pn_icmp_ge (tgt := 89) dX11_buysOff_50 rfl rfl (fun c5 => ?_) (fun c5 => ?_)
    · refine pn_aload_n dX11_buysOff_89 rfl rfl rfl ?_
      refine pn_cv (fun r9 h9 => pn_LKV dX11_buysOff_90 lm_X11_308 (ct_X11_noTarget Γ σ r9 h9) (by decide) qt_85 qk_85 rfl rfl (Nat.le_of_ble_eq_true rfl)) rfl (fun σ6 => ?_)
      exact pn_vretv dX11_buysOff_93 rfl rfl
    · refine pn_iload_n dX11_buysOff_53 rfl rfl rfl ?_
      refine pn_iload_n dX11_buysOff_54 rfl rfl rfl ?_
      refine pn_cp (fun r9 h9 => pn_LKS dX11_buysOff_55 lm_X11_274 (ct_X11_has Γ l1 l3 σ r9 h9) (by decide) rfl rfl (Nat.le_of_ble_eq_true rfl)) rfl (fun x7 => ?_)
      refine pn_if_eq (tgt := 83) dX11_buysOff_58 rfl rfl (fun c8 => ?_) (fun c8 => ?_)
      · refine pn_iinc (ls' := [.ref 85, .int l1, .null, .int (l3 + (1 : Int32))]) dX11_buysOff_83 rfl (Nat.le_of_ble_eq_true rfl) rfl (congrArg (fun z => l3 + z) ic_1) rfl ?_
        refine pn_goto (pc' := 45) dX11_buysOff_86 rfl ?_
        exact ih l1 (l3 + (1 : Int32)) σ
      · refine pn_aload_n dX11_buysOff_61 rfl rfl rfl ?_
        refine pn_geta dX11_buysOff_62 rfl lf_X11_13_10 qt_85 qk_85 qr_85_1 qt_86 ?_
        refine pn_iload_n dX11_buysOff_65 rfl rfl rfl ?_
        refine pn_iconst dX11_buysOff_66 rfl ic_1 ?_
        refine pn_cp (fun r9 h9 => pn_LKS dX11_buysOff_67 lm_X11_59 (ct_X11_at Γ l3 (1 : Int32) σ r9 h9) (by decide) rfl rfl (Nat.le_of_ble_eq_true rfl)) rfl (fun x9 => ?_)
        refine pn_iconst dX11_buysOff_70 rfl ic_0 ?_
        refine pn_aload_n dX11_buysOff_71 rfl rfl rfl ?_
        refine pn_iload_n dX11_buysOff_72 rfl rfl rfl ?_
        refine pn_iconst dX11_buysOff_73 rfl ic_1 ?_
        refine pn_cp (fun r9 h9 => pn_LKV dX11_buysOff_74 lm_X11_67 (ct_X11_of Γ l3 (1 : Int32) σ r9 h9) (by decide) qt_85 qk_85 rfl rfl (Nat.le_of_ble_eq_true rfl)) rfl (fun x10 => ?_)
        refine pn_iconst dX11_buysOff_77 rfl ic_1 ?_
        refine pn_isub dX11_buysOff_78 rfl ?_
        refine pn_cp (fun r9 h9 => pn_LKS dX11_buysOff_79 lm_X11_254 (ct_J9_max_7cf53 Γ (0 : Int32) (x10 - (1 : Int32)) σ r9 h9) (by decide) rfl rfl (Nat.le_of_ble_eq_true rfl)) rfl (fun x11 => ?_)
        refine pn_iast dX11_buysOff_82 rfl qt_86 qk_86 ql_86 ?_
        refine pn_iinc (ls' := [.ref 85, .int l1, .null, .int (l3 + (1 : Int32))]) dX11_buysOff_83 rfl (Nat.le_of_ble_eq_true rfl) rfl (congrArg (fun z => l3 + z) ic_1) rfl ?_
        refine pn_goto (pc' := 45) dX11_buysOff_86 rfl ?_
        exact ih l1 (l3 + (1 : Int32)) (pn_up σ 86 (Int32.toNatClampNeg x9) x11)

set_option maxRecDepth 20000 in
set_option maxHeartbeats 4000000 in
theorem ct_X11_buysOff (Γ : pn_G) (a1 : Int32) (σ : pn_S) : ∀ r, fX11_buysOff a1 σ = some r → pn_C Γ 3 mX11_buysOff [.ref 85, .int a1] σ (pn_v r) := by
  refine pn_of (ls := [.ref 85, .int a1, .null, .null]) (by decide) rfl (pn_cat rfl) rfl (Nat.le_of_ble_eq_true rfl) ?_
  rw [fX11_buysOff]
  refine pn_aload_n dX11_buysOff_0 rfl rfl rfl ?_
  refine pn_geta dX11_buysOff_1 rfl lf_X11_13_10 qt_85 qk_85 qr_85_1 qt_86 ?_
  refine pn_iconst dX11_buysOff_4 rfl ic_5 ?_
  refine pn_ialdc dX11_buysOff_5 rfl qt_86 qk_86 ql_86 (by decide) qn_5 ?_
  refine pn_istore_n (ls' := [.ref 85, .int a1, .int (σ 86 5), .null]) dX11_buysOff_6 rfl rfl (Nat.le_of_ble_eq_true rfl) rfl ?_
  refine pn_aload_n dX11_buysOff_7 rfl rfl rfl ?_
  refine pn_geta dX11_buysOff_8 rfl lf_X11_13_10 qt_85 qk_85 qr_85_1 qt_86 ?_
  refine pn_iload_n dX11_buysOff_11 rfl rfl rfl ?_
  refine pn_iconst dX11_buysOff_12 rfl ic_3 ?_
  refine pn_cp (fun r9 h9 => pn_LKS dX11_buysOff_13 lm_X11_59 (ct_X11_at Γ (σ 86 5) (3 : Int32) σ r9 h9) (by decide) rfl rfl (Nat.le_of_ble_eq_true rfl)) rfl (fun x1 => ?_)
  refine pn_dup2 dX11_buysOff_16 rfl ?_
  refine pn_iald dX11_buysOff_17 rfl qt_86 qk_86 ql_86 ?_
  refine pn_aload_n dX11_buysOff_18 rfl rfl rfl ?_
  refine pn_iload_n dX11_buysOff_19 rfl rfl rfl ?_
  refine pn_aload_n dX11_buysOff_20 rfl rfl rfl ?_
  refine pn_geta dX11_buysOff_21 rfl lf_X11_13_10 qt_85 qk_85 qr_85_1 qt_86 ?_
  refine pn_bipush dX11_buysOff_24 rfl bc_10 ?_
  refine pn_ialdc dX11_buysOff_26 rfl qt_86 qk_86 ql_86 (by decide) qn_10 ?_
  refine pn_cp (fun r9 h9 => pn_LKV dX11_buysOff_27 lm_X11_305 (ct_X11_priceBy Γ a1 (σ 86 10) σ r9 h9) (by decide) qt_85 qk_85 rfl rfl (Nat.le_of_ble_eq_true rfl)) rfl (fun x2 => ?_)
  refine pn_isub dX11_buysOff_30 rfl ?_
  refine pn_iast dX11_buysOff_31 rfl qt_86 qk_86 ql_86 ?_
  refine pn_aload_n dX11_buysOff_32 rfl rfl rfl ?_
  refine pn_geta dX11_buysOff_33 rfl lf_X11_13_10 qt_85 qk_85 qr_85_1 qt_86 ?_
  refine pn_iload_n dX11_buysOff_36 rfl rfl rfl ?_
  refine pn_iconst dX11_buysOff_37 rfl ic_4 ?_
  refine pn_cp (fun r9 h9 => pn_LKS dX11_buysOff_38 lm_X11_59 (ct_X11_at Γ (σ 86 5) (4 : Int32) (pn_up σ 86 (Int32.toNatClampNeg x1) ((σ 86 (Int32.toNatClampNeg x1)) - x2)) r9 h9) (by decide) rfl rfl (Nat.le_of_ble_eq_true rfl)) rfl (fun x3 => ?_)
  refine pn_iconst dX11_buysOff_41 rfl ic_0 ?_
  refine pn_iast dX11_buysOff_42 rfl qt_86 qk_86 ql_86 ?_
  refine pn_iconst dX11_buysOff_43 rfl ic_0 ?_
  refine pn_istore_n (ls' := [.ref 85, .int a1, .int (σ 86 5), .int (0 : Int32)]) dX11_buysOff_44 rfl rfl (Nat.le_of_ble_eq_true rfl) rfl ?_
  exact pn_wk (pn_leC rfl (pn_leC rfl (pn_leN (pn_leC rfl pn_le0)))) (wX11_buysOff_45 Γ 5000 a1 (0 : Int32) (pn_up (pn_up σ 86 (Int32.toNatClampNeg x1) ((σ 86 (Int32.toNatClampNeg x1)) - x2)) 86 (Int32.toNatClampNeg x3) (0 : Int32)))

set_option maxRecDepth 20000 in
set_option maxHeartbeats 4000000 in
theorem wX11_buy_65 (Γ : pn_G)  (l1 : Int32) (l2 : Int32) (s1 : Int32) (σ : pn_S) : pn_W9 Γ 9 mX11_buy pn_i 65 [.ref 85, .int l1, .int l2] [.int s1, .ref 85] σ (fX11_buy_65 l1 l2 s1 σ) := by
  rw [fX11_buy_65]
  refine pn_iconst dX11_buy_65 rfl ic_1 ?_
  refine pn_ci (fun r9 h9 => pn_LKV dX11_buy_66 lm_X11_240 (ct_X11_throwsIf Γ s1 (1 : Int32) σ r9 h9) (by decide) qt_85 qk_85 rfl rfl (Nat.le_of_ble_eq_true rfl)) rfl (fun x8 σ8 => ?_)
  refine pn_if_eq (tgt := 74) dX11_buy_69 rfl rfl (fun c9 => ?_) (fun c9 => ?_)
  · refine pn_aload_n dX11_buy_74 rfl rfl rfl ?_
    refine pn_cv (fun r9 h9 => pn_LKV dX11_buy_75 lm_X11_302 (ct_X11_remembers Γ σ8 r9 h9) (by decide) qt_85 qk_85 rfl rfl (Nat.le_of_ble_eq_true rfl)) rfl (fun σ10 => ?_)
    refine pn_aload_n dX11_buy_78 rfl rfl rfl ?_
    refine pn_iload_n dX11_buy_79 rfl rfl rfl ?_
    refine pn_cv (fun r9 h9 => pn_LKV dX11_buy_80 lm_X11_311 (ct_X11_buysOff Γ l2 σ10 r9 h9) (by decide) qt_85 qk_85 rfl rfl (Nat.le_of_ble_eq_true rfl)) rfl (fun σ11 => ?_)
    refine pn_aload_n dX11_buy_83 rfl rfl rfl ?_
    refine pn_iload_n dX11_buy_84 rfl rfl rfl ?_
    refine pn_iconst dX11_buy_85 rfl ic_3 ?_
    refine pn_cp (fun r9 h9 => pn_LKV dX11_buy_86 lm_X11_67 (ct_X11_of Γ l1 (3 : Int32) σ11 r9 h9) (by decide) qt_85 qk_85 rfl rfl (Nat.le_of_ble_eq_true rfl)) rfl (fun x12 => ?_)
    exact pn_iretv dX11_buy_89 rfl rfl rfl
  · refine pn_iconst dX11_buy_72 rfl ic_0 ?_
    exact pn_iretv dX11_buy_73 rfl rfl rfl

set_option maxRecDepth 20000 in
set_option maxHeartbeats 4000000 in
theorem wX11_buy_23 (Γ : pn_G)  (l1 : Int32) (s1 : Int32) (σ : pn_S) : pn_W9 Γ 9 mX11_buy pn_i 23 [.ref 85, .int l1, .null] [.int s1, .ref 85] σ (fX11_buy_23 l1 s1 σ) := by
  rw [fX11_buy_23]
  refine pn_iconst dX11_buy_23 rfl ic_1 ?_
  refine pn_ci (fun r9 h9 => pn_LKV dX11_buy_24 lm_X11_240 (ct_X11_throwsIf Γ s1 (1 : Int32) σ r9 h9) (by decide) qt_85 qk_85 rfl rfl (Nat.le_of_ble_eq_true rfl)) rfl (fun x2 σ2 => ?_)
  refine pn_if_eq (tgt := 32) dX11_buy_27 rfl rfl (fun c3 => ?_) (fun c3 => ?_)
  · refine pn_aload_n dX11_buy_32 rfl rfl rfl ?_
    refine pn_iload_n dX11_buy_33 rfl rfl rfl ?_
    refine pn_ci (fun r9 h9 => pn_LKV dX11_buy_34 lm_X11_293 (ct_X11_crowdOf Γ l1 σ2 r9 h9) (by decide) qt_85 qk_85 rfl rfl (Nat.le_of_ble_eq_true rfl)) rfl (fun x4 σ4 => ?_)
    refine pn_istore_n (ls' := [.ref 85, .int l1, .int x4]) dX11_buy_37 rfl rfl (Nat.le_of_ble_eq_true rfl) rfl ?_
    refine pn_aload_n dX11_buy_38 rfl rfl rfl ?_
    refine pn_aload_n dX11_buy_39 rfl rfl rfl ?_
    refine pn_iload_n dX11_buy_40 rfl rfl rfl ?_
    refine pn_iconst dX11_buy_41 rfl ic_3 ?_
    refine pn_cp (fun r9 h9 => pn_LKV dX11_buy_42 lm_X11_67 (ct_X11_of Γ l1 (3 : Int32) σ4 r9 h9) (by decide) qt_85 qk_85 rfl rfl (Nat.le_of_ble_eq_true rfl)) rfl (fun x5 => ?_)
    refine pn_aload_n dX11_buy_45 rfl rfl rfl ?_
    refine pn_iload_n dX11_buy_46 rfl rfl rfl ?_
    refine pn_aload_n dX11_buy_47 rfl rfl rfl ?_
    refine pn_geta dX11_buy_48 rfl lf_X11_13_10 qt_85 qk_85 qr_85_1 qt_86 ?_
    refine pn_bipush dX11_buy_51 rfl bc_10 ?_
    refine pn_ialdc dX11_buy_53 rfl qt_86 qk_86 ql_86 (by decide) qn_10 ?_
    refine pn_cp (fun r9 h9 => pn_LKV dX11_buy_54 lm_X11_305 (ct_X11_priceBy Γ x4 (σ4 86 10) σ4 r9 h9) (by decide) qt_85 qk_85 rfl rfl (Nat.le_of_ble_eq_true rfl)) rfl (fun x6 => ?_)
    refine pn_icmp_ge (tgt := 64) dX11_buy_57 rfl rfl (fun c7 => ?_) (fun c7 => ?_)
    · refine pn_iconst dX11_buy_64 rfl ic_0 ?_
      exact wX11_buy_65 Γ l1 x4 (0 : Int32) σ4
    · refine pn_iconst dX11_buy_60 rfl ic_1 ?_
      refine pn_goto (pc' := 65) dX11_buy_61 rfl ?_
      exact wX11_buy_65 Γ l1 x4 (1 : Int32) σ4
  · refine pn_iconst dX11_buy_30 rfl ic_0 ?_
    exact pn_iretv dX11_buy_31 rfl rfl rfl

set_option maxRecDepth 20000 in
set_option maxHeartbeats 4000000 in
theorem ct_X11_buy (Γ : pn_G)  (σ : pn_S) : ∀ r, fX11_buy  σ = some r → pn_C Γ 9 mX11_buy [.ref 85] σ (pn_i r) := by
  refine pn_of (ls := [.ref 85, .null, .null]) (by decide) rfl (pn_cat rfl) rfl (Nat.le_of_ble_eq_true rfl) ?_
  rw [fX11_buy]
  refine pn_aload_n dX11_buy_0 rfl rfl rfl ?_
  refine pn_iconst dX11_buy_1 rfl ic_0 ?_
  refine pn_puti dX11_buy_2 rfl lf_X11_3_10 (fpi_10_0 (0 : Int32)) qt_85 qk_85 qr_85_0 ?_
  refine pn_aload_n dX11_buy_5 rfl rfl rfl ?_
  refine pn_geta dX11_buy_6 rfl lf_X11_13_10 qt_85 qk_85 qr_85_1 qt_86 ?_
  refine pn_iconst dX11_buy_9 rfl ic_5 ?_
  refine pn_ialdc dX11_buy_10 rfl qt_86 qk_86 ql_86 (by decide) qn_5 ?_
  refine pn_istore_n (ls' := [.ref 85, .int ((pn_up σ 85 0 (0 : Int32)) 86 5), .null]) dX11_buy_11 rfl rfl (Nat.le_of_ble_eq_true rfl) rfl ?_
  refine pn_aload_n dX11_buy_12 rfl rfl rfl ?_
  refine pn_iload_n dX11_buy_13 rfl rfl rfl ?_
  refine pn_iconst dX11_buy_14 rfl ic_m1 ?_
  refine pn_icmp_ne (tgt := 22) dX11_buy_15 rfl rfl (fun c1 => ?_) (fun c1 => ?_)
  · refine pn_iconst dX11_buy_18 rfl ic_1 ?_
    refine pn_goto (pc' := 23) dX11_buy_19 rfl ?_
    exact wX11_buy_23 Γ ((pn_up σ 85 0 (0 : Int32)) 86 5) (1 : Int32) (pn_up σ 85 0 (0 : Int32))
  · refine pn_iconst dX11_buy_22 rfl ic_0 ?_
    exact wX11_buy_23 Γ ((pn_up σ 85 0 (0 : Int32)) 86 5) (0 : Int32) (pn_up σ 85 0 (0 : Int32))

set_option maxRecDepth 20000 in
set_option maxHeartbeats 4000000 in
theorem wX11_feud_50 (Γ : pn_G)  (l1 : Int32) (l2 : Int32) (s1 : Int32) (σ : pn_S) : pn_W9 Γ 3 mX11_feud pn_i 50 [.ref 85, .int l1, .int l2, .null] [.int s1, .ref 85] σ (fX11_feud_50 l1 l2 s1 σ) := by
  rw [fX11_feud_50]
  refine pn_iconst dX11_feud_50 rfl ic_2 ?_
  refine pn_ci (fun r9 h9 => pn_LKV dX11_feud_51 lm_X11_240 (ct_X11_throwsIf Γ s1 (2 : Int32) σ r9 h9) (by decide) qt_85 qk_85 rfl rfl (Nat.le_of_ble_eq_true rfl)) rfl (fun x7 σ7 => ?_)
  refine pn_if_eq (tgt := 59) dX11_feud_54 rfl rfl (fun c8 => ?_) (fun c8 => ?_)
  · refine pn_aload_n dX11_feud_59 rfl rfl rfl ?_
    refine pn_cv (fun r9 h9 => pn_LKV dX11_feud_60 lm_X11_302 (ct_X11_remembers Γ σ7 r9 h9) (by decide) qt_85 qk_85 rfl rfl (Nat.le_of_ble_eq_true rfl)) rfl (fun σ9 => ?_)
    refine pn_aload_n dX11_feud_63 rfl rfl rfl ?_
    refine pn_iload_n dX11_feud_64 rfl rfl rfl ?_
    refine pn_iconst dX11_feud_65 rfl ic_5 ?_
    refine pn_cp (fun r9 h9 => pn_LKV dX11_feud_66 lm_X11_67 (ct_X11_of Γ l1 (5 : Int32) σ9 r9 h9) (by decide) qt_85 qk_85 rfl rfl (Nat.le_of_ble_eq_true rfl)) rfl (fun x10 => ?_)
    refine pn_istore_n (ls' := [.ref 85, .int l1, .int l2, .int x10]) dX11_feud_69 rfl rfl (Nat.le_of_ble_eq_true rfl) rfl ?_
    refine pn_aload_n dX11_feud_70 rfl rfl rfl ?_
    refine pn_geta dX11_feud_71 rfl lf_X11_13_10 qt_85 qk_85 qr_85_1 qt_86 ?_
    refine pn_iload_n dX11_feud_74 rfl rfl rfl ?_
    refine pn_iconst dX11_feud_75 rfl ic_5 ?_
    refine pn_cp (fun r9 h9 => pn_LKS dX11_feud_76 lm_X11_59 (ct_X11_at Γ l1 (5 : Int32) σ9 r9 h9) (by decide) rfl rfl (Nat.le_of_ble_eq_true rfl)) rfl (fun x11 => ?_)
    refine pn_iload_n dX11_feud_79 rfl rfl rfl ?_
    refine pn_iast dX11_feud_80 rfl qt_86 qk_86 ql_86 ?_
    refine pn_iload_n dX11_feud_81 rfl rfl rfl ?_
    exact pn_iretv dX11_feud_82 rfl rfl rfl
  · refine pn_iconst dX11_feud_57 rfl ic_0 ?_
    exact pn_iretv dX11_feud_58 rfl rfl rfl

set_option maxRecDepth 20000 in
set_option maxHeartbeats 4000000 in
theorem wX11_feud_32 (Γ : pn_G)  (l1 : Int32) (l2 : Int32) (s1 : Int32) (σ : pn_S) : pn_W9 Γ 3 mX11_feud pn_i 32 [.ref 85, .int l1, .int l2, .null] [.int s1, .ref 85] σ (fX11_feud_32 l1 l2 s1 σ) := by
  rw [fX11_feud_32]
  refine pn_iconst dX11_feud_32 rfl ic_1 ?_
  refine pn_ci (fun r9 h9 => pn_LKV dX11_feud_33 lm_X11_240 (ct_X11_throwsIf Γ s1 (1 : Int32) σ r9 h9) (by decide) qt_85 qk_85 rfl rfl (Nat.le_of_ble_eq_true rfl)) rfl (fun x4 σ4 => ?_)
  refine pn_if_ne (tgt := 57) dX11_feud_36 rfl rfl (fun c5 => ?_) (fun c5 => ?_)
  · refine pn_aload_n dX11_feud_39 rfl rfl rfl ?_
    refine pn_iload_n dX11_feud_40 rfl rfl rfl ?_
    refine pn_iload_n dX11_feud_41 rfl rfl rfl ?_
    refine pn_icmp_ne (tgt := 49) dX11_feud_42 rfl rfl (fun c6 => ?_) (fun c6 => ?_)
    · refine pn_iconst dX11_feud_45 rfl ic_1 ?_
      refine pn_goto (pc' := 50) dX11_feud_46 rfl ?_
      exact wX11_feud_50 Γ l1 l2 (1 : Int32) σ4
    · refine pn_iconst dX11_feud_49 rfl ic_0 ?_
      exact wX11_feud_50 Γ l1 l2 (0 : Int32) σ4
  · refine pn_iconst dX11_feud_57 rfl ic_0 ?_
    exact pn_iretv dX11_feud_58 rfl rfl rfl

set_option maxRecDepth 20000 in
set_option maxHeartbeats 4000000 in
theorem wX11_feud_31 (Γ : pn_G)  (l1 : Int32) (l2 : Int32) (σ : pn_S) : pn_W9 Γ 3 mX11_feud pn_i 31 [.ref 85, .int l1, .int l2, .null] [.ref 85] σ (fX11_feud_31 l1 l2 σ) := by
  rw [fX11_feud_31]
  refine pn_iconst dX11_feud_31 rfl ic_0 ?_
  exact wX11_feud_32 Γ l1 l2 (0 : Int32) σ

set_option maxRecDepth 20000 in
set_option maxHeartbeats 4000000 in
theorem wX11_feud_27 (Γ : pn_G)  (l1 : Int32) (l2 : Int32) (σ : pn_S) : pn_W9 Γ 3 mX11_feud pn_i 27 [.ref 85, .int l1, .int l2, .null] [.ref 85] σ (fX11_feud_27 l1 l2 σ) := by
  rw [fX11_feud_27]
  refine pn_iconst dX11_feud_27 rfl ic_1 ?_
  refine pn_goto (pc' := 32) dX11_feud_28 rfl ?_
  exact wX11_feud_32 Γ l1 l2 (1 : Int32) σ

set_option maxRecDepth 20000 in
set_option maxHeartbeats 4000000 in
theorem ct_X11_feud (Γ : pn_G) (a1 : Int32) (a2 : Int32) (σ : pn_S) : ∀ r, fX11_feud a1 a2 σ = some r → pn_C Γ 3 mX11_feud [.ref 85, .int a1, .int a2] σ (pn_i r) := by
  refine pn_of (ls := [.ref 85, .int a1, .int a2, .null]) (by decide) rfl (pn_cat rfl) rfl (Nat.le_of_ble_eq_true rfl) ?_
  rw [fX11_feud]
  refine pn_aload_n dX11_feud_0 rfl rfl rfl ?_
  refine pn_iconst dX11_feud_1 rfl ic_0 ?_
  refine pn_puti dX11_feud_2 rfl lf_X11_3_10 (fpi_10_0 (0 : Int32)) qt_85 qk_85 qr_85_0 ?_
  refine pn_aload_n dX11_feud_5 rfl rfl rfl ?_
  refine pn_aload_n dX11_feud_6 rfl rfl rfl ?_
  refine pn_iload_n dX11_feud_7 rfl rfl rfl ?_
  refine pn_cp (fun r9 h9 => pn_LKV dX11_feud_8 lm_X11_259 (ct_X11_nobody Γ a1 (pn_up σ 85 0 (0 : Int32)) r9 h9) (by decide) qt_85 qk_85 rfl rfl (Nat.le_of_ble_eq_true rfl)) rfl (fun x1 => ?_)
  refine pn_if_ne (tgt := 27) dX11_feud_11 rfl rfl (fun c2 => ?_) (fun c2 => ?_)
  · refine pn_iload_n dX11_feud_14 rfl rfl rfl ?_
    refine pn_iconst dX11_feud_15 rfl ic_m1 ?_
    refine pn_icmp_eq (tgt := 31) dX11_feud_16 rfl rfl (fun c3 => ?_) (fun c3 => ?_)
    · exact wX11_feud_31 Γ a1 a2 (pn_up σ 85 0 (0 : Int32))
    · refine pn_aload_n dX11_feud_19 rfl rfl rfl ?_
      refine pn_iload_n dX11_feud_20 rfl rfl rfl ?_
      refine pn_cp (fun r9 h9 => pn_LKV dX11_feud_21 lm_X11_259 (ct_X11_nobody Γ a2 (pn_up σ 85 0 (0 : Int32)) r9 h9) (by decide) qt_85 qk_85 rfl rfl (Nat.le_of_ble_eq_true rfl)) rfl (fun x12 => ?_)
      refine pn_if_eq (tgt := 31) dX11_feud_24 rfl rfl (fun c13 => ?_) (fun c13 => ?_)
      · exact wX11_feud_31 Γ a1 a2 (pn_up σ 85 0 (0 : Int32))
      · exact wX11_feud_27 Γ a1 a2 (pn_up σ 85 0 (0 : Int32))
  · exact wX11_feud_27 Γ a1 a2 (pn_up σ 85 0 (0 : Int32))

set_option maxRecDepth 20000 in
set_option maxHeartbeats 4000000 in
theorem wX11_tellsOf_34 (Γ : pn_G)  (l1 : Int32) (l2 : Int32) (l3 : Int32) (s1 : Int32) (σ : pn_S) : pn_W9 Γ 3 mX11_tellsOf pn_i 34 [.ref 85, .int l1, .int l2, .int l3, .null, .null] [.int s1, .ref 85] σ (fX11_tellsOf_34 l1 l2 l3 s1 σ) := by
  rw [fX11_tellsOf_34]
  refine pn_iconst dX11_tellsOf_34 rfl ic_2 ?_
  refine pn_ci (fun r9 h9 => pn_LKV dX11_tellsOf_35 lm_X11_240 (ct_X11_throwsIf Γ s1 (2 : Int32) σ r9 h9) (by decide) qt_85 qk_85 rfl rfl (Nat.le_of_ble_eq_true rfl)) rfl (fun x6 σ6 => ?_)
  refine pn_if_eq (tgt := 43) dX11_tellsOf_38 rfl rfl (fun c7 => ?_) (fun c7 => ?_)
  · refine pn_aload_n dX11_tellsOf_43 rfl rfl rfl ?_
    refine pn_cv (fun r9 h9 => pn_LKV dX11_tellsOf_44 lm_X11_302 (ct_X11_remembers Γ σ6 r9 h9) (by decide) qt_85 qk_85 rfl rfl (Nat.le_of_ble_eq_true rfl)) rfl (fun σ8 => ?_)
    refine pn_aload_n dX11_tellsOf_47 rfl rfl rfl ?_
    refine pn_iload_n dX11_tellsOf_48 rfl rfl rfl ?_
    refine pn_iload_n dX11_tellsOf_49 rfl rfl rfl ?_
    refine pn_cp (fun r9 h9 => pn_LKV dX11_tellsOf_50 lm_X11_67 (ct_X11_of Γ l1 l2 σ8 r9 h9) (by decide) qt_85 qk_85 rfl rfl (Nat.le_of_ble_eq_true rfl)) rfl (fun x9 => ?_)
    refine pn_istore (ls' := [.ref 85, .int l1, .int l2, .int l3, .null, .int x9]) dX11_tellsOf_53 rfl (Nat.le_of_ble_eq_true rfl) rfl ?_
    refine pn_aload_n dX11_tellsOf_55 rfl rfl rfl ?_
    refine pn_geta dX11_tellsOf_56 rfl lf_X11_13_10 qt_85 qk_85 qr_85_1 qt_86 ?_
    refine pn_iload_n dX11_tellsOf_59 rfl rfl rfl ?_
    refine pn_iload_n dX11_tellsOf_60 rfl rfl rfl ?_
    refine pn_cp (fun r9 h9 => pn_LKS dX11_tellsOf_61 lm_X11_59 (ct_X11_at Γ l1 l2 σ8 r9 h9) (by decide) rfl rfl (Nat.le_of_ble_eq_true rfl)) rfl (fun x10 => ?_)
    refine pn_iload_n dX11_tellsOf_64 rfl rfl rfl ?_
    refine pn_iast dX11_tellsOf_65 rfl qt_86 qk_86 ql_86 ?_
    refine pn_iload dX11_tellsOf_66 rfl rfl ?_
    exact pn_iretv dX11_tellsOf_68 rfl rfl rfl
  · refine pn_iconst dX11_tellsOf_41 rfl ic_0 ?_
    exact pn_iretv dX11_tellsOf_42 rfl rfl rfl

set_option maxRecDepth 20000 in
set_option maxHeartbeats 4000000 in
theorem ct_X11_tellsOf (Γ : pn_G) (a1 : Int32) (a2 : Int32) (a3 : Int32) (a4 : Int32) (σ : pn_S) : ∀ r, fX11_tellsOf a1 a2 a3 a4 σ = some r → pn_C Γ 3 mX11_tellsOf [.ref 85, .int a1, .int a2, .int a3, .int a4] σ (pn_i r) := by
  refine pn_of (ls := [.ref 85, .int a1, .int a2, .int a3, .int a4, .null]) (by decide) rfl (pn_cat rfl) rfl (Nat.le_of_ble_eq_true rfl) ?_
  rw [fX11_tellsOf]
  refine pn_aload_n dX11_tellsOf_0 rfl rfl rfl ?_
  refine pn_iconst dX11_tellsOf_1 rfl ic_0 ?_
  refine pn_puti dX11_tellsOf_2 rfl lf_X11_3_10 (fpi_10_0 (0 : Int32)) qt_85 qk_85 qr_85_0 ?_
  refine pn_aload_n dX11_tellsOf_5 rfl rfl rfl ?_
  refine pn_aload_n dX11_tellsOf_6 rfl rfl rfl ?_
  refine pn_iload_n dX11_tellsOf_7 rfl rfl rfl ?_
  refine pn_cp (fun r9 h9 => pn_LKV dX11_tellsOf_8 lm_X11_259 (ct_X11_nobody Γ a1 (pn_up σ 85 0 (0 : Int32)) r9 h9) (by decide) qt_85 qk_85 rfl rfl (Nat.le_of_ble_eq_true rfl)) rfl (fun x1 => ?_)
  refine pn_iconst dX11_tellsOf_11 rfl ic_1 ?_
  refine pn_ci (fun r9 h9 => pn_LKV dX11_tellsOf_12 lm_X11_240 (ct_X11_throwsIf Γ x1 (1 : Int32) (pn_up σ 85 0 (0 : Int32)) r9 h9) (by decide) qt_85 qk_85 rfl rfl (Nat.le_of_ble_eq_true rfl)) rfl (fun x2 σ2 => ?_)
  refine pn_if_ne (tgt := 41) dX11_tellsOf_15 rfl rfl (fun c3 => ?_) (fun c3 => ?_)
  · refine pn_aload_n dX11_tellsOf_18 rfl rfl rfl ?_
    refine pn_iload_n dX11_tellsOf_19 rfl rfl rfl ?_
    refine pn_iconst dX11_tellsOf_20 rfl ic_0 ?_
    refine pn_iload dX11_tellsOf_21 rfl rfl ?_
    refine pn_cp (fun r9 h9 => pn_LKS dX11_tellsOf_23 lm_X11_63 (ct_X11_in Γ a3 (0 : Int32) a4 σ2 r9 h9) (by decide) rfl rfl (Nat.le_of_ble_eq_true rfl)) rfl (fun x4 => ?_)
    refine pn_if_ne (tgt := 33) dX11_tellsOf_26 rfl rfl (fun c5 => ?_) (fun c5 => ?_)
    · refine pn_iconst dX11_tellsOf_29 rfl ic_1 ?_
      refine pn_goto (pc' := 34) dX11_tellsOf_30 rfl ?_
      exact pn_wk (pn_leC rfl (pn_leC rfl (pn_leC rfl (pn_leC rfl (pn_leN (pn_leN pn_le0)))))) (wX11_tellsOf_34 Γ a1 a2 a3 (1 : Int32) σ2)
    · refine pn_iconst dX11_tellsOf_33 rfl ic_0 ?_
      exact pn_wk (pn_leC rfl (pn_leC rfl (pn_leC rfl (pn_leC rfl (pn_leN (pn_leN pn_le0)))))) (wX11_tellsOf_34 Γ a1 a2 a3 (0 : Int32) σ2)
  · refine pn_iconst dX11_tellsOf_41 rfl ic_0 ?_
    exact pn_iretv dX11_tellsOf_42 rfl rfl rfl

set_option maxRecDepth 20000 in
set_option maxHeartbeats 4000000 in
theorem ct_X11_teach (Γ : pn_G) (a1 : Int32) (a2 : Int32) (σ : pn_S) : ∀ r, fX11_teach a1 a2 σ = some r → pn_C Γ 4 mX11_teach [.ref 85, .int a1, .int a2] σ (pn_i r) := by
  refine pn_of (ls := [.ref 85, .int a1, .int a2]) (by decide) rfl (pn_cat rfl) rfl (Nat.le_of_ble_eq_true rfl) ?_
  rw [fX11_teach]
  refine pn_aload_n dX11_teach_0 rfl rfl rfl ?_
  refine pn_iload_n dX11_teach_1 rfl rfl rfl ?_
  refine pn_iconst dX11_teach_2 rfl ic_0 ?_
  refine pn_iload_n dX11_teach_3 rfl rfl rfl ?_
  refine pn_bipush dX11_teach_4 rfl bc_8 ?_
  refine pn_ci (fun r9 h9 => pn_LKV dX11_teach_6 lm_X11_314 (ct_X11_tellsOf Γ a1 (0 : Int32) a2 (8 : Int32) σ r9 h9) (by decide) qt_85 qk_85 rfl rfl (Nat.le_of_ble_eq_true rfl)) rfl (fun x1 σ1 => ?_)
  exact pn_iretv dX11_teach_9 rfl rfl rfl

set_option maxRecDepth 20000 in
set_option maxHeartbeats 4000000 in
theorem ct_X11_wrong (Γ : pn_G) (a1 : Int32) (a2 : Int32) (σ : pn_S) : ∀ r, fX11_wrong a1 a2 σ = some r → pn_C Γ 4 mX11_wrong [.ref 85, .int a1, .int a2] σ (pn_i r) := by
  refine pn_of (ls := [.ref 85, .int a1, .int a2]) (by decide) rfl (pn_cat rfl) rfl (Nat.le_of_ble_eq_true rfl) ?_
  rw [fX11_wrong]
  refine pn_aload_n dX11_wrong_0 rfl rfl rfl ?_
  refine pn_iload_n dX11_wrong_1 rfl rfl rfl ?_
  refine pn_iconst dX11_wrong_2 rfl ic_4 ?_
  refine pn_iload_n dX11_wrong_3 rfl rfl rfl ?_
  refine pn_bipush dX11_wrong_4 rfl bc_9 ?_
  refine pn_ci (fun r9 h9 => pn_LKV dX11_wrong_6 lm_X11_314 (ct_X11_tellsOf Γ a1 (4 : Int32) a2 (9 : Int32) σ r9 h9) (by decide) qt_85 qk_85 rfl rfl (Nat.le_of_ble_eq_true rfl)) rfl (fun x1 σ1 => ?_)
  exact pn_iretv dX11_wrong_9 rfl rfl rfl

set_option maxRecDepth 20000 in
set_option maxHeartbeats 4000000 in
theorem wX11_give_35 (Γ : pn_G)  (l1 : Int32) (l2 : Int32) (s1 : Int32) (σ : pn_S) : pn_W9 Γ 3 mX11_give pn_i 35 [.ref 85, .int l1, .int l2] [.int s1, .ref 85] σ (fX11_give_35 l1 l2 s1 σ) := by
  rw [fX11_give_35]
  refine pn_iconst dX11_give_35 rfl ic_2 ?_
  refine pn_ci (fun r9 h9 => pn_LKV dX11_give_36 lm_X11_240 (ct_X11_throwsIf Γ s1 (2 : Int32) σ r9 h9) (by decide) qt_85 qk_85 rfl rfl (Nat.le_of_ble_eq_true rfl)) rfl (fun x6 σ6 => ?_)
  refine pn_if_eq (tgt := 44) dX11_give_39 rfl rfl (fun c7 => ?_) (fun c7 => ?_)
  · refine pn_aload_n dX11_give_44 rfl rfl rfl ?_
    refine pn_cv (fun r9 h9 => pn_LKV dX11_give_45 lm_X11_302 (ct_X11_remembers Γ σ6 r9 h9) (by decide) qt_85 qk_85 rfl rfl (Nat.le_of_ble_eq_true rfl)) rfl (fun σ8 => ?_)
    refine pn_aload_n dX11_give_48 rfl rfl rfl ?_
    refine pn_geta dX11_give_49 rfl lf_X11_13_10 qt_85 qk_85 qr_85_1 qt_86 ?_
    refine pn_iload_n dX11_give_52 rfl rfl rfl ?_
    refine pn_iconst dX11_give_53 rfl ic_3 ?_
    refine pn_cp (fun r9 h9 => pn_LKS dX11_give_54 lm_X11_59 (ct_X11_at Γ l1 (3 : Int32) σ8 r9 h9) (by decide) rfl rfl (Nat.le_of_ble_eq_true rfl)) rfl (fun x9 => ?_)
    refine pn_sipush dX11_give_57 rfl sc_9999 ?_
    refine pn_aload_n dX11_give_60 rfl rfl rfl ?_
    refine pn_iload_n dX11_give_61 rfl rfl rfl ?_
    refine pn_iconst dX11_give_62 rfl ic_3 ?_
    refine pn_cp (fun r9 h9 => pn_LKV dX11_give_63 lm_X11_67 (ct_X11_of Γ l1 (3 : Int32) σ8 r9 h9) (by decide) qt_85 qk_85 rfl rfl (Nat.le_of_ble_eq_true rfl)) rfl (fun x10 => ?_)
    refine pn_iload_n dX11_give_66 rfl rfl rfl ?_
    refine pn_iadd dX11_give_67 rfl ?_
    refine pn_cp (fun r9 h9 => pn_LKS dX11_give_68 lm_X11_317 (ct_J9_min_7cf53 Γ (9999 : Int32) (x10 + l2) σ8 r9 h9) (by decide) rfl rfl (Nat.le_of_ble_eq_true rfl)) rfl (fun x11 => ?_)
    refine pn_iast dX11_give_71 rfl qt_86 qk_86 ql_86 ?_
    refine pn_aload_n dX11_give_72 rfl rfl rfl ?_
    refine pn_iload_n dX11_give_73 rfl rfl rfl ?_
    refine pn_iconst dX11_give_74 rfl ic_3 ?_
    refine pn_cp (fun r9 h9 => pn_LKV dX11_give_75 lm_X11_67 (ct_X11_of Γ l1 (3 : Int32) (pn_up σ8 86 (Int32.toNatClampNeg x9) x11) r9 h9) (by decide) qt_85 qk_85 rfl rfl (Nat.le_of_ble_eq_true rfl)) rfl (fun x12 => ?_)
    exact pn_iretv dX11_give_78 rfl rfl rfl
  · refine pn_iconst dX11_give_42 rfl ic_0 ?_
    exact pn_iretv dX11_give_43 rfl rfl rfl

set_option maxRecDepth 20000 in
set_option maxHeartbeats 4000000 in
theorem ct_X11_give (Γ : pn_G) (a1 : Int32) (a2 : Int32) (σ : pn_S) : ∀ r, fX11_give a1 a2 σ = some r → pn_C Γ 3 mX11_give [.ref 85, .int a1, .int a2] σ (pn_i r) := by
  refine pn_of (ls := [.ref 85, .int a1, .int a2]) (by decide) rfl (pn_cat rfl) rfl (Nat.le_of_ble_eq_true rfl) ?_
  rw [fX11_give]
  refine pn_aload_n dX11_give_0 rfl rfl rfl ?_
  refine pn_iconst dX11_give_1 rfl ic_0 ?_
  refine pn_puti dX11_give_2 rfl lf_X11_3_10 (fpi_10_0 (0 : Int32)) qt_85 qk_85 qr_85_0 ?_
  refine pn_aload_n dX11_give_5 rfl rfl rfl ?_
  refine pn_aload_n dX11_give_6 rfl rfl rfl ?_
  refine pn_iload_n dX11_give_7 rfl rfl rfl ?_
  refine pn_cp (fun r9 h9 => pn_LKV dX11_give_8 lm_X11_259 (ct_X11_nobody Γ a1 (pn_up σ 85 0 (0 : Int32)) r9 h9) (by decide) qt_85 qk_85 rfl rfl (Nat.le_of_ble_eq_true rfl)) rfl (fun x1 => ?_)
  refine pn_iconst dX11_give_11 rfl ic_1 ?_
  refine pn_ci (fun r9 h9 => pn_LKV dX11_give_12 lm_X11_240 (ct_X11_throwsIf Γ x1 (1 : Int32) (pn_up σ 85 0 (0 : Int32)) r9 h9) (by decide) qt_85 qk_85 rfl rfl (Nat.le_of_ble_eq_true rfl)) rfl (fun x2 σ2 => ?_)
  refine pn_if_ne (tgt := 42) dX11_give_15 rfl rfl (fun c3 => ?_) (fun c3 => ?_)
  · refine pn_aload_n dX11_give_18 rfl rfl rfl ?_
    refine pn_iload_n dX11_give_19 rfl rfl rfl ?_
    refine pn_iconst dX11_give_20 rfl ic_1 ?_
    refine pn_sipush dX11_give_21 rfl sc_999 ?_
    refine pn_cp (fun r9 h9 => pn_LKS dX11_give_24 lm_X11_63 (ct_X11_in Γ a2 (1 : Int32) (999 : Int32) σ2 r9 h9) (by decide) rfl rfl (Nat.le_of_ble_eq_true rfl)) rfl (fun x4 => ?_)
    refine pn_if_ne (tgt := 34) dX11_give_27 rfl rfl (fun c5 => ?_) (fun c5 => ?_)
    · refine pn_iconst dX11_give_30 rfl ic_1 ?_
      refine pn_goto (pc' := 35) dX11_give_31 rfl ?_
      exact wX11_give_35 Γ a1 a2 (1 : Int32) σ2
    · refine pn_iconst dX11_give_34 rfl ic_0 ?_
      exact wX11_give_35 Γ a1 a2 (0 : Int32) σ2
  · refine pn_iconst dX11_give_42 rfl ic_0 ?_
    exact pn_iretv dX11_give_43 rfl rfl rfl

set_option maxRecDepth 20000 in
set_option maxHeartbeats 4000000 in
theorem wX11_tells_5 (Γ : pn_G)  : ∀ (n9 : Nat) (l1 : Int32) (l2 : Int32) (l3 : Int32) (l4 : Int32) (σ : pn_S), pn_W9 Γ 2 mX11_tells pn_v 5 [.ref 85, .int l1, .int l2, .int l3, .int l4] [] σ (fX11_tells_5 n9 l1 l2 l3 l4 σ) := by
  intro n9
  induction n9 with
  | zero => intro l1 l2 l3 l4 σ; exact pn_none
  | succ n9 ih =>
    intro l1 l2 l3 l4 σ
    rw [fX11_tells_5]
    refine pn_iload dX11_tells_5 rfl rfl ?_
    refine pn_iconst dX11_tells_7 rfl ic_4 ?_
    refine pn_icmp_lt (tgt := 39) dX11_tells_8 rfl rfl (fun c1 => ?_) (fun c1 => ?_)
    · refine pn_aload_n dX11_tells_39 rfl rfl rfl ?_
      refine pn_geta dX11_tells_40 rfl lf_X11_13_10 qt_85 qk_85 qr_85_1 qt_86 ?_
      refine pn_bipush dX11_tells_43 rfl bc_77 ?_
      refine pn_aload_n dX11_tells_45 rfl rfl rfl ?_
      refine pn_geta dX11_tells_46 rfl lf_X11_13_10 qt_85 qk_85 qr_85_1 qt_86 ?_
      refine pn_iconst dX11_tells_49 rfl ic_3 ?_
      refine pn_ialdc dX11_tells_50 rfl qt_86 qk_86 ql_86 (by decide) qn_3 ?_
      refine pn_iastc dX11_tells_51 rfl qt_86 qk_86 ql_86 (by decide) qn_77 ?_
      refine pn_aload_n dX11_tells_52 rfl rfl rfl ?_
      refine pn_geta dX11_tells_53 rfl lf_X11_13_10 qt_85 qk_85 qr_85_1 qt_86 ?_
      refine pn_bipush dX11_tells_56 rfl bc_78 ?_
      refine pn_iload_n dX11_tells_58 rfl rfl rfl ?_
      refine pn_iastc dX11_tells_59 rfl qt_86 qk_86 ql_86 (by decide) qn_78 ?_
      refine pn_aload_n dX11_tells_60 rfl rfl rfl ?_
      refine pn_geta dX11_tells_61 rfl lf_X11_13_10 qt_85 qk_85 qr_85_1 qt_86 ?_
      refine pn_bipush dX11_tells_64 rfl bc_79 ?_
      refine pn_iload_n dX11_tells_66 rfl rfl rfl ?_
      refine pn_iastc dX11_tells_67 rfl qt_86 qk_86 ql_86 (by decide) qn_79 ?_
      refine pn_aload_n dX11_tells_68 rfl rfl rfl ?_
      refine pn_geta dX11_tells_69 rfl lf_X11_13_10 qt_85 qk_85 qr_85_1 qt_86 ?_
      refine pn_bipush dX11_tells_72 rfl bc_80 ?_
      refine pn_iload_n dX11_tells_74 rfl rfl rfl ?_
      refine pn_iastc dX11_tells_75 rfl qt_86 qk_86 ql_86 (by decide) qn_80 ?_
      refine pn_aload_n dX11_tells_76 rfl rfl rfl ?_
      refine pn_geta dX11_tells_77 rfl lf_X11_13_10 qt_85 qk_85 qr_85_1 qt_86 ?_
      refine pn_bipush dX11_tells_80 rfl bc_11 ?_
      refine pn_bipush dX11_tells_82 rfl bc_60 ?_
      refine pn_aload_n dX11_tells_84 rfl rfl rfl ?_
      refine pn_geta dX11_tells_85 rfl lf_X11_13_10 qt_85 qk_85 qr_85_1 qt_86 ?_
      refine pn_bipush dX11_tells_88 rfl bc_11 ?_
      refine pn_ialdc dX11_tells_90 rfl qt_86 qk_86 ql_86 (by decide) qn_11 ?_
      refine pn_iconst dX11_tells_91 rfl ic_1 ?_
      refine pn_iadd dX11_tells_92 rfl ?_
      refine pn_cp (fun r9 h9 => pn_LKS dX11_tells_93 lm_X11_317 (ct_J9_min_7cf53 Γ (60 : Int32) (((pn_up (pn_up (pn_up (pn_up σ 86 77 (σ 86 3)) 86 78 l1) 86 79 l2) 86 80 l3) 86 11) + (1 : Int32)) (pn_up (pn_up (pn_up (pn_up σ 86 77 (σ 86 3)) 86 78 l1) 86 79 l2) 86 80 l3) r9 h9) (by decide) rfl rfl (Nat.le_of_ble_eq_true rfl)) rfl (fun x2 => ?_)
      refine pn_iastc dX11_tells_96 rfl qt_86 qk_86 ql_86 (by decide) qn_11 ?_
      exact pn_vretv dX11_tells_97 rfl rfl
    · refine pn_aload_n dX11_tells_11 rfl rfl rfl ?_
      refine pn_geta dX11_tells_12 rfl lf_X11_13_10 qt_85 qk_85 qr_85_1 qt_86 ?_
      refine pn_bipush dX11_tells_15 rfl bc_77 ?_
      refine pn_iload dX11_tells_17 rfl rfl ?_
      refine pn_iadd dX11_tells_19 rfl ?_
      refine pn_aload_n dX11_tells_20 rfl rfl rfl ?_
      refine pn_geta dX11_tells_21 rfl lf_X11_13_10 qt_85 qk_85 qr_85_1 qt_86 ?_
      refine pn_bipush dX11_tells_24 rfl bc_77 ?_
      refine pn_iload dX11_tells_26 rfl rfl ?_
      refine pn_iadd dX11_tells_28 rfl ?_
      refine pn_iconst dX11_tells_29 rfl ic_4 ?_
      refine pn_isub dX11_tells_30 rfl ?_
      refine pn_iald dX11_tells_31 rfl qt_86 qk_86 ql_86 ?_
      refine pn_iast dX11_tells_32 rfl qt_86 qk_86 ql_86 ?_
      refine pn_iinc (ls' := [.ref 85, .int l1, .int l2, .int l3, .int (l4 + (-1 : Int32))]) dX11_tells_33 rfl (Nat.le_of_ble_eq_true rfl) rfl (congrArg (fun z => l4 + z) ic_m1) rfl ?_
      refine pn_goto (pc' := 5) dX11_tells_36 rfl ?_
      exact ih l1 l2 l3 (l4 + (-1 : Int32)) (pn_up σ 86 (Int32.toNatClampNeg ((77 : Int32) + l4)) (σ 86 (Int32.toNatClampNeg (((77 : Int32) + l4) - (4 : Int32)))))

set_option maxRecDepth 20000 in
set_option maxHeartbeats 4000000 in
theorem ct_X11_tells (Γ : pn_G) (a1 : Int32) (a2 : Int32) (a3 : Int32) (σ : pn_S) : ∀ r, fX11_tells a1 a2 a3 σ = some r → pn_C Γ 2 mX11_tells [.ref 85, .int a1, .int a2, .int a3] σ (pn_v r) := by
  refine pn_of (ls := [.ref 85, .int a1, .int a2, .int a3, .null]) (by decide) rfl (pn_cat rfl) rfl (Nat.le_of_ble_eq_true rfl) ?_
  rw [fX11_tells]
  refine pn_sipush dX11_tells_0 rfl sc_239 ?_
  refine pn_istore (ls' := [.ref 85, .int a1, .int a2, .int a3, .int (239 : Int32)]) dX11_tells_3 rfl (Nat.le_of_ble_eq_true rfl) rfl ?_
  exact wX11_tells_5 Γ 5000 a1 a2 a3 (239 : Int32) σ

set_option maxRecDepth 20000 in
set_option maxHeartbeats 4000000 in
theorem wX11_fines_2 (Γ : pn_G)  : ∀ (n9 : Nat) (l1 : Int32) (l2 : Int32) (σ : pn_S), pn_W9 Γ 3 mX11_fines pn_v 2 [.ref 85, .int l1, .int l2] [] σ (fX11_fines_2 n9 l1 l2 σ) := by
  intro n9
  induction n9 with
  | zero => intro l1 l2 σ; exact pn_none
  | succ n9 ih =>
    intro l1 l2 σ
    rw [fX11_fines_2]
    refine pn_iload_n dX11_fines_2 rfl rfl rfl ?_
    refine pn_aload_n dX11_fines_3 rfl rfl rfl ?_
    refine pn_cp (fun r9 h9 => pn_LKV dX11_fines_4 lm_X11_55 (ct_X11_people Γ σ r9 h9) (by decide) qt_85 qk_85 rfl rfl (Nat.le_of_ble_eq_true rfl)) rfl (fun x1 => ?_)
    refine pn_icmp_ge (tgt := 53) dX11_fines_7 rfl rfl (fun c2 => ?_) (fun c2 => ?_)
    · exact pn_vretv dX11_fines_53 rfl rfl
    · refine pn_iload_n dX11_fines_10 rfl rfl rfl ?_
      refine pn_iload_n dX11_fines_11 rfl rfl rfl ?_
      refine pn_cp (fun r9 h9 => pn_LKS dX11_fines_12 lm_X11_274 (ct_X11_has Γ l1 l2 σ r9 h9) (by decide) rfl rfl (Nat.le_of_ble_eq_true rfl)) rfl (fun x3 => ?_)
      refine pn_if_eq (tgt := 47) dX11_fines_15 rfl rfl (fun c4 => ?_) (fun c4 => ?_)
      · refine pn_iinc (ls' := [.ref 85, .int l1, .int (l2 + (1 : Int32))]) dX11_fines_47 rfl (Nat.le_of_ble_eq_true rfl) rfl (congrArg (fun z => l2 + z) ic_1) rfl ?_
        refine pn_goto (pc' := 2) dX11_fines_50 rfl ?_
        exact ih l1 (l2 + (1 : Int32)) σ
      · refine pn_aload_n dX11_fines_18 rfl rfl rfl ?_
        refine pn_geta dX11_fines_19 rfl lf_X11_13_10 qt_85 qk_85 qr_85_1 qt_86 ?_
        refine pn_iload_n dX11_fines_22 rfl rfl rfl ?_
        refine pn_iconst dX11_fines_23 rfl ic_3 ?_
        refine pn_cp (fun r9 h9 => pn_LKS dX11_fines_24 lm_X11_59 (ct_X11_at Γ l2 (3 : Int32) σ r9 h9) (by decide) rfl rfl (Nat.le_of_ble_eq_true rfl)) rfl (fun x5 => ?_)
        refine pn_dup2 dX11_fines_27 rfl ?_
        refine pn_iald dX11_fines_28 rfl qt_86 qk_86 ql_86 ?_
        refine pn_aload_n dX11_fines_29 rfl rfl rfl ?_
        refine pn_iload_n dX11_fines_30 rfl rfl rfl ?_
        refine pn_iconst dX11_fines_31 rfl ic_3 ?_
        refine pn_cp (fun r9 h9 => pn_LKV dX11_fines_32 lm_X11_67 (ct_X11_of Γ l2 (3 : Int32) σ r9 h9) (by decide) qt_85 qk_85 rfl rfl (Nat.le_of_ble_eq_true rfl)) rfl (fun x6 => ?_)
        refine pn_aload_n dX11_fines_35 rfl rfl rfl ?_
        refine pn_geta dX11_fines_36 rfl lf_X11_13_10 qt_85 qk_85 qr_85_1 qt_86 ?_
        refine pn_bipush dX11_fines_39 rfl bc_9 ?_
        refine pn_ialdc dX11_fines_41 rfl qt_86 qk_86 ql_86 (by decide) qn_9 ?_
        refine pn_cp (fun r9 h9 => pn_LKS dX11_fines_42 lm_X11_317 (ct_J9_min_7cf53 Γ x6 (σ 86 9) σ r9 h9) (by decide) rfl rfl (Nat.le_of_ble_eq_true rfl)) rfl (fun x7 => ?_)
        refine pn_isub dX11_fines_45 rfl ?_
        refine pn_iast dX11_fines_46 rfl qt_86 qk_86 ql_86 ?_
        refine pn_iinc (ls' := [.ref 85, .int l1, .int (l2 + (1 : Int32))]) dX11_fines_47 rfl (Nat.le_of_ble_eq_true rfl) rfl (congrArg (fun z => l2 + z) ic_1) rfl ?_
        refine pn_goto (pc' := 2) dX11_fines_50 rfl ?_
        exact ih l1 (l2 + (1 : Int32)) (pn_up σ 86 (Int32.toNatClampNeg x5) ((σ 86 (Int32.toNatClampNeg x5)) - x7))

set_option maxRecDepth 20000 in
set_option maxHeartbeats 4000000 in
theorem ct_X11_fines (Γ : pn_G) (a1 : Int32) (σ : pn_S) : ∀ r, fX11_fines a1 σ = some r → pn_C Γ 3 mX11_fines [.ref 85, .int a1] σ (pn_v r) := by
  refine pn_of (ls := [.ref 85, .int a1, .null]) (by decide) rfl (pn_cat rfl) rfl (Nat.le_of_ble_eq_true rfl) ?_
  rw [fX11_fines]
  refine pn_iconst dX11_fines_0 rfl ic_0 ?_
  refine pn_istore_n (ls' := [.ref 85, .int a1, .int (0 : Int32)]) dX11_fines_1 rfl rfl (Nat.le_of_ble_eq_true rfl) rfl ?_
  exact wX11_fines_2 Γ 5000 a1 (0 : Int32) σ

set_option maxRecDepth 20000 in
set_option maxHeartbeats 4000000 in
theorem ct_X11_paysOff (Γ : pn_G) (a1 : Int32) (a2 : Int32) (σ : pn_S) : ∀ r, fX11_paysOff a1 a2 σ = some r → pn_C Γ 8 mX11_paysOff [.ref 85, .int a1, .int a2] σ (pn_i r) := by
  refine pn_of (ls := [.ref 85, .int a1, .int a2]) (by decide) rfl (pn_cat rfl) rfl (Nat.le_of_ble_eq_true rfl) ?_
  rw [fX11_paysOff]
  refine pn_aload_n dX11_paysOff_0 rfl rfl rfl ?_
  refine pn_iload_n dX11_paysOff_1 rfl rfl rfl ?_
  refine pn_iload_n dX11_paysOff_2 rfl rfl rfl ?_
  refine pn_ci (fun r9 h9 => pn_LKV dX11_paysOff_3 lm_X11_296 (ct_X11_noiseOf Γ a2 a1 σ r9 h9) (by decide) qt_85 qk_85 rfl rfl (Nat.le_of_ble_eq_true rfl)) rfl (fun x1 σ1 => ?_)
  refine pn_aload_n dX11_paysOff_6 rfl rfl rfl ?_
  refine pn_iload_n dX11_paysOff_7 rfl rfl rfl ?_
  refine pn_iconst dX11_paysOff_8 rfl ic_2 ?_
  refine pn_cp (fun r9 h9 => pn_LKV dX11_paysOff_9 lm_X11_67 (ct_X11_of Γ a1 (2 : Int32) σ1 r9 h9) (by decide) qt_85 qk_85 rfl rfl (Nat.le_of_ble_eq_true rfl)) rfl (fun x2 => ?_)
  refine pn_icmp_lt (tgt := 40) dX11_paysOff_12 rfl rfl (fun c3 => ?_) (fun c3 => ?_)
  · refine pn_iconst dX11_paysOff_40 rfl ic_0 ?_
    exact pn_iretv dX11_paysOff_41 rfl rfl rfl
  · refine pn_aload_n dX11_paysOff_15 rfl rfl rfl ?_
    refine pn_iload_n dX11_paysOff_16 rfl rfl rfl ?_
    refine pn_iconst dX11_paysOff_17 rfl ic_3 ?_
    refine pn_cp (fun r9 h9 => pn_LKV dX11_paysOff_18 lm_X11_67 (ct_X11_of Γ a1 (3 : Int32) σ1 r9 h9) (by decide) qt_85 qk_85 rfl rfl (Nat.le_of_ble_eq_true rfl)) rfl (fun x4 => ?_)
    refine pn_aload_n dX11_paysOff_21 rfl rfl rfl ?_
    refine pn_iload_n dX11_paysOff_22 rfl rfl rfl ?_
    refine pn_aload_n dX11_paysOff_23 rfl rfl rfl ?_
    refine pn_geta dX11_paysOff_24 rfl lf_X11_13_10 qt_85 qk_85 qr_85_1 qt_86 ?_
    refine pn_bipush dX11_paysOff_27 rfl bc_10 ?_
    refine pn_ialdc dX11_paysOff_29 rfl qt_86 qk_86 ql_86 (by decide) qn_10 ?_
    refine pn_cp (fun r9 h9 => pn_LKV dX11_paysOff_30 lm_X11_305 (ct_X11_priceBy Γ a2 (σ1 86 10) σ1 r9 h9) (by decide) qt_85 qk_85 rfl rfl (Nat.le_of_ble_eq_true rfl)) rfl (fun x5 => ?_)
    refine pn_icmp_lt (tgt := 40) dX11_paysOff_33 rfl rfl (fun c6 => ?_) (fun c6 => ?_)
    · refine pn_iconst dX11_paysOff_40 rfl ic_0 ?_
      exact pn_iretv dX11_paysOff_41 rfl rfl rfl
    · refine pn_iconst dX11_paysOff_36 rfl ic_1 ?_
      refine pn_goto (pc' := 41) dX11_paysOff_37 rfl ?_
      exact pn_iretv dX11_paysOff_41 rfl rfl rfl

set_option maxRecDepth 20000 in
set_option maxHeartbeats 4000000 in
theorem wX11_leadsTo_40 (Γ : pn_G)  (l1 : Int32) (l3 : Int32) (σ : pn_S) : pn_W9 Γ 9 mX11_leadsTo pn_i 40 [.ref 85, .int l1, .null, .int l3] [] σ (fX11_leadsTo_40 l1 l3 σ) := by
  rw [fX11_leadsTo_40]
  refine pn_aload_n dX11_leadsTo_40 rfl rfl rfl ?_
  refine pn_iload_n dX11_leadsTo_41 rfl rfl rfl ?_
  refine pn_iload_n dX11_leadsTo_42 rfl rfl rfl ?_
  refine pn_ci (fun r9 h9 => pn_LKV dX11_leadsTo_43 lm_X11_326 (ct_X11_paysOff Γ l3 l1 σ r9 h9) (by decide) qt_85 qk_85 rfl rfl (Nat.le_of_ble_eq_true rfl)) rfl (fun x5 σ5 => ?_)
  refine pn_if_eq (tgt := 56) dX11_leadsTo_46 rfl rfl (fun c6 => ?_) (fun c6 => ?_)
  · refine pn_aload_n dX11_leadsTo_56 rfl rfl rfl ?_
    refine pn_geta dX11_leadsTo_57 rfl lf_X11_13_10 qt_85 qk_85 qr_85_1 qt_86 ?_
    refine pn_iload_n dX11_leadsTo_60 rfl rfl rfl ?_
    refine pn_iconst dX11_leadsTo_61 rfl ic_2 ?_
    refine pn_cp (fun r9 h9 => pn_LKS dX11_leadsTo_62 lm_X11_59 (ct_X11_at Γ l3 (2 : Int32) σ5 r9 h9) (by decide) rfl rfl (Nat.le_of_ble_eq_true rfl)) rfl (fun x7 => ?_)
    refine pn_iconst dX11_leadsTo_65 rfl ic_0 ?_
    refine pn_aload_n dX11_leadsTo_66 rfl rfl rfl ?_
    refine pn_iload_n dX11_leadsTo_67 rfl rfl rfl ?_
    refine pn_iconst dX11_leadsTo_68 rfl ic_2 ?_
    refine pn_cp (fun r9 h9 => pn_LKV dX11_leadsTo_69 lm_X11_67 (ct_X11_of Γ l3 (2 : Int32) σ5 r9 h9) (by decide) qt_85 qk_85 rfl rfl (Nat.le_of_ble_eq_true rfl)) rfl (fun x8 => ?_)
    refine pn_aload_n dX11_leadsTo_72 rfl rfl rfl ?_
    refine pn_iload_n dX11_leadsTo_73 rfl rfl rfl ?_
    refine pn_iload_n dX11_leadsTo_74 rfl rfl rfl ?_
    refine pn_ci (fun r9 h9 => pn_LKV dX11_leadsTo_75 lm_X11_296 (ct_X11_noiseOf Γ l1 l3 σ5 r9 h9) (by decide) qt_85 qk_85 rfl rfl (Nat.le_of_ble_eq_true rfl)) rfl (fun x9 σ9 => ?_)
    refine pn_iconst dX11_leadsTo_78 rfl ic_4 ?_
    refine pn_idivc dX11_leadsTo_79 rfl (by decide) ?_
    refine pn_isub dX11_leadsTo_80 rfl ?_
    refine pn_cp (fun r9 h9 => pn_LKS dX11_leadsTo_81 lm_X11_254 (ct_J9_max_7cf53 Γ (0 : Int32) (x8 - (x9 / (4 : Int32))) σ9 r9 h9) (by decide) rfl rfl (Nat.le_of_ble_eq_true rfl)) rfl (fun x10 => ?_)
    refine pn_iast dX11_leadsTo_84 rfl qt_86 qk_86 ql_86 ?_
    refine pn_iconst dX11_leadsTo_85 rfl ic_3 ?_
    exact pn_iretv dX11_leadsTo_86 rfl rfl rfl
  · refine pn_aload_n dX11_leadsTo_49 rfl rfl rfl ?_
    refine pn_iload_n dX11_leadsTo_50 rfl rfl rfl ?_
    refine pn_cv (fun r9 h9 => pn_LKV dX11_leadsTo_51 lm_X11_311 (ct_X11_buysOff Γ l1 σ5 r9 h9) (by decide) qt_85 qk_85 rfl rfl (Nat.le_of_ble_eq_true rfl)) rfl (fun σ11 => ?_)
    refine pn_iconst dX11_leadsTo_54 rfl ic_2 ?_
    exact pn_iretv dX11_leadsTo_55 rfl rfl rfl

set_option maxRecDepth 20000 in
set_option maxHeartbeats 4000000 in
theorem ct_X11_leadsTo (Γ : pn_G) (a1 : Int32) (a2 : Int32) (σ : pn_S) : ∀ r, fX11_leadsTo a1 a2 σ = some r → pn_C Γ 9 mX11_leadsTo [.ref 85, .int a1, .int a2] σ (pn_i r) := by
  refine pn_of (ls := [.ref 85, .int a1, .int a2, .null]) (by decide) rfl (pn_cat rfl) rfl (Nat.le_of_ble_eq_true rfl) ?_
  rw [fX11_leadsTo]
  refine pn_aload_n dX11_leadsTo_0 rfl rfl rfl ?_
  refine pn_geta dX11_leadsTo_1 rfl lf_X11_13_10 qt_85 qk_85 qr_85_1 qt_86 ?_
  refine pn_iconst dX11_leadsTo_4 rfl ic_5 ?_
  refine pn_ialdc dX11_leadsTo_5 rfl qt_86 qk_86 ql_86 (by decide) qn_5 ?_
  refine pn_istore_n (ls' := [.ref 85, .int a1, .int a2, .int (σ 86 5)]) dX11_leadsTo_6 rfl rfl (Nat.le_of_ble_eq_true rfl) rfl ?_
  refine pn_iload_n dX11_leadsTo_7 rfl rfl rfl ?_
  refine pn_if_ne (tgt := 13) dX11_leadsTo_8 rfl rfl (fun c1 => ?_) (fun c1 => ?_)
  · refine pn_iconst dX11_leadsTo_11 rfl ic_0 ?_
    exact pn_iretv dX11_leadsTo_12 rfl rfl rfl
  · refine pn_iload_n dX11_leadsTo_13 rfl rfl rfl ?_
    refine pn_if_ne (tgt := 40) dX11_leadsTo_14 rfl rfl (fun c2 => ?_) (fun c2 => ?_)
    · refine pn_aload_n dX11_leadsTo_17 rfl rfl rfl ?_
      refine pn_bipush dX11_leadsTo_18 rfl bc_100 ?_
      refine pn_ci (fun r9 h9 => pn_LKV dX11_leadsTo_20 lm_X11_320 (ct_X11_drawn Γ (100 : Int32) σ r9 h9) (by decide) qt_85 qk_85 rfl rfl (Nat.le_of_ble_eq_true rfl)) rfl (fun x3 σ3 => ?_)
      refine pn_aload_n dX11_leadsTo_23 rfl rfl rfl ?_
      refine pn_geta dX11_leadsTo_24 rfl lf_X11_13_10 qt_85 qk_85 qr_85_1 qt_86 ?_
      refine pn_bipush dX11_leadsTo_27 rfl bc_8 ?_
      refine pn_ialdc dX11_leadsTo_29 rfl qt_86 qk_86 ql_86 (by decide) qn_8 ?_
      refine pn_icmp_ge (tgt := 40) dX11_leadsTo_30 rfl rfl (fun c4 => ?_) (fun c4 => ?_)
      · exact pn_wk (pn_leC rfl (pn_leC rfl (pn_leN (pn_leC rfl pn_le0)))) (wX11_leadsTo_40 Γ a1 (σ 86 5) σ3)
      · refine pn_aload_n dX11_leadsTo_33 rfl rfl rfl ?_
        refine pn_iload_n dX11_leadsTo_34 rfl rfl rfl ?_
        refine pn_cv (fun r9 h9 => pn_LKV dX11_leadsTo_35 lm_X11_323 (ct_X11_fines Γ a1 σ3 r9 h9) (by decide) qt_85 qk_85 rfl rfl (Nat.le_of_ble_eq_true rfl)) rfl (fun σ12 => ?_)
        refine pn_iconst dX11_leadsTo_38 rfl ic_1 ?_
        exact pn_iretv dX11_leadsTo_39 rfl rfl rfl
    · exact pn_wk (pn_leC rfl (pn_leC rfl (pn_leN (pn_leC rfl pn_le0)))) (wX11_leadsTo_40 Γ a1 (σ 86 5) σ)

set_option maxRecDepth 20000 in
set_option maxHeartbeats 4000000 in
theorem ct_X11_bears (Γ : pn_G)  (σ : pn_S) : ∀ r, fX11_bears  σ = some r → pn_C Γ 2 mX11_bears [.ref 85] σ (pn_v r) := by
  refine pn_of (ls := [.ref 85]) (by decide) rfl (pn_cat rfl) rfl (Nat.le_of_ble_eq_true rfl) ?_
  rw [fX11_bears]
  refine pn_aload_n dX11_bears_0 rfl rfl rfl ?_
  refine pn_geta dX11_bears_1 rfl lf_X11_13_10 qt_85 qk_85 qr_85_1 qt_86 ?_
  refine pn_bipush dX11_bears_4 rfl bc_6 ?_
  refine pn_dup2 dX11_bears_6 rfl ?_
  refine pn_ialdc dX11_bears_7 rfl qt_86 qk_86 ql_86 (by decide) qn_6 ?_
  refine pn_iconst dX11_bears_8 rfl ic_1 ?_
  refine pn_iadd dX11_bears_9 rfl ?_
  refine pn_iastc dX11_bears_10 rfl qt_86 qk_86 ql_86 (by decide) qn_6 ?_
  refine pn_aload_n dX11_bears_11 rfl rfl rfl ?_
  refine pn_geta dX11_bears_12 rfl lf_X11_13_10 qt_85 qk_85 qr_85_1 qt_86 ?_
  refine pn_bipush dX11_bears_15 rfl bc_6 ?_
  refine pn_ialdc dX11_bears_17 rfl qt_86 qk_86 ql_86 (by decide) qn_6 ?_
  refine pn_iconst dX11_bears_18 rfl ic_3 ?_
  refine pn_icmp_ge (tgt := 23) dX11_bears_19 rfl rfl (fun c1 => ?_) (fun c1 => ?_)
  · refine pn_aload_n dX11_bears_23 rfl rfl rfl ?_
    refine pn_geta dX11_bears_24 rfl lf_X11_13_10 qt_85 qk_85 qr_85_1 qt_86 ?_
    refine pn_aload_n dX11_bears_27 rfl rfl rfl ?_
    refine pn_geta dX11_bears_28 rfl lf_X11_13_10 qt_85 qk_85 qr_85_1 qt_86 ?_
    refine pn_iconst dX11_bears_31 rfl ic_5 ?_
    refine pn_ialdc dX11_bears_32 rfl qt_86 qk_86 ql_86 (by decide) qn_5 ?_
    refine pn_iconst dX11_bears_33 rfl ic_4 ?_
    refine pn_cp (fun r9 h9 => pn_LKS dX11_bears_34 lm_X11_59 (ct_X11_at Γ ((pn_up σ 86 6 ((σ 86 6) + (1 : Int32))) 86 5) (4 : Int32) (pn_up σ 86 6 ((σ 86 6) + (1 : Int32))) r9 h9) (by decide) rfl rfl (Nat.le_of_ble_eq_true rfl)) rfl (fun x2 => ?_)
    refine pn_iconst dX11_bears_37 rfl ic_0 ?_
    refine pn_iast dX11_bears_38 rfl qt_86 qk_86 ql_86 ?_
    refine pn_aload_n dX11_bears_39 rfl rfl rfl ?_
    refine pn_cv (fun r9 h9 => pn_LKV dX11_bears_40 lm_X11_308 (ct_X11_noTarget Γ (pn_up (pn_up σ 86 6 ((σ 86 6) + (1 : Int32))) 86 (Int32.toNatClampNeg x2) (0 : Int32)) r9 h9) (by decide) qt_85 qk_85 rfl rfl (Nat.le_of_ble_eq_true rfl)) rfl (fun σ3 => ?_)
    exact pn_vretv dX11_bears_43 rfl rfl
  · exact pn_vretv dX11_bears_22 rfl rfl

set_option maxRecDepth 20000 in
set_option maxHeartbeats 4000000 in
theorem wX11_oneNight_87 (Γ : pn_G)  (l3 : Int32) (σ : pn_S) : pn_W9 Γ 10 mX11_oneNight pn_i 87 [.ref 85, .null, .null, .int l3, .null] [] σ (fX11_oneNight_87 l3 σ) := by
  rw [fX11_oneNight_87]
  refine pn_aload_n dX11_oneNight_87 rfl rfl rfl ?_
  refine pn_geta dX11_oneNight_88 rfl lf_X11_13_10 qt_85 qk_85 qr_85_1 qt_86 ?_
  refine pn_iconst dX11_oneNight_91 rfl ic_3 ?_
  refine pn_sipush dX11_oneNight_92 rfl sc_9999 ?_
  refine pn_aload_n dX11_oneNight_95 rfl rfl rfl ?_
  refine pn_geta dX11_oneNight_96 rfl lf_X11_13_10 qt_85 qk_85 qr_85_1 qt_86 ?_
  refine pn_iconst dX11_oneNight_99 rfl ic_3 ?_
  refine pn_ialdc dX11_oneNight_100 rfl qt_86 qk_86 ql_86 (by decide) qn_3 ?_
  refine pn_iconst dX11_oneNight_101 rfl ic_1 ?_
  refine pn_iadd dX11_oneNight_102 rfl ?_
  refine pn_cp (fun r9 h9 => pn_LKS dX11_oneNight_103 lm_X11_317 (ct_J9_min_7cf53 Γ (9999 : Int32) ((σ 86 3) + (1 : Int32)) σ r9 h9) (by decide) rfl rfl (Nat.le_of_ble_eq_true rfl)) rfl (fun x6 => ?_)
  refine pn_iastc dX11_oneNight_106 rfl qt_86 qk_86 ql_86 (by decide) qn_3 ?_
  refine pn_iload_n dX11_oneNight_107 rfl rfl rfl ?_
  refine pn_cp (fun r9 h9 => pn_LKS dX11_oneNight_108 lm_X11_277 (ct_J6_bitCount_0f7a4 Γ l3 (pn_up σ 86 3 x6) r9 h9) (by decide) rfl rfl (Nat.le_of_ble_eq_true rfl)) rfl (fun x7 => ?_)
  exact pn_iretv dX11_oneNight_111 rfl rfl rfl

set_option maxRecDepth 20000 in
set_option maxHeartbeats 4000000 in
theorem wX11_oneNight_52 (Γ : pn_G)  (l1 : Int32) (l2 : Int32) (s0 : Int32) (σ : pn_S) : pn_W9 Γ 10 mX11_oneNight pn_i 52 [.ref 85, .int l1, .int l2, .null, .null] [.int s0] σ (fX11_oneNight_52 l1 l2 s0 σ) := by
  rw [fX11_oneNight_52]
  refine pn_istore_n (ls' := [.ref 85, .int l1, .int l2, .int s0, .null]) dX11_oneNight_52 rfl rfl (Nat.le_of_ble_eq_true rfl) rfl ?_
  refine pn_iload_n dX11_oneNight_53 rfl rfl rfl ?_
  refine pn_iconst dX11_oneNight_54 rfl ic_m1 ?_
  refine pn_icmp_eq (tgt := 87) dX11_oneNight_55 rfl rfl (fun c5 => ?_) (fun c5 => ?_)
  · exact pn_wk (pn_leC rfl (pn_leN (pn_leN (pn_leC rfl (pn_leN pn_le0))))) (wX11_oneNight_87 Γ s0 σ)
  · refine pn_aload_n dX11_oneNight_58 rfl rfl rfl ?_
    refine pn_iload_n dX11_oneNight_59 rfl rfl rfl ?_
    refine pn_iload_n dX11_oneNight_60 rfl rfl rfl ?_
    refine pn_ci (fun r9 h9 => pn_LKV dX11_oneNight_61 lm_X11_329 (ct_X11_leadsTo Γ s0 l1 σ r9 h9) (by decide) qt_85 qk_85 rfl rfl (Nat.le_of_ble_eq_true rfl)) rfl (fun x8 σ8 => ?_)
    refine pn_istore (ls' := [.ref 85, .int l1, .int l2, .int s0, .int x8]) dX11_oneNight_64 rfl (Nat.le_of_ble_eq_true rfl) rfl ?_
    refine pn_aload_n dX11_oneNight_66 rfl rfl rfl ?_
    refine pn_iload_n dX11_oneNight_67 rfl rfl rfl ?_
    refine pn_iload_n dX11_oneNight_68 rfl rfl rfl ?_
    refine pn_cp (fun r9 h9 => pn_LKS dX11_oneNight_69 lm_X11_277 (ct_J6_bitCount_0f7a4 Γ s0 σ8 r9 h9) (by decide) rfl rfl (Nat.le_of_ble_eq_true rfl)) rfl (fun x9 => ?_)
    refine pn_iload dX11_oneNight_72 rfl rfl ?_
    refine pn_cv (fun r9 h9 => pn_LKV dX11_oneNight_74 lm_X11_333 (ct_X11_tells Γ l2 x9 x8 σ8 r9 h9) (by decide) qt_85 qk_85 rfl rfl (Nat.le_of_ble_eq_true rfl)) rfl (fun σ10 => ?_)
    refine pn_iload dX11_oneNight_77 rfl rfl ?_
    refine pn_iconst dX11_oneNight_79 rfl ic_2 ?_
    refine pn_icmp_eq (tgt := 87) dX11_oneNight_80 rfl rfl (fun c11 => ?_) (fun c11 => ?_)
    · exact pn_wk (pn_leC rfl (pn_leN (pn_leN (pn_leC rfl (pn_leN pn_le0))))) (wX11_oneNight_87 Γ s0 σ10)
    · refine pn_aload_n dX11_oneNight_83 rfl rfl rfl ?_
      refine pn_cv (fun r9 h9 => pn_LKV dX11_oneNight_84 lm_X11_337 (ct_X11_bears Γ σ10 r9 h9) (by decide) qt_85 qk_85 rfl rfl (Nat.le_of_ble_eq_true rfl)) rfl (fun σ12 => ?_)
      exact pn_wk (pn_leC rfl (pn_leN (pn_leN (pn_leC rfl (pn_leN pn_le0))))) (wX11_oneNight_87 Γ s0 σ12)

set_option maxRecDepth 20000 in
set_option maxHeartbeats 4000000 in
theorem wX11_oneNight_30 (Γ : pn_G)  (l1 : Int32) (s1 : Int32) (s2 : Int32) (σ : pn_S) : pn_W9 Γ 10 mX11_oneNight pn_i 30 [.ref 85, .int l1, .null, .null, .null] [.int s2, .int s1, .ref 86] σ (fX11_oneNight_30 l1 s1 s2 σ) := by
  rw [fX11_oneNight_30]
  refine pn_iast dX11_oneNight_30 rfl qt_86 qk_86 ql_86 ?_
  refine pn_aload_n dX11_oneNight_31 rfl rfl rfl ?_
  refine pn_geta dX11_oneNight_32 rfl lf_X11_13_10 qt_85 qk_85 qr_85_1 qt_86 ?_
  refine pn_iconst dX11_oneNight_35 rfl ic_5 ?_
  refine pn_ialdc dX11_oneNight_36 rfl qt_86 qk_86 ql_86 (by decide) qn_5 ?_
  refine pn_istore_n (ls' := [.ref 85, .int l1, .int ((pn_up σ 86 (Int32.toNatClampNeg s1) s2) 86 5), .null, .null]) dX11_oneNight_37 rfl rfl (Nat.le_of_ble_eq_true rfl) rfl ?_
  refine pn_iload_n dX11_oneNight_38 rfl rfl rfl ?_
  refine pn_iconst dX11_oneNight_39 rfl ic_m1 ?_
  refine pn_icmp_ne (tgt := 47) dX11_oneNight_40 rfl rfl (fun c4 => ?_) (fun c4 => ?_)
  · refine pn_iconst dX11_oneNight_43 rfl ic_0 ?_
    refine pn_goto (pc' := 52) dX11_oneNight_44 rfl ?_
    exact wX11_oneNight_52 Γ l1 ((pn_up σ 86 (Int32.toNatClampNeg s1) s2) 86 5) (0 : Int32) (pn_up σ 86 (Int32.toNatClampNeg s1) s2)
  · refine pn_aload_n dX11_oneNight_47 rfl rfl rfl ?_
    refine pn_iload_n dX11_oneNight_48 rfl rfl rfl ?_
    refine pn_ci (fun r9 h9 => pn_LKV dX11_oneNight_49 lm_X11_293 (ct_X11_crowdOf Γ ((pn_up σ 86 (Int32.toNatClampNeg s1) s2) 86 5) (pn_up σ 86 (Int32.toNatClampNeg s1) s2) r9 h9) (by decide) qt_85 qk_85 rfl rfl (Nat.le_of_ble_eq_true rfl)) rfl (fun x13 σ13 => ?_)
    exact wX11_oneNight_52 Γ l1 ((pn_up σ 86 (Int32.toNatClampNeg s1) s2) 86 5) x13 σ13

set_option maxRecDepth 20000 in
set_option maxHeartbeats 4000000 in
theorem wX11_oneNight_29 (Γ : pn_G)  (l1 : Int32) (s1 : Int32) (σ : pn_S) : pn_W9 Γ 10 mX11_oneNight pn_i 29 [.ref 85, .int l1, .null, .null, .null] [.int s1, .ref 86] σ (fX11_oneNight_29 l1 s1 σ) := by
  rw [fX11_oneNight_29]
  refine pn_iconst dX11_oneNight_29 rfl ic_0 ?_
  exact wX11_oneNight_30 Γ l1 s1 (0 : Int32) σ

set_option maxRecDepth 20000 in
set_option maxHeartbeats 4000000 in
theorem ct_X11_oneNight (Γ : pn_G) (a1 : Int32) (σ : pn_S) : ∀ r, fX11_oneNight a1 σ = some r → pn_C Γ 10 mX11_oneNight [.ref 85, .int a1] σ (pn_i r) := by
  refine pn_of (ls := [.ref 85, .int a1, .null, .null, .null]) (by decide) rfl (pn_cat rfl) rfl (Nat.le_of_ble_eq_true rfl) ?_
  rw [fX11_oneNight]
  refine pn_aload_n dX11_oneNight_0 rfl rfl rfl ?_
  refine pn_geta dX11_oneNight_1 rfl lf_X11_13_10 qt_85 qk_85 qr_85_1 qt_86 ?_
  refine pn_iconst dX11_oneNight_4 rfl ic_4 ?_
  refine pn_iload_n dX11_oneNight_5 rfl rfl rfl ?_
  refine pn_if_ne (tgt := 29) dX11_oneNight_6 rfl rfl (fun c1 => ?_) (fun c1 => ?_)
  · refine pn_aload_n dX11_oneNight_9 rfl rfl rfl ?_
    refine pn_bipush dX11_oneNight_10 rfl bc_100 ?_
    refine pn_ci (fun r9 h9 => pn_LKV dX11_oneNight_12 lm_X11_320 (ct_X11_drawn Γ (100 : Int32) σ r9 h9) (by decide) qt_85 qk_85 rfl rfl (Nat.le_of_ble_eq_true rfl)) rfl (fun x2 σ2 => ?_)
    refine pn_aload_n dX11_oneNight_15 rfl rfl rfl ?_
    refine pn_geta dX11_oneNight_16 rfl lf_X11_13_10 qt_85 qk_85 qr_85_1 qt_86 ?_
    refine pn_bipush dX11_oneNight_19 rfl bc_7 ?_
    refine pn_ialdc dX11_oneNight_21 rfl qt_86 qk_86 ql_86 (by decide) qn_7 ?_
    refine pn_icmp_ge (tgt := 29) dX11_oneNight_22 rfl rfl (fun c3 => ?_) (fun c3 => ?_)
    · exact wX11_oneNight_29 Γ a1 (4 : Int32) σ2
    · refine pn_iconst dX11_oneNight_25 rfl ic_1 ?_
      refine pn_goto (pc' := 30) dX11_oneNight_26 rfl ?_
      exact wX11_oneNight_30 Γ a1 (4 : Int32) (1 : Int32) σ2
  · exact wX11_oneNight_29 Γ a1 (4 : Int32) σ

set_option maxRecDepth 20000 in
set_option maxHeartbeats 4000000 in
theorem wX11_goesOn_5 (Γ : pn_G)  : ∀ (n9 : Nat) (l1 : Int32) (l2 : Int32) (l3 : Int32) (l4 : Int32) (σ : pn_S), pn_W9 Γ 11 mX11_goesOn pn_i 5 [.ref 85, .int l1, .int l2, .int l3, .int l4] [] σ (fX11_goesOn_5 n9 l1 l2 l3 l4 σ) := by
  intro n9
  induction n9 with
  | zero => intro l1 l2 l3 l4 σ; exact pn_none
  | succ n9 ih =>
    intro l1 l2 l3 l4 σ
    rw [fX11_goesOn_5]
    refine pn_iload dX11_goesOn_5 rfl rfl ?_
    refine pn_iload_n dX11_goesOn_7 rfl rfl rfl ?_
    refine pn_icmp_ge (tgt := 25) dX11_goesOn_8 rfl rfl (fun c1 => ?_) (fun c1 => ?_)
    · refine pn_iload_n dX11_goesOn_25 rfl rfl rfl ?_
      exact pn_iretv dX11_goesOn_26 rfl rfl rfl
    · refine pn_iload_n dX11_goesOn_11 rfl rfl rfl ?_
      refine pn_aload_n dX11_goesOn_12 rfl rfl rfl ?_
      refine pn_iload_n dX11_goesOn_13 rfl rfl rfl ?_
      refine pn_ci (fun r9 h9 => pn_LKV dX11_goesOn_14 lm_X11_340 (ct_X11_oneNight Γ l2 σ r9 h9) (by decide) qt_85 qk_85 rfl rfl (Nat.le_of_ble_eq_true rfl)) rfl (fun x2 σ2 => ?_)
      refine pn_iadd dX11_goesOn_17 rfl ?_
      refine pn_istore_n (ls' := [.ref 85, .int l1, .int l2, .int (l3 + x2), .int l4]) dX11_goesOn_18 rfl rfl (Nat.le_of_ble_eq_true rfl) rfl ?_
      refine pn_iinc (ls' := [.ref 85, .int l1, .int l2, .int (l3 + x2), .int (l4 + (1 : Int32))]) dX11_goesOn_19 rfl (Nat.le_of_ble_eq_true rfl) rfl (congrArg (fun z => l4 + z) ic_1) rfl ?_
      refine pn_goto (pc' := 5) dX11_goesOn_22 rfl ?_
      exact ih l1 l2 (l3 + x2) (l4 + (1 : Int32)) σ2

set_option maxRecDepth 20000 in
set_option maxHeartbeats 4000000 in
theorem ct_X11_goesOn (Γ : pn_G) (a1 : Int32) (a2 : Int32) (σ : pn_S) : ∀ r, fX11_goesOn a1 a2 σ = some r → pn_C Γ 11 mX11_goesOn [.ref 85, .int a1, .int a2] σ (pn_i r) := by
  refine pn_of (ls := [.ref 85, .int a1, .int a2, .null, .null]) (by decide) rfl (pn_cat rfl) rfl (Nat.le_of_ble_eq_true rfl) ?_
  rw [fX11_goesOn]
  refine pn_iconst dX11_goesOn_0 rfl ic_0 ?_
  refine pn_istore_n (ls' := [.ref 85, .int a1, .int a2, .int (0 : Int32), .null]) dX11_goesOn_1 rfl rfl (Nat.le_of_ble_eq_true rfl) rfl ?_
  refine pn_iconst dX11_goesOn_2 rfl ic_0 ?_
  refine pn_istore (ls' := [.ref 85, .int a1, .int a2, .int (0 : Int32), .int (0 : Int32)]) dX11_goesOn_3 rfl (Nat.le_of_ble_eq_true rfl) rfl ?_
  exact wX11_goesOn_5 Γ 5000 a1 a2 (0 : Int32) (0 : Int32) σ

set_option maxRecDepth 20000 in
set_option maxHeartbeats 4000000 in
theorem wX11_keepsAll_2 (Γ : pn_G)  : ∀ (n9 : Nat) (l1 : Int32) (σ : pn_S), pn_W9 Γ 1 mX11_keepsAll pn_v 2 [.ref 85, .int l1] [] σ (fX11_keepsAll_2 n9 l1 σ) := by
  intro n9
  induction n9 with
  | zero => intro l1 σ; exact pn_none
  | succ n9 ih =>
    intro l1 σ
    rw [fX11_keepsAll_2]
    refine pn_iload_n dX11_keepsAll_2 rfl rfl rfl ?_
    refine pn_sipush dX11_keepsAll_3 rfl sc_317 ?_
    refine pn_icmp_ge (tgt := 27) dX11_keepsAll_6 rfl rfl (fun c1 => ?_) (fun c1 => ?_)
    · exact pn_vretv dX11_keepsAll_27 rfl rfl
    · refine pn_aload_n dX11_keepsAll_9 rfl rfl rfl ?_
      refine pn_geta dX11_keepsAll_10 rfl lf_X11_23_10 qt_85 qk_85 qr_85_4 qt_89 ?_
      refine pn_iload_n dX11_keepsAll_13 rfl rfl rfl ?_
      refine pn_aload_n dX11_keepsAll_14 rfl rfl rfl ?_
      refine pn_geta dX11_keepsAll_15 rfl lf_X11_13_10 qt_85 qk_85 qr_85_1 qt_86 ?_
      refine pn_iload_n dX11_keepsAll_18 rfl rfl rfl ?_
      refine pn_iald dX11_keepsAll_19 rfl qt_86 qk_86 ql_86 ?_
      refine pn_iast dX11_keepsAll_20 rfl qt_89 qk_89 ql_89 ?_
      refine pn_iinc (ls' := [.ref 85, .int (l1 + (1 : Int32))]) dX11_keepsAll_21 rfl (Nat.le_of_ble_eq_true rfl) rfl (congrArg (fun z => l1 + z) ic_1) rfl ?_
      refine pn_goto (pc' := 2) dX11_keepsAll_24 rfl ?_
      exact ih (l1 + (1 : Int32)) (pn_up σ 89 (Int32.toNatClampNeg l1) (σ 86 (Int32.toNatClampNeg l1)))

set_option maxRecDepth 20000 in
set_option maxHeartbeats 4000000 in
theorem ct_X11_keepsAll (Γ : pn_G)  (σ : pn_S) : ∀ r, fX11_keepsAll  σ = some r → pn_C Γ 1 mX11_keepsAll [.ref 85] σ (pn_v r) := by
  refine pn_of (ls := [.ref 85, .null]) (by decide) rfl (pn_cat rfl) rfl (Nat.le_of_ble_eq_true rfl) ?_
  rw [fX11_keepsAll]
  refine pn_iconst dX11_keepsAll_0 rfl ic_0 ?_
  refine pn_istore_n (ls' := [.ref 85, .int (0 : Int32)]) dX11_keepsAll_1 rfl rfl (Nat.le_of_ble_eq_true rfl) rfl ?_
  exact wX11_keepsAll_2 Γ 5000 (0 : Int32) σ

set_option maxRecDepth 20000 in
set_option maxHeartbeats 4000000 in
theorem wX11_bringsBack_2 (Γ : pn_G)  : ∀ (n9 : Nat) (l1 : Int32) (σ : pn_S), pn_W9 Γ 1 mX11_bringsBack pn_v 2 [.ref 85, .int l1] [] σ (fX11_bringsBack_2 n9 l1 σ) := by
  intro n9
  induction n9 with
  | zero => intro l1 σ; exact pn_none
  | succ n9 ih =>
    intro l1 σ
    rw [fX11_bringsBack_2]
    refine pn_iload_n dX11_bringsBack_2 rfl rfl rfl ?_
    refine pn_sipush dX11_bringsBack_3 rfl sc_317 ?_
    refine pn_icmp_ge (tgt := 27) dX11_bringsBack_6 rfl rfl (fun c1 => ?_) (fun c1 => ?_)
    · exact pn_vretv dX11_bringsBack_27 rfl rfl
    · refine pn_aload_n dX11_bringsBack_9 rfl rfl rfl ?_
      refine pn_geta dX11_bringsBack_10 rfl lf_X11_13_10 qt_85 qk_85 qr_85_1 qt_86 ?_
      refine pn_iload_n dX11_bringsBack_13 rfl rfl rfl ?_
      refine pn_aload_n dX11_bringsBack_14 rfl rfl rfl ?_
      refine pn_geta dX11_bringsBack_15 rfl lf_X11_23_10 qt_85 qk_85 qr_85_4 qt_89 ?_
      refine pn_iload_n dX11_bringsBack_18 rfl rfl rfl ?_
      refine pn_iald dX11_bringsBack_19 rfl qt_89 qk_89 ql_89 ?_
      refine pn_iast dX11_bringsBack_20 rfl qt_86 qk_86 ql_86 ?_
      refine pn_iinc (ls' := [.ref 85, .int (l1 + (1 : Int32))]) dX11_bringsBack_21 rfl (Nat.le_of_ble_eq_true rfl) rfl (congrArg (fun z => l1 + z) ic_1) rfl ?_
      refine pn_goto (pc' := 2) dX11_bringsBack_24 rfl ?_
      exact ih (l1 + (1 : Int32)) (pn_up σ 86 (Int32.toNatClampNeg l1) (σ 89 (Int32.toNatClampNeg l1)))

set_option maxRecDepth 20000 in
set_option maxHeartbeats 4000000 in
theorem ct_X11_bringsBack (Γ : pn_G)  (σ : pn_S) : ∀ r, fX11_bringsBack  σ = some r → pn_C Γ 1 mX11_bringsBack [.ref 85] σ (pn_v r) := by
  refine pn_of (ls := [.ref 85, .null]) (by decide) rfl (pn_cat rfl) rfl (Nat.le_of_ble_eq_true rfl) ?_
  rw [fX11_bringsBack]
  refine pn_iconst dX11_bringsBack_0 rfl ic_0 ?_
  refine pn_istore_n (ls' := [.ref 85, .int (0 : Int32)]) dX11_bringsBack_1 rfl rfl (Nat.le_of_ble_eq_true rfl) rfl ?_
  exact wX11_bringsBack_2 Γ 5000 (0 : Int32) σ

set_option maxRecDepth 20000 in
set_option maxHeartbeats 4000000 in
theorem wX11_nights_21 (Γ : pn_G)  (l1 : Int32) (s1 : Int32) (σ : pn_S) : pn_W9 Γ 12 mX11_nights pn_i 21 [.ref 85, .int l1] [.int s1, .ref 85] σ (fX11_nights_21 l1 s1 σ) := by
  rw [fX11_nights_21]
  refine pn_iconst dX11_nights_21 rfl ic_1 ?_
  refine pn_ci (fun r9 h9 => pn_LKV dX11_nights_22 lm_X11_240 (ct_X11_throwsIf Γ s1 (1 : Int32) σ r9 h9) (by decide) qt_85 qk_85 rfl rfl (Nat.le_of_ble_eq_true rfl)) rfl (fun x3 σ3 => ?_)
  refine pn_if_eq (tgt := 30) dX11_nights_25 rfl rfl (fun c4 => ?_) (fun c4 => ?_)
  · refine pn_aload_n dX11_nights_30 rfl rfl rfl ?_
    refine pn_cv (fun r9 h9 => pn_LKV dX11_nights_31 lm_X11_302 (ct_X11_remembers Γ σ3 r9 h9) (by decide) qt_85 qk_85 rfl rfl (Nat.le_of_ble_eq_true rfl)) rfl (fun σ5 => ?_)
    refine pn_aload_n dX11_nights_34 rfl rfl rfl ?_
    refine pn_iload_n dX11_nights_35 rfl rfl rfl ?_
    refine pn_iconst dX11_nights_36 rfl ic_0 ?_
    refine pn_ci (fun r9 h9 => pn_LKV dX11_nights_37 lm_X11_343 (ct_X11_goesOn Γ l1 (0 : Int32) σ5 r9 h9) (by decide) qt_85 qk_85 rfl rfl (Nat.le_of_ble_eq_true rfl)) rfl (fun x6 σ6 => ?_)
    exact pn_iretv dX11_nights_40 rfl rfl rfl
  · refine pn_iconst dX11_nights_28 rfl ic_0 ?_
    exact pn_iretv dX11_nights_29 rfl rfl rfl

set_option maxRecDepth 20000 in
set_option maxHeartbeats 4000000 in
theorem ct_X11_nights (Γ : pn_G) (a1 : Int32) (σ : pn_S) : ∀ r, fX11_nights a1 σ = some r → pn_C Γ 12 mX11_nights [.ref 85, .int a1] σ (pn_i r) := by
  refine pn_of (ls := [.ref 85, .int a1]) (by decide) rfl (pn_cat rfl) rfl (Nat.le_of_ble_eq_true rfl) ?_
  rw [fX11_nights]
  refine pn_aload_n dX11_nights_0 rfl rfl rfl ?_
  refine pn_iconst dX11_nights_1 rfl ic_0 ?_
  refine pn_puti dX11_nights_2 rfl lf_X11_3_10 (fpi_10_0 (0 : Int32)) qt_85 qk_85 qr_85_0 ?_
  refine pn_aload_n dX11_nights_5 rfl rfl rfl ?_
  refine pn_iload_n dX11_nights_6 rfl rfl rfl ?_
  refine pn_iconst dX11_nights_7 rfl ic_1 ?_
  refine pn_bipush dX11_nights_8 rfl bc_60 ?_
  refine pn_cp (fun r9 h9 => pn_LKS dX11_nights_10 lm_X11_63 (ct_X11_in Γ a1 (1 : Int32) (60 : Int32) (pn_up σ 85 0 (0 : Int32)) r9 h9) (by decide) rfl rfl (Nat.le_of_ble_eq_true rfl)) rfl (fun x1 => ?_)
  refine pn_if_ne (tgt := 20) dX11_nights_13 rfl rfl (fun c2 => ?_) (fun c2 => ?_)
  · refine pn_iconst dX11_nights_16 rfl ic_1 ?_
    refine pn_goto (pc' := 21) dX11_nights_17 rfl ?_
    exact wX11_nights_21 Γ a1 (1 : Int32) (pn_up σ 85 0 (0 : Int32))
  · refine pn_iconst dX11_nights_20 rfl ic_0 ?_
    exact wX11_nights_21 Γ a1 (0 : Int32) (pn_up σ 85 0 (0 : Int32))

set_option maxRecDepth 20000 in
set_option maxHeartbeats 4000000 in
theorem ct_X11_noAhead (Γ : pn_G) (a0 : Int32) (σ : pn_S) : ∀ r, fX11_noAhead a0 σ = some r → pn_C Γ 2 mX11_noAhead [.int a0] σ ((pn_p σ) r) := by
  refine pn_of (ls := [.int a0]) (by decide) rfl (pn_cat rfl) rfl (Nat.le_of_ble_eq_true rfl) ?_
  rw [fX11_noAhead]
  refine pn_iload_n dX11_noAhead_0 rfl rfl rfl ?_
  refine pn_iconst dX11_noAhead_1 rfl ic_0 ?_
  refine pn_bipush dX11_noAhead_2 rfl bc_60 ?_
  refine pn_cp (fun r9 h9 => pn_LKS dX11_noAhead_4 lm_X11_63 (ct_X11_in Γ a0 (0 : Int32) (60 : Int32) σ r9 h9) (by decide) rfl rfl (Nat.le_of_ble_eq_true rfl)) rfl (fun x1 => ?_)
  refine pn_if_ne (tgt := 14) dX11_noAhead_7 rfl rfl (fun c2 => ?_) (fun c2 => ?_)
  · refine pn_iconst dX11_noAhead_10 rfl ic_1 ?_
    refine pn_goto (pc' := 15) dX11_noAhead_11 rfl ?_
    exact pn_iretv dX11_noAhead_15 rfl rfl rfl
  · refine pn_iconst dX11_noAhead_14 rfl ic_0 ?_
    exact pn_iretv dX11_noAhead_15 rfl rfl rfl

set_option maxRecDepth 20000 in
set_option maxHeartbeats 4000000 in
theorem wX11_ends_58 (Γ : pn_G)  (l1 : Int32) (σ : pn_S) : pn_W9 Γ 11 mX11_ends pn_i 58 [.ref 85, .int l1, .null] [] σ (fX11_ends_58 l1 σ) := by
  rw [fX11_ends_58]
  refine pn_aload_n dX11_ends_58 rfl rfl rfl ?_
  refine pn_cv (fun r9 h9 => pn_LKV dX11_ends_59 lm_X11_352 (ct_X11_bringsBack Γ σ r9 h9) (by decide) qt_85 qk_85 rfl rfl (Nat.le_of_ble_eq_true rfl)) rfl (fun σ5 => ?_)
  refine pn_iload_n dX11_ends_62 rfl rfl rfl ?_
  exact pn_iretv dX11_ends_63 rfl rfl rfl

set_option maxRecDepth 20000 in
set_option maxHeartbeats 4000000 in
theorem wX11_ends_22 (Γ : pn_G)  : ∀ (n9 : Nat) (l1 : Int32) (l2 : Int32) (σ : pn_S), pn_W9 Γ 11 mX11_ends pn_i 22 [.ref 85, .int l1, .int l2] [] σ (fX11_ends_22 n9 l1 l2 σ) := by
  intro n9
  induction n9 with
  | zero => intro l1 l2 σ; exact pn_none
  | succ n9 ih =>
    intro l1 l2 σ
    rw [fX11_ends_22]
    refine pn_iload_n dX11_ends_22 rfl rfl rfl ?_
    refine pn_bipush dX11_ends_23 rfl bc_60 ?_
    refine pn_icmp_gt (tgt := 58) dX11_ends_25 rfl rfl (fun c4 => ?_) (fun c4 => ?_)
    · exact pn_wk (pn_leC rfl (pn_leC rfl (pn_leN pn_le0))) (wX11_ends_58 Γ l1 σ)
    · refine pn_iload_n dX11_ends_28 rfl rfl rfl ?_
      refine pn_iconst dX11_ends_29 rfl ic_m1 ?_
      refine pn_icmp_ne (tgt := 58) dX11_ends_30 rfl rfl (fun c6 => ?_) (fun c6 => ?_)
      · refine pn_aload_n dX11_ends_33 rfl rfl rfl ?_
        refine pn_iconst dX11_ends_34 rfl ic_1 ?_
        refine pn_ci (fun r9 h9 => pn_LKV dX11_ends_35 lm_X11_340 (ct_X11_oneNight Γ (1 : Int32) σ r9 h9) (by decide) qt_85 qk_85 rfl rfl (Nat.le_of_ble_eq_true rfl)) rfl (fun x7 σ7 => ?_)
        refine pn_popi dX11_ends_38 rfl ?_
        refine pn_aload_n dX11_ends_39 rfl rfl rfl ?_
        refine pn_cp (fun r9 h9 => pn_LKV dX11_ends_40 lm_X11_346 (ct_X11_hasTarget Γ σ7 r9 h9) (by decide) qt_85 qk_85 rfl rfl (Nat.le_of_ble_eq_true rfl)) rfl (fun x8 => ?_)
        refine pn_if_eq (tgt := 50) dX11_ends_43 rfl rfl (fun c9 => ?_) (fun c9 => ?_)
        · refine pn_iload_n dX11_ends_50 rfl rfl rfl ?_
          refine pn_istore_n (ls' := [.ref 85, .int l2, .int l2]) dX11_ends_51 rfl rfl (Nat.le_of_ble_eq_true rfl) rfl ?_
          refine pn_iinc (ls' := [.ref 85, .int l2, .int (l2 + (1 : Int32))]) dX11_ends_52 rfl (Nat.le_of_ble_eq_true rfl) rfl (congrArg (fun z => l2 + z) ic_1) rfl ?_
          refine pn_goto (pc' := 22) dX11_ends_55 rfl ?_
          exact ih l2 (l2 + (1 : Int32)) σ7
        · refine pn_iconst dX11_ends_46 rfl ic_m1 ?_
          refine pn_goto (pc' := 51) dX11_ends_47 rfl ?_
          refine pn_istore_n (ls' := [.ref 85, .int (-1 : Int32), .int l2]) dX11_ends_51 rfl rfl (Nat.le_of_ble_eq_true rfl) rfl ?_
          refine pn_iinc (ls' := [.ref 85, .int (-1 : Int32), .int (l2 + (1 : Int32))]) dX11_ends_52 rfl (Nat.le_of_ble_eq_true rfl) rfl (congrArg (fun z => l2 + z) ic_1) rfl ?_
          refine pn_goto (pc' := 22) dX11_ends_55 rfl ?_
          exact ih (-1 : Int32) (l2 + (1 : Int32)) σ7
      · exact pn_wk (pn_leC rfl (pn_leC rfl (pn_leN pn_le0))) (wX11_ends_58 Γ l1 σ)

set_option maxRecDepth 20000 in
set_option maxHeartbeats 4000000 in
theorem ct_X11_ends (Γ : pn_G)  (σ : pn_S) : ∀ r, fX11_ends  σ = some r → pn_C Γ 11 mX11_ends [.ref 85] σ (pn_i r) := by
  refine pn_of (ls := [.ref 85, .null, .null]) (by decide) rfl (pn_cat rfl) rfl (Nat.le_of_ble_eq_true rfl) ?_
  rw [fX11_ends]
  refine pn_aload_n dX11_ends_0 rfl rfl rfl ?_
  refine pn_iconst dX11_ends_1 rfl ic_0 ?_
  refine pn_puti dX11_ends_2 rfl lf_X11_3_10 (fpi_10_0 (0 : Int32)) qt_85 qk_85 qr_85_0 ?_
  refine pn_aload_n dX11_ends_5 rfl rfl rfl ?_
  refine pn_cp (fun r9 h9 => pn_LKV dX11_ends_6 lm_X11_346 (ct_X11_hasTarget Γ (pn_up σ 85 0 (0 : Int32)) r9 h9) (by decide) qt_85 qk_85 rfl rfl (Nat.le_of_ble_eq_true rfl)) rfl (fun x1 => ?_)
  refine pn_if_ne (tgt := 14) dX11_ends_9 rfl rfl (fun c2 => ?_) (fun c2 => ?_)
  · refine pn_iconst dX11_ends_12 rfl ic_m1 ?_
    exact pn_iretv dX11_ends_13 rfl rfl rfl
  · refine pn_iconst dX11_ends_14 rfl ic_m1 ?_
    refine pn_istore_n (ls' := [.ref 85, .int (-1 : Int32), .null]) dX11_ends_15 rfl rfl (Nat.le_of_ble_eq_true rfl) rfl ?_
    refine pn_aload_n dX11_ends_16 rfl rfl rfl ?_
    refine pn_cv (fun r9 h9 => pn_LKV dX11_ends_17 lm_X11_349 (ct_X11_keepsAll Γ (pn_up σ 85 0 (0 : Int32)) r9 h9) (by decide) qt_85 qk_85 rfl rfl (Nat.le_of_ble_eq_true rfl)) rfl (fun σ3 => ?_)
    refine pn_iconst dX11_ends_20 rfl ic_1 ?_
    refine pn_istore_n (ls' := [.ref 85, .int (-1 : Int32), .int (1 : Int32)]) dX11_ends_21 rfl rfl (Nat.le_of_ble_eq_true rfl) rfl ?_
    exact wX11_ends_22 Γ 5000 (-1 : Int32) (1 : Int32) σ3

set_option maxRecDepth 20000 in
set_option maxHeartbeats 4000000 in
theorem ct_X11_spent (Γ : pn_G) (a1 : Int32) (a2 : Int32) (σ : pn_S) : ∀ r, fX11_spent a1 a2 σ = some r → pn_C Γ 12 mX11_spent [.ref 85, .int a1, .int a2] σ (pn_i r) := by
  refine pn_of (ls := [.ref 85, .int a1, .int a2, .null, .null]) (by decide) rfl (pn_cat rfl) rfl (Nat.le_of_ble_eq_true rfl) ?_
  rw [fX11_spent]
  refine pn_aload_n dX11_spent_0 rfl rfl rfl ?_
  refine pn_iconst dX11_spent_1 rfl ic_0 ?_
  refine pn_puti dX11_spent_2 rfl lf_X11_3_10 (fpi_10_0 (0 : Int32)) qt_85 qk_85 qr_85_0 ?_
  refine pn_aload_n dX11_spent_5 rfl rfl rfl ?_
  refine pn_aload_n dX11_spent_6 rfl rfl rfl ?_
  refine pn_iload_n dX11_spent_7 rfl rfl rfl ?_
  refine pn_cp (fun r9 h9 => pn_LKV dX11_spent_8 lm_X11_259 (ct_X11_nobody Γ a1 (pn_up σ 85 0 (0 : Int32)) r9 h9) (by decide) qt_85 qk_85 rfl rfl (Nat.le_of_ble_eq_true rfl)) rfl (fun x1 => ?_)
  refine pn_iconst dX11_spent_11 rfl ic_1 ?_
  refine pn_ci (fun r9 h9 => pn_LKV dX11_spent_12 lm_X11_240 (ct_X11_throwsIf Γ x1 (1 : Int32) (pn_up σ 85 0 (0 : Int32)) r9 h9) (by decide) qt_85 qk_85 rfl rfl (Nat.le_of_ble_eq_true rfl)) rfl (fun x2 σ2 => ?_)
  refine pn_if_ne (tgt := 30) dX11_spent_15 rfl rfl (fun c3 => ?_) (fun c3 => ?_)
  · refine pn_aload_n dX11_spent_18 rfl rfl rfl ?_
    refine pn_iload_n dX11_spent_19 rfl rfl rfl ?_
    refine pn_cp (fun r9 h9 => pn_LKS dX11_spent_20 lm_X11_355 (ct_X11_noAhead Γ a2 σ2 r9 h9) (by decide) rfl rfl (Nat.le_of_ble_eq_true rfl)) rfl (fun x4 => ?_)
    refine pn_iconst dX11_spent_23 rfl ic_2 ?_
    refine pn_ci (fun r9 h9 => pn_LKV dX11_spent_24 lm_X11_240 (ct_X11_throwsIf Γ x4 (2 : Int32) σ2 r9 h9) (by decide) qt_85 qk_85 rfl rfl (Nat.le_of_ble_eq_true rfl)) rfl (fun x5 σ5 => ?_)
    refine pn_if_eq (tgt := 32) dX11_spent_27 rfl rfl (fun c6 => ?_) (fun c6 => ?_)
    · refine pn_aload_n dX11_spent_32 rfl rfl rfl ?_
      refine pn_iload_n dX11_spent_33 rfl rfl rfl ?_
      refine pn_iconst dX11_spent_34 rfl ic_3 ?_
      refine pn_cp (fun r9 h9 => pn_LKV dX11_spent_35 lm_X11_67 (ct_X11_of Γ a1 (3 : Int32) σ5 r9 h9) (by decide) qt_85 qk_85 rfl rfl (Nat.le_of_ble_eq_true rfl)) rfl (fun x7 => ?_)
      refine pn_istore_n (ls' := [.ref 85, .int a1, .int a2, .int x7, .null]) dX11_spent_38 rfl rfl (Nat.le_of_ble_eq_true rfl) rfl ?_
      refine pn_aload_n dX11_spent_39 rfl rfl rfl ?_
      refine pn_cv (fun r9 h9 => pn_LKV dX11_spent_40 lm_X11_349 (ct_X11_keepsAll Γ σ5 r9 h9) (by decide) qt_85 qk_85 rfl rfl (Nat.le_of_ble_eq_true rfl)) rfl (fun σ8 => ?_)
      refine pn_aload_n dX11_spent_43 rfl rfl rfl ?_
      refine pn_iload_n dX11_spent_44 rfl rfl rfl ?_
      refine pn_iconst dX11_spent_45 rfl ic_1 ?_
      refine pn_ci (fun r9 h9 => pn_LKV dX11_spent_46 lm_X11_343 (ct_X11_goesOn Γ a2 (1 : Int32) σ8 r9 h9) (by decide) qt_85 qk_85 rfl rfl (Nat.le_of_ble_eq_true rfl)) rfl (fun x9 σ9 => ?_)
      refine pn_popi dX11_spent_49 rfl ?_
      refine pn_iload_n dX11_spent_50 rfl rfl rfl ?_
      refine pn_aload_n dX11_spent_51 rfl rfl rfl ?_
      refine pn_iload_n dX11_spent_52 rfl rfl rfl ?_
      refine pn_iconst dX11_spent_53 rfl ic_3 ?_
      refine pn_cp (fun r9 h9 => pn_LKV dX11_spent_54 lm_X11_67 (ct_X11_of Γ a1 (3 : Int32) σ9 r9 h9) (by decide) qt_85 qk_85 rfl rfl (Nat.le_of_ble_eq_true rfl)) rfl (fun x10 => ?_)
      refine pn_isub dX11_spent_57 rfl ?_
      refine pn_istore (ls' := [.ref 85, .int a1, .int a2, .int x7, .int (x7 - x10)]) dX11_spent_58 rfl (Nat.le_of_ble_eq_true rfl) rfl ?_
      refine pn_aload_n dX11_spent_60 rfl rfl rfl ?_
      refine pn_cv (fun r9 h9 => pn_LKV dX11_spent_61 lm_X11_352 (ct_X11_bringsBack Γ σ9 r9 h9) (by decide) qt_85 qk_85 rfl rfl (Nat.le_of_ble_eq_true rfl)) rfl (fun σ11 => ?_)
      refine pn_iload dX11_spent_64 rfl rfl ?_
      exact pn_iretv dX11_spent_66 rfl rfl rfl
    · refine pn_iconst dX11_spent_30 rfl ic_0 ?_
      exact pn_iretv dX11_spent_31 rfl rfl rfl
  · refine pn_iconst dX11_spent_30 rfl ic_0 ?_
    exact pn_iretv dX11_spent_31 rfl rfl rfl

set_option maxRecDepth 20000 in
set_option maxHeartbeats 4000000 in
theorem ct_X11_calm (Γ : pn_G) (a1 : Int32) (σ : pn_S) : ∀ r, fX11_calm a1 σ = some r → pn_C Γ 12 mX11_calm [.ref 85, .int a1] σ (pn_i r) := by
  refine pn_of (ls := [.ref 85, .int a1, .null, .null]) (by decide) rfl (pn_cat rfl) rfl (Nat.le_of_ble_eq_true rfl) ?_
  rw [fX11_calm]
  refine pn_aload_n dX11_calm_0 rfl rfl rfl ?_
  refine pn_iconst dX11_calm_1 rfl ic_0 ?_
  refine pn_puti dX11_calm_2 rfl lf_X11_3_10 (fpi_10_0 (0 : Int32)) qt_85 qk_85 qr_85_0 ?_
  refine pn_aload_n dX11_calm_5 rfl rfl rfl ?_
  refine pn_iload_n dX11_calm_6 rfl rfl rfl ?_
  refine pn_cp (fun r9 h9 => pn_LKS dX11_calm_7 lm_X11_355 (ct_X11_noAhead Γ a1 (pn_up σ 85 0 (0 : Int32)) r9 h9) (by decide) rfl rfl (Nat.le_of_ble_eq_true rfl)) rfl (fun x1 => ?_)
  refine pn_iconst dX11_calm_10 rfl ic_1 ?_
  refine pn_ci (fun r9 h9 => pn_LKV dX11_calm_11 lm_X11_240 (ct_X11_throwsIf Γ x1 (1 : Int32) (pn_up σ 85 0 (0 : Int32)) r9 h9) (by decide) qt_85 qk_85 rfl rfl (Nat.le_of_ble_eq_true rfl)) rfl (fun x2 σ2 => ?_)
  refine pn_if_eq (tgt := 19) dX11_calm_14 rfl rfl (fun c3 => ?_) (fun c3 => ?_)
  · refine pn_aload_n dX11_calm_19 rfl rfl rfl ?_
    refine pn_cp (fun r9 h9 => pn_LKV dX11_calm_20 lm_X11_346 (ct_X11_hasTarget Γ σ2 r9 h9) (by decide) qt_85 qk_85 rfl rfl (Nat.le_of_ble_eq_true rfl)) rfl (fun x4 => ?_)
    refine pn_if_ne (tgt := 28) dX11_calm_23 rfl rfl (fun c5 => ?_) (fun c5 => ?_)
    · refine pn_iconst dX11_calm_26 rfl ic_0 ?_
      exact pn_iretv dX11_calm_27 rfl rfl rfl
    · refine pn_aload_n dX11_calm_28 rfl rfl rfl ?_
      refine pn_geta dX11_calm_29 rfl lf_X11_13_10 qt_85 qk_85 qr_85_1 qt_86 ?_
      refine pn_iconst dX11_calm_32 rfl ic_5 ?_
      refine pn_ialdc dX11_calm_33 rfl qt_86 qk_86 ql_86 (by decide) qn_5 ?_
      refine pn_istore_n (ls' := [.ref 85, .int a1, .int (σ2 86 5), .null]) dX11_calm_34 rfl rfl (Nat.le_of_ble_eq_true rfl) rfl ?_
      refine pn_aload_n dX11_calm_35 rfl rfl rfl ?_
      refine pn_cv (fun r9 h9 => pn_LKV dX11_calm_36 lm_X11_349 (ct_X11_keepsAll Γ σ2 r9 h9) (by decide) qt_85 qk_85 rfl rfl (Nat.le_of_ble_eq_true rfl)) rfl (fun σ6 => ?_)
      refine pn_aload_n dX11_calm_39 rfl rfl rfl ?_
      refine pn_iload_n dX11_calm_40 rfl rfl rfl ?_
      refine pn_iconst dX11_calm_41 rfl ic_1 ?_
      refine pn_ci (fun r9 h9 => pn_LKV dX11_calm_42 lm_X11_343 (ct_X11_goesOn Γ a1 (1 : Int32) σ6 r9 h9) (by decide) qt_85 qk_85 rfl rfl (Nat.le_of_ble_eq_true rfl)) rfl (fun x7 σ7 => ?_)
      refine pn_popi dX11_calm_45 rfl ?_
      refine pn_aload_n dX11_calm_46 rfl rfl rfl ?_
      refine pn_iload_n dX11_calm_47 rfl rfl rfl ?_
      refine pn_iconst dX11_calm_48 rfl ic_2 ?_
      refine pn_cp (fun r9 h9 => pn_LKV dX11_calm_49 lm_X11_67 (ct_X11_of Γ (σ2 86 5) (2 : Int32) σ7 r9 h9) (by decide) qt_85 qk_85 rfl rfl (Nat.le_of_ble_eq_true rfl)) rfl (fun x8 => ?_)
      refine pn_istore_n (ls' := [.ref 85, .int a1, .int (σ2 86 5), .int x8]) dX11_calm_52 rfl rfl (Nat.le_of_ble_eq_true rfl) rfl ?_
      refine pn_aload_n dX11_calm_53 rfl rfl rfl ?_
      refine pn_cv (fun r9 h9 => pn_LKV dX11_calm_54 lm_X11_352 (ct_X11_bringsBack Γ σ7 r9 h9) (by decide) qt_85 qk_85 rfl rfl (Nat.le_of_ble_eq_true rfl)) rfl (fun σ9 => ?_)
      refine pn_iload_n dX11_calm_57 rfl rfl rfl ?_
      exact pn_iretv dX11_calm_58 rfl rfl rfl
  · refine pn_iconst dX11_calm_17 rfl ic_0 ?_
    exact pn_iretv dX11_calm_18 rfl rfl rfl

set_option maxRecDepth 20000 in
set_option maxHeartbeats 4000000 in
theorem wX11_fewest_57 (Γ : pn_G)  : ∀ (n9 : Nat) (l1 : Int32) (l2 : Int32) (l3 : Int32) (l4 : Int32) (l5 : Int32) (σ : pn_S), pn_W9 Γ 8 mX11_fewest pn_i 57 [.ref 85, .int l1, .int l2, .int l3, .int l4, .int l5] [] σ (fX11_fewest_57 n9 l1 l2 l3 l4 l5 σ) := by
  intro n9
  induction n9 with
  | zero => intro l1 l2 l3 l4 l5 σ; exact pn_none
  | succ n9 ih =>
    intro l1 l2 l3 l4 l5 σ
    rw [fX11_fewest_57]
    refine pn_iload dX11_fewest_57 rfl rfl ?_
    refine pn_aload_n dX11_fewest_59 rfl rfl rfl ?_
    refine pn_cp (fun r9 h9 => pn_LKV dX11_fewest_60 lm_X11_268 (ct_X11_everybody Γ σ r9 h9) (by decide) qt_85 qk_85 rfl rfl (Nat.le_of_ble_eq_true rfl)) rfl (fun x9 => ?_)
    refine pn_icmp_gt (tgt := 110) dX11_fewest_63 rfl rfl (fun c10 => ?_) (fun c10 => ?_)
    · refine pn_iload_n dX11_fewest_110 rfl rfl rfl ?_
      exact pn_iretv dX11_fewest_111 rfl rfl rfl
    · refine pn_iload dX11_fewest_66 rfl rfl ?_
      refine pn_cp (fun r9 h9 => pn_LKS dX11_fewest_68 lm_X11_277 (ct_J6_bitCount_0f7a4 Γ l5 σ r9 h9) (by decide) rfl rfl (Nat.le_of_ble_eq_true rfl)) rfl (fun x11 => ?_)
      refine pn_iload dX11_fewest_71 rfl rfl ?_
      refine pn_icmp_ge (tgt := 104) dX11_fewest_73 rfl rfl (fun c12 => ?_) (fun c12 => ?_)
      · refine pn_iinc (ls' := [.ref 85, .int l1, .int l2, .int l3, .int l4, .int (l5 + (1 : Int32))]) dX11_fewest_104 rfl (Nat.le_of_ble_eq_true rfl) rfl (congrArg (fun z => l5 + z) ic_1) rfl ?_
        refine pn_goto (pc' := 57) dX11_fewest_107 rfl ?_
        exact ih l1 l2 l3 l4 (l5 + (1 : Int32)) σ
      · refine pn_aload_n dX11_fewest_76 rfl rfl rfl ?_
        refine pn_iload_n dX11_fewest_77 rfl rfl rfl ?_
        refine pn_iload dX11_fewest_78 rfl rfl ?_
        refine pn_iconst dX11_fewest_80 rfl ic_0 ?_
        refine pn_ci (fun r9 h9 => pn_LKV dX11_fewest_81 lm_X11_290 (ct_X11_gathers Γ l1 l5 (0 : Int32) σ r9 h9) (by decide) qt_85 qk_85 rfl rfl (Nat.le_of_ble_eq_true rfl)) rfl (fun x13 σ13 => ?_)
        refine pn_cp (fun r9 h9 => pn_LKS dX11_fewest_84 lm_X11_277 (ct_J6_bitCount_0f7a4 Γ x13 σ13 r9 h9) (by decide) rfl rfl (Nat.le_of_ble_eq_true rfl)) rfl (fun x14 => ?_)
        refine pn_iload_n dX11_fewest_87 rfl rfl rfl ?_
        refine pn_icmp_ge (tgt := 94) dX11_fewest_88 rfl rfl (fun c15 => ?_) (fun c15 => ?_)
        · refine pn_iload dX11_fewest_94 rfl rfl ?_
          refine pn_istore_n (ls' := [.ref 85, .int l1, .int l2, .int l5, .int l4, .int l5]) dX11_fewest_96 rfl rfl (Nat.le_of_ble_eq_true rfl) rfl ?_
          refine pn_iload dX11_fewest_97 rfl rfl ?_
          refine pn_cp (fun r9 h9 => pn_LKS dX11_fewest_99 lm_X11_277 (ct_J6_bitCount_0f7a4 Γ l5 σ13 r9 h9) (by decide) rfl rfl (Nat.le_of_ble_eq_true rfl)) rfl (fun x16 => ?_)
          refine pn_istore (ls' := [.ref 85, .int l1, .int l2, .int l5, .int x16, .int l5]) dX11_fewest_102 rfl (Nat.le_of_ble_eq_true rfl) rfl ?_
          refine pn_iinc (ls' := [.ref 85, .int l1, .int l2, .int l5, .int x16, .int (l5 + (1 : Int32))]) dX11_fewest_104 rfl (Nat.le_of_ble_eq_true rfl) rfl (congrArg (fun z => l5 + z) ic_1) rfl ?_
          refine pn_goto (pc' := 57) dX11_fewest_107 rfl ?_
          exact ih l1 l2 l5 x16 (l5 + (1 : Int32)) σ13
        · refine pn_goto (pc' := 104) dX11_fewest_91 rfl ?_
          refine pn_iinc (ls' := [.ref 85, .int l1, .int l2, .int l3, .int l4, .int (l5 + (1 : Int32))]) dX11_fewest_104 rfl (Nat.le_of_ble_eq_true rfl) rfl (congrArg (fun z => l5 + z) ic_1) rfl ?_
          refine pn_goto (pc' := 57) dX11_fewest_107 rfl ?_
          exact ih l1 l2 l3 l4 (l5 + (1 : Int32)) σ13

set_option maxRecDepth 20000 in
set_option maxHeartbeats 4000000 in
theorem wX11_fewest_34 (Γ : pn_G)  (l1 : Int32) (l2 : Int32) (s1 : Int32) (σ : pn_S) : pn_W9 Γ 8 mX11_fewest pn_i 34 [.ref 85, .int l1, .int l2, .null, .null, .null] [.int s1, .ref 85] σ (fX11_fewest_34 l1 l2 s1 σ) := by
  rw [fX11_fewest_34]
  refine pn_iconst dX11_fewest_34 rfl ic_2 ?_
  refine pn_ci (fun r9 h9 => pn_LKV dX11_fewest_35 lm_X11_240 (ct_X11_throwsIf Γ s1 (2 : Int32) σ r9 h9) (by decide) qt_85 qk_85 rfl rfl (Nat.le_of_ble_eq_true rfl)) rfl (fun x6 σ6 => ?_)
  refine pn_if_eq (tgt := 43) dX11_fewest_38 rfl rfl (fun c7 => ?_) (fun c7 => ?_)
  · refine pn_aload_n dX11_fewest_43 rfl rfl rfl ?_
    refine pn_iload_n dX11_fewest_44 rfl rfl rfl ?_
    refine pn_cv (fun r9 h9 => pn_LKV dX11_fewest_45 lm_X11_283 (ct_X11_laysNeeds Γ l1 σ6 r9 h9) (by decide) qt_85 qk_85 rfl rfl (Nat.le_of_ble_eq_true rfl)) rfl (fun σ8 => ?_)
    refine pn_iconst dX11_fewest_48 rfl ic_m1 ?_
    refine pn_istore_n (ls' := [.ref 85, .int l1, .int l2, .int (-1 : Int32), .null, .null]) dX11_fewest_49 rfl rfl (Nat.le_of_ble_eq_true rfl) rfl ?_
    refine pn_bipush dX11_fewest_50 rfl bc_9 ?_
    refine pn_istore (ls' := [.ref 85, .int l1, .int l2, .int (-1 : Int32), .int (9 : Int32), .null]) dX11_fewest_52 rfl (Nat.le_of_ble_eq_true rfl) rfl ?_
    refine pn_iconst dX11_fewest_54 rfl ic_0 ?_
    refine pn_istore (ls' := [.ref 85, .int l1, .int l2, .int (-1 : Int32), .int (9 : Int32), .int (0 : Int32)]) dX11_fewest_55 rfl (Nat.le_of_ble_eq_true rfl) rfl ?_
    exact wX11_fewest_57 Γ 5000 l1 l2 (-1 : Int32) (9 : Int32) (0 : Int32) σ8
  · refine pn_iconst dX11_fewest_41 rfl ic_0 ?_
    exact pn_iretv dX11_fewest_42 rfl rfl rfl

set_option maxRecDepth 20000 in
set_option maxHeartbeats 4000000 in
theorem ct_X11_fewest (Γ : pn_G) (a1 : Int32) (a2 : Int32) (σ : pn_S) : ∀ r, fX11_fewest a1 a2 σ = some r → pn_C Γ 8 mX11_fewest [.ref 85, .int a1, .int a2] σ (pn_i r) := by
  refine pn_of (ls := [.ref 85, .int a1, .int a2, .null, .null, .null]) (by decide) rfl (pn_cat rfl) rfl (Nat.le_of_ble_eq_true rfl) ?_
  rw [fX11_fewest]
  refine pn_aload_n dX11_fewest_0 rfl rfl rfl ?_
  refine pn_iconst dX11_fewest_1 rfl ic_0 ?_
  refine pn_puti dX11_fewest_2 rfl lf_X11_3_10 (fpi_10_0 (0 : Int32)) qt_85 qk_85 qr_85_0 ?_
  refine pn_aload_n dX11_fewest_5 rfl rfl rfl ?_
  refine pn_aload_n dX11_fewest_6 rfl rfl rfl ?_
  refine pn_iload_n dX11_fewest_7 rfl rfl rfl ?_
  refine pn_cp (fun r9 h9 => pn_LKV dX11_fewest_8 lm_X11_259 (ct_X11_nobody Γ a1 (pn_up σ 85 0 (0 : Int32)) r9 h9) (by decide) qt_85 qk_85 rfl rfl (Nat.le_of_ble_eq_true rfl)) rfl (fun x1 => ?_)
  refine pn_iconst dX11_fewest_11 rfl ic_1 ?_
  refine pn_ci (fun r9 h9 => pn_LKV dX11_fewest_12 lm_X11_240 (ct_X11_throwsIf Γ x1 (1 : Int32) (pn_up σ 85 0 (0 : Int32)) r9 h9) (by decide) qt_85 qk_85 rfl rfl (Nat.le_of_ble_eq_true rfl)) rfl (fun x2 σ2 => ?_)
  refine pn_if_ne (tgt := 41) dX11_fewest_15 rfl rfl (fun c3 => ?_) (fun c3 => ?_)
  · refine pn_aload_n dX11_fewest_18 rfl rfl rfl ?_
    refine pn_iload_n dX11_fewest_19 rfl rfl rfl ?_
    refine pn_iconst dX11_fewest_20 rfl ic_0 ?_
    refine pn_bipush dX11_fewest_21 rfl bc_8 ?_
    refine pn_cp (fun r9 h9 => pn_LKS dX11_fewest_23 lm_X11_63 (ct_X11_in Γ a2 (0 : Int32) (8 : Int32) σ2 r9 h9) (by decide) rfl rfl (Nat.le_of_ble_eq_true rfl)) rfl (fun x4 => ?_)
    refine pn_if_ne (tgt := 33) dX11_fewest_26 rfl rfl (fun c5 => ?_) (fun c5 => ?_)
    · refine pn_iconst dX11_fewest_29 rfl ic_1 ?_
      refine pn_goto (pc' := 34) dX11_fewest_30 rfl ?_
      exact wX11_fewest_34 Γ a1 a2 (1 : Int32) σ2
    · refine pn_iconst dX11_fewest_33 rfl ic_0 ?_
      exact wX11_fewest_34 Γ a1 a2 (0 : Int32) σ2
  · refine pn_iconst dX11_fewest_41 rfl ic_0 ?_
    exact pn_iretv dX11_fewest_42 rfl rfl rfl

set_option maxRecDepth 20000 in
set_option maxHeartbeats 4000000 in
theorem wX11_keep_35 (Γ : pn_G)  : ∀ (n9 : Nat) (l1 : Int32) (l2 : Int32) (l3 : Int32) (l4 : Int32) (l5 : Int32) (σ : pn_S), pn_W9 Γ 9 mX11_keep pn_i 35 [.ref 85, .int l1, .int l2, .int l3, .int l4, .int l5] [] σ (fX11_keep_35 n9 l1 l2 l3 l4 l5 σ) := by
  intro n9
  induction n9 with
  | zero => intro l1 l2 l3 l4 l5 σ; exact pn_none
  | succ n9 ih =>
    intro l1 l2 l3 l4 l5 σ
    rw [fX11_keep_35]
    refine pn_iload dX11_keep_35 rfl rfl ?_
    refine pn_iload_n dX11_keep_37 rfl rfl rfl ?_
    refine pn_icmp_gt (tgt := 107) dX11_keep_38 rfl rfl (fun c5 => ?_) (fun c5 => ?_)
    · refine pn_iload_n dX11_keep_107 rfl rfl rfl ?_
      exact pn_iretv dX11_keep_108 rfl rfl rfl
    · refine pn_iload dX11_keep_41 rfl rfl ?_
      refine pn_iload_n dX11_keep_43 rfl rfl rfl ?_
      refine pn_iconst dX11_keep_44 rfl ic_m1 ?_
      refine pn_ixor dX11_keep_45 rfl ?_
      refine pn_iand dX11_keep_46 rfl ?_
      refine pn_if_ne (tgt := 101) dX11_keep_47 rfl rfl (fun c6 => ?_) (fun c6 => ?_)
      · refine pn_iload dX11_keep_50 rfl rfl ?_
        refine pn_cp (fun r9 h9 => pn_LKS dX11_keep_52 lm_X11_277 (ct_J6_bitCount_0f7a4 Γ l5 σ r9 h9) (by decide) rfl rfl (Nat.le_of_ble_eq_true rfl)) rfl (fun x7 => ?_)
        refine pn_iload dX11_keep_55 rfl rfl ?_
        refine pn_icmp_lt (tgt := 63) dX11_keep_57 rfl rfl (fun c8 => ?_) (fun c8 => ?_)
        · refine pn_aload_n dX11_keep_63 rfl rfl rfl ?_
          refine pn_aload_n dX11_keep_64 rfl rfl rfl ?_
          refine pn_iload_n dX11_keep_65 rfl rfl rfl ?_
          refine pn_aload_n dX11_keep_66 rfl rfl rfl ?_
          refine pn_cp (fun r9 h9 => pn_LKV dX11_keep_67 lm_X11_287 (ct_X11_beginners Γ σ r9 h9) (by decide) qt_85 qk_85 rfl rfl (Nat.le_of_ble_eq_true rfl)) rfl (fun x9 => ?_)
          refine pn_iload dX11_keep_70 rfl rfl ?_
          refine pn_ci (fun r9 h9 => pn_LKV dX11_keep_72 lm_X11_290 (ct_X11_gathers Γ l1 x9 l5 σ r9 h9) (by decide) qt_85 qk_85 rfl rfl (Nat.le_of_ble_eq_true rfl)) rfl (fun x10 σ10 => ?_)
          refine pn_iload_n dX11_keep_75 rfl rfl rfl ?_
          refine pn_ci (fun r9 h9 => pn_LKV dX11_keep_76 lm_X11_296 (ct_X11_noiseOf Γ x10 l1 σ10 r9 h9) (by decide) qt_85 qk_85 rfl rfl (Nat.le_of_ble_eq_true rfl)) rfl (fun x11 σ11 => ?_)
          refine pn_aload_n dX11_keep_79 rfl rfl rfl ?_
          refine pn_iload_n dX11_keep_80 rfl rfl rfl ?_
          refine pn_iconst dX11_keep_81 rfl ic_2 ?_
          refine pn_cp (fun r9 h9 => pn_LKV dX11_keep_82 lm_X11_67 (ct_X11_of Γ l1 (2 : Int32) σ11 r9 h9) (by decide) qt_85 qk_85 rfl rfl (Nat.le_of_ble_eq_true rfl)) rfl (fun x12 => ?_)
          refine pn_icmp_lt (tgt := 91) dX11_keep_85 rfl rfl (fun c13 => ?_) (fun c13 => ?_)
          · refine pn_iload dX11_keep_91 rfl rfl ?_
            refine pn_istore_n (ls' := [.ref 85, .int l1, .int l2, .int l5, .int l4, .int l5]) dX11_keep_93 rfl rfl (Nat.le_of_ble_eq_true rfl) rfl ?_
            refine pn_iload dX11_keep_94 rfl rfl ?_
            refine pn_cp (fun r9 h9 => pn_LKS dX11_keep_96 lm_X11_277 (ct_J6_bitCount_0f7a4 Γ l5 σ11 r9 h9) (by decide) rfl rfl (Nat.le_of_ble_eq_true rfl)) rfl (fun x14 => ?_)
            refine pn_istore (ls' := [.ref 85, .int l1, .int l2, .int l5, .int x14, .int l5]) dX11_keep_99 rfl (Nat.le_of_ble_eq_true rfl) rfl ?_
            refine pn_iinc (ls' := [.ref 85, .int l1, .int l2, .int l5, .int x14, .int (l5 + (1 : Int32))]) dX11_keep_101 rfl (Nat.le_of_ble_eq_true rfl) rfl (congrArg (fun z => l5 + z) ic_1) rfl ?_
            refine pn_goto (pc' := 35) dX11_keep_104 rfl ?_
            exact ih l1 l2 l5 x14 (l5 + (1 : Int32)) σ11
          · refine pn_goto (pc' := 101) dX11_keep_88 rfl ?_
            refine pn_iinc (ls' := [.ref 85, .int l1, .int l2, .int l3, .int l4, .int (l5 + (1 : Int32))]) dX11_keep_101 rfl (Nat.le_of_ble_eq_true rfl) rfl (congrArg (fun z => l5 + z) ic_1) rfl ?_
            refine pn_goto (pc' := 35) dX11_keep_104 rfl ?_
            exact ih l1 l2 l3 l4 (l5 + (1 : Int32)) σ11
        · refine pn_goto (pc' := 101) dX11_keep_60 rfl ?_
          refine pn_iinc (ls' := [.ref 85, .int l1, .int l2, .int l3, .int l4, .int (l5 + (1 : Int32))]) dX11_keep_101 rfl (Nat.le_of_ble_eq_true rfl) rfl (congrArg (fun z => l5 + z) ic_1) rfl ?_
          refine pn_goto (pc' := 35) dX11_keep_104 rfl ?_
          exact ih l1 l2 l3 l4 (l5 + (1 : Int32)) σ
      · refine pn_iinc (ls' := [.ref 85, .int l1, .int l2, .int l3, .int l4, .int (l5 + (1 : Int32))]) dX11_keep_101 rfl (Nat.le_of_ble_eq_true rfl) rfl (congrArg (fun z => l5 + z) ic_1) rfl ?_
        refine pn_goto (pc' := 35) dX11_keep_104 rfl ?_
        exact ih l1 l2 l3 l4 (l5 + (1 : Int32)) σ

set_option maxRecDepth 20000 in
set_option maxHeartbeats 4000000 in
theorem ct_X11_keep (Γ : pn_G) (a1 : Int32) (σ : pn_S) : ∀ r, fX11_keep a1 σ = some r → pn_C Γ 9 mX11_keep [.ref 85, .int a1] σ (pn_i r) := by
  refine pn_of (ls := [.ref 85, .int a1, .null, .null, .null, .null]) (by decide) rfl (pn_cat rfl) rfl (Nat.le_of_ble_eq_true rfl) ?_
  rw [fX11_keep]
  refine pn_aload_n dX11_keep_0 rfl rfl rfl ?_
  refine pn_iconst dX11_keep_1 rfl ic_0 ?_
  refine pn_puti dX11_keep_2 rfl lf_X11_3_10 (fpi_10_0 (0 : Int32)) qt_85 qk_85 qr_85_0 ?_
  refine pn_aload_n dX11_keep_5 rfl rfl rfl ?_
  refine pn_aload_n dX11_keep_6 rfl rfl rfl ?_
  refine pn_iload_n dX11_keep_7 rfl rfl rfl ?_
  refine pn_cp (fun r9 h9 => pn_LKV dX11_keep_8 lm_X11_259 (ct_X11_nobody Γ a1 (pn_up σ 85 0 (0 : Int32)) r9 h9) (by decide) qt_85 qk_85 rfl rfl (Nat.le_of_ble_eq_true rfl)) rfl (fun x1 => ?_)
  refine pn_iconst dX11_keep_11 rfl ic_1 ?_
  refine pn_ci (fun r9 h9 => pn_LKV dX11_keep_12 lm_X11_240 (ct_X11_throwsIf Γ x1 (1 : Int32) (pn_up σ 85 0 (0 : Int32)) r9 h9) (by decide) qt_85 qk_85 rfl rfl (Nat.le_of_ble_eq_true rfl)) rfl (fun x2 σ2 => ?_)
  refine pn_if_eq (tgt := 20) dX11_keep_15 rfl rfl (fun c3 => ?_) (fun c3 => ?_)
  · refine pn_aload_n dX11_keep_20 rfl rfl rfl ?_
    refine pn_iload_n dX11_keep_21 rfl rfl rfl ?_
    refine pn_ci (fun r9 h9 => pn_LKV dX11_keep_22 lm_X11_293 (ct_X11_crowdOf Γ a1 σ2 r9 h9) (by decide) qt_85 qk_85 rfl rfl (Nat.le_of_ble_eq_true rfl)) rfl (fun x4 σ4 => ?_)
    refine pn_istore_n (ls' := [.ref 85, .int a1, .int x4, .null, .null, .null]) dX11_keep_25 rfl rfl (Nat.le_of_ble_eq_true rfl) rfl ?_
    refine pn_iconst dX11_keep_26 rfl ic_m1 ?_
    refine pn_istore_n (ls' := [.ref 85, .int a1, .int x4, .int (-1 : Int32), .null, .null]) dX11_keep_27 rfl rfl (Nat.le_of_ble_eq_true rfl) rfl ?_
    refine pn_bipush dX11_keep_28 rfl bc_9 ?_
    refine pn_istore (ls' := [.ref 85, .int a1, .int x4, .int (-1 : Int32), .int (9 : Int32), .null]) dX11_keep_30 rfl (Nat.le_of_ble_eq_true rfl) rfl ?_
    refine pn_iconst dX11_keep_32 rfl ic_0 ?_
    refine pn_istore (ls' := [.ref 85, .int a1, .int x4, .int (-1 : Int32), .int (9 : Int32), .int (0 : Int32)]) dX11_keep_33 rfl (Nat.le_of_ble_eq_true rfl) rfl ?_
    exact wX11_keep_35 Γ 5000 a1 x4 (-1 : Int32) (9 : Int32) (0 : Int32) σ4
  · refine pn_iconst dX11_keep_18 rfl ic_0 ?_
    exact pn_iretv dX11_keep_19 rfl rfl rfl

