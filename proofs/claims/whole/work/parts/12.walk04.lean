set_option maxRecDepth 20000 in
set_option maxHeartbeats 4000000 in
theorem ct_X10_rests (Γ : pn_G) (a1 : Int32) (σ : pn_S) : ∀ r, fX10_rests a1 σ = some r → pn_C Γ 6 mX10_rests [.ref 0, .int a1] σ (pn_xi r) := by
  refine pn_of (ls := [.ref 0, .int a1]) (by decide) rfl (pn_cat rfl) rfl (Nat.le_of_ble_eq_true rfl) ?_
  rw [fX10_rests]
  refine pn_aload_n dX10_rests_0 rfl rfl rfl ?_
  refine pn_iload_n dX10_rests_1 rfl rfl rfl ?_
  refine pn_cxv (fun _ _ => rfl) rfl (fun r9 h9 => pn_LKV dX10_rests_2 lm_X10_149 (ct_X10_checkPerson Γ a1 σ r9 h9) (by decide) qt_0 qk_0 rfl rfl (Nat.le_of_ble_eq_true rfl)) rfl (fun σ1 => ?_)
  refine pn_aload_n dX10_rests_5 rfl rfl rfl ?_
  refine pn_iload_n dX10_rests_6 rfl rfl rfl ?_
  refine pn_cv (fun r9 h9 => pn_LKV dX10_rests_7 lm_X10_189 (ct_X10_summonTo Γ a1 σ1 r9 h9) (by decide) qt_0 qk_0 rfl rfl (Nat.le_of_ble_eq_true rfl)) rfl (fun σ2 => ?_)
  refine pn_aload_n dX10_rests_10 rfl rfl rfl ?_
  refine pn_geta dX10_rests_11 rfl lf_X10_84_9 qt_0 qk_0 qr_0_12 qt_81 ?_
  refine pn_iconst dX10_rests_14 rfl ic_0 ?_
  refine pn_iconst dX10_rests_15 rfl ic_0 ?_
  refine pn_aload_n dX10_rests_16 rfl rfl rfl ?_
  refine pn_cp (fun r9 h9 => pn_LKV dX10_rests_17 lm_X10_192 (ct_X10_priceOf Γ σ2 r9 h9) (by decide) qt_0 qk_0 rfl rfl (Nat.le_of_ble_eq_true rfl)) rfl (fun x3 => ?_)
  refine pn_aload_n dX10_rests_20 rfl rfl rfl ?_
  refine pn_cp (fun r9 h9 => pn_LKV dX10_rests_21 lm_X10_268 (ct_X10_thirstOf Γ σ2 r9 h9) (by decide) qt_0 qk_0 rfl rfl (Nat.le_of_ble_eq_true rfl)) rfl (fun x4 => ?_)
  refine pn_cv (fun r9 h9 => pn_LKV dX10_rests_24 lm_X10_271 (ct_X1_put Γ (0 : Int32) (0 : Int32) x3 x4 σ2 r9 h9) (by decide) qt_81 qk_81 rfl rfl (Nat.le_of_ble_eq_true rfl)) rfl (fun σ5 => ?_)
  refine pn_aload_n dX10_rests_27 rfl rfl rfl ?_
  refine pn_geta dX10_rests_28 rfl lf_X10_84_9 qt_0 qk_0 qr_0_12 qt_81 ?_
  refine pn_iconst dX10_rests_31 rfl ic_1 ?_
  refine pn_iconst dX10_rests_32 rfl ic_0 ?_
  refine pn_aload_n dX10_rests_33 rfl rfl rfl ?_
  refine pn_geta dX10_rests_34 rfl lf_X10_63_9 qt_0 qk_0 qr_0_9 qt_37 ?_
  refine pn_geti dX10_rests_37 rfl lf_X10_222_0 qt_37 qk_37 qr_37_6 ?_
  refine pn_aload_n dX10_rests_40 rfl rfl rfl ?_
  refine pn_geta dX10_rests_41 rfl lf_X10_63_9 qt_0 qk_0 qr_0_9 qt_37 ?_
  refine pn_geti dX10_rests_44 rfl lf_X10_222_0 qt_37 qk_37 qr_37_6 ?_
  refine pn_cv (fun r9 h9 => pn_LKV dX10_rests_47 lm_X10_271 (ct_X1_put Γ (1 : Int32) (0 : Int32) (σ5 37 6) (σ5 37 6) σ5 r9 h9) (by decide) qt_81 qk_81 rfl rfl (Nat.le_of_ble_eq_true rfl)) rfl (fun σ6 => ?_)
  refine pn_aload_n dX10_rests_50 rfl rfl rfl ?_
  refine pn_geta dX10_rests_51 rfl lf_X10_84_9 qt_0 qk_0 qr_0_12 qt_81 ?_
  refine pn_iconst dX10_rests_54 rfl ic_2 ?_
  refine pn_iconst dX10_rests_55 rfl ic_0 ?_
  refine pn_aload_n dX10_rests_56 rfl rfl rfl ?_
  refine pn_geta dX10_rests_57 rfl lf_X10_19_9 qt_0 qk_0 qr_0_1 qt_5 ?_
  refine pn_iload_n dX10_rests_60 rfl rfl rfl ?_
  refine pn_iconst dX10_rests_61 rfl ic_4 ?_
  refine pn_cp (fun r9 h9 => pn_LKV dX10_rests_62 lm_X10_155 (ct_X8_of Γ 5 qv_5 a1 (4 : Int32) σ6 r9 h9) (by decide) qt_5 qk_5 rfl rfl (Nat.le_of_ble_eq_true rfl)) rfl (fun x7 => ?_)
  refine pn_iconst dX10_rests_65 rfl ic_m1 ?_
  refine pn_cv (fun r9 h9 => pn_LKV dX10_rests_66 lm_X10_271 (ct_X1_put Γ (2 : Int32) (0 : Int32) x7 (-1 : Int32) σ6 r9 h9) (by decide) qt_81 qk_81 rfl rfl (Nat.le_of_ble_eq_true rfl)) rfl (fun σ8 => ?_)
  refine pn_aload_n dX10_rests_69 rfl rfl rfl ?_
  refine pn_geta dX10_rests_70 rfl lf_X10_84_9 qt_0 qk_0 qr_0_12 qt_81 ?_
  refine pn_iconst dX10_rests_73 rfl ic_0 ?_
  refine pn_iconst dX10_rests_74 rfl ic_1 ?_
  refine pn_iconst dX10_rests_75 rfl ic_1 ?_
  refine pn_iconst dX10_rests_76 rfl ic_0 ?_
  refine pn_cv (fun r9 h9 => pn_LKV dX10_rests_77 lm_X10_271 (ct_X1_put Γ (0 : Int32) (1 : Int32) (1 : Int32) (0 : Int32) σ8 r9 h9) (by decide) qt_81 qk_81 rfl rfl (Nat.le_of_ble_eq_true rfl)) rfl (fun σ9 => ?_)
  refine pn_aload_n dX10_rests_80 rfl rfl rfl ?_
  refine pn_geta dX10_rests_81 rfl lf_X10_84_9 qt_0 qk_0 qr_0_12 qt_81 ?_
  refine pn_iconst dX10_rests_84 rfl ic_1 ?_
  refine pn_iconst dX10_rests_85 rfl ic_1 ?_
  refine pn_iconst dX10_rests_86 rfl ic_0 ?_
  refine pn_iconst dX10_rests_87 rfl ic_0 ?_
  refine pn_cv (fun r9 h9 => pn_LKV dX10_rests_88 lm_X10_271 (ct_X1_put Γ (1 : Int32) (1 : Int32) (0 : Int32) (0 : Int32) σ9 r9 h9) (by decide) qt_81 qk_81 rfl rfl (Nat.le_of_ble_eq_true rfl)) rfl (fun σ10 => ?_)
  refine pn_aload_n dX10_rests_91 rfl rfl rfl ?_
  refine pn_geta dX10_rests_92 rfl lf_X10_84_9 qt_0 qk_0 qr_0_12 qt_81 ?_
  refine pn_iconst dX10_rests_95 rfl ic_2 ?_
  refine pn_iconst dX10_rests_96 rfl ic_1 ?_
  refine pn_iconst dX10_rests_97 rfl ic_0 ?_
  refine pn_iconst dX10_rests_98 rfl ic_0 ?_
  refine pn_cv (fun r9 h9 => pn_LKV dX10_rests_99 lm_X10_271 (ct_X1_put Γ (2 : Int32) (1 : Int32) (0 : Int32) (0 : Int32) σ10 r9 h9) (by decide) qt_81 qk_81 rfl rfl (Nat.le_of_ble_eq_true rfl)) rfl (fun σ11 => ?_)
  refine pn_aload_n dX10_rests_102 rfl rfl rfl ?_
  refine pn_geta dX10_rests_103 rfl lf_X10_84_9 qt_0 qk_0 qr_0_12 qt_81 ?_
  refine pn_cp (fun r9 h9 => pn_LKV dX10_rests_106 lm_X10_274 (ct_X1_restingCells Γ σ11 r9 h9) (by decide) qt_81 qk_81 rfl rfl (Nat.le_of_ble_eq_true rfl)) rfl (fun x12 => ?_)
  exact pn_iretv dX10_rests_109 rfl rfl rfl

set_option maxRecDepth 20000 in
set_option maxHeartbeats 4000000 in
theorem wX10_arePairs_28 (Γ : pn_G)  (σ : pn_S) : ∀ (n9 : Nat) (l1 : Int32) (l2 : Int32), pn_W9 Γ 2 mX10_arePairs (pn_p σ) 28 [.ref 0, .int l1, .int l2, .null, .null] [] σ (fX10_arePairs_28 n9 l1 l2 σ) := by
  intro n9
  induction n9 with
  | zero => intro l1 l2; exact pn_none
  | succ n9 ih =>
    intro l1 l2
    rw [fX10_arePairs_28]
    refine pn_iload_n dX10_arePairs_28 rfl rfl rfl ?_
    refine pn_iconst dX10_arePairs_29 rfl ic_1 ?_
    refine pn_iadd dX10_arePairs_30 rfl ?_
    refine pn_aload_n dX10_arePairs_31 rfl rfl rfl ?_
    refine pn_geta dX10_arePairs_32 rfl lf_X10_12_9 qt_0 qk_0 qr_0_0 qt_1 ?_
    refine pn_geti dX10_arePairs_35 rfl lf_X10_371_6 qt_1 qk_1 qr_1_4 ?_
    refine pn_icmp_ge (tgt := 110) dX10_arePairs_38 rfl rfl (fun c3 => ?_) (fun c3 => ?_)
    · refine pn_iconst dX10_arePairs_110 rfl ic_1 ?_
      exact pn_iretv dX10_arePairs_111 rfl rfl rfl
    · refine pn_aload_n dX10_arePairs_41 rfl rfl rfl ?_
      refine pn_geta dX10_arePairs_42 rfl lf_X10_12_9 qt_0 qk_0 qr_0_0 qt_1 ?_
      refine pn_iload_n dX10_arePairs_45 rfl rfl rfl ?_
      refine pn_cp (fun r9 h9 => pn_LKV dX10_arePairs_46 lm_X10_374 (ct_X7_byteAt Γ l2 σ r9 h9) (by decide) qt_1 qk_1 rfl rfl (Nat.le_of_ble_eq_true rfl)) rfl (fun x4 => ?_)
      refine pn_istore_n (ls' := [.ref 0, .int l1, .int l2, .int x4, .null]) dX10_arePairs_49 rfl rfl (Nat.le_of_ble_eq_true rfl) rfl ?_
      refine pn_aload_n dX10_arePairs_50 rfl rfl rfl ?_
      refine pn_geta dX10_arePairs_51 rfl lf_X10_12_9 qt_0 qk_0 qr_0_0 qt_1 ?_
      refine pn_iload_n dX10_arePairs_54 rfl rfl rfl ?_
      refine pn_iconst dX10_arePairs_55 rfl ic_1 ?_
      refine pn_iadd dX10_arePairs_56 rfl ?_
      refine pn_cp (fun r9 h9 => pn_LKV dX10_arePairs_57 lm_X10_374 (ct_X7_byteAt Γ (l2 + (1 : Int32)) σ r9 h9) (by decide) qt_1 qk_1 rfl rfl (Nat.le_of_ble_eq_true rfl)) rfl (fun x5 => ?_)
      refine pn_istore (ls' := [.ref 0, .int l1, .int l2, .int x4, .int x5]) dX10_arePairs_60 rfl (Nat.le_of_ble_eq_true rfl) rfl ?_
      refine pn_aload_n dX10_arePairs_62 rfl rfl rfl ?_
      refine pn_geta dX10_arePairs_63 rfl lf_X10_19_9 qt_0 qk_0 qr_0_1 qt_5 ?_
      refine pn_iload_n dX10_arePairs_66 rfl rfl rfl ?_
      refine pn_cp (fun r9 h9 => pn_LKV dX10_arePairs_67 lm_X10_346 (ct_X8_has Γ 5 qv_5 x4 σ r9 h9) (by decide) qt_5 qk_5 rfl rfl (Nat.le_of_ble_eq_true rfl)) rfl (fun x6 => ?_)
      refine pn_if_eq (tgt := 102) dX10_arePairs_70 rfl rfl (fun c7 => ?_) (fun c7 => ?_)
      · refine pn_iconst dX10_arePairs_102 rfl ic_0 ?_
        exact pn_iretv dX10_arePairs_103 rfl rfl rfl
      · refine pn_aload_n dX10_arePairs_73 rfl rfl rfl ?_
        refine pn_geta dX10_arePairs_74 rfl lf_X10_19_9 qt_0 qk_0 qr_0_1 qt_5 ?_
        refine pn_iload dX10_arePairs_77 rfl rfl ?_
        refine pn_cp (fun r9 h9 => pn_LKV dX10_arePairs_79 lm_X10_346 (ct_X8_has Γ 5 qv_5 x5 σ r9 h9) (by decide) qt_5 qk_5 rfl rfl (Nat.le_of_ble_eq_true rfl)) rfl (fun x8 => ?_)
        refine pn_if_eq (tgt := 102) dX10_arePairs_82 rfl rfl (fun c9 => ?_) (fun c9 => ?_)
        · refine pn_iconst dX10_arePairs_102 rfl ic_0 ?_
          exact pn_iretv dX10_arePairs_103 rfl rfl rfl
        · refine pn_iload_n dX10_arePairs_85 rfl rfl rfl ?_
          refine pn_iload_n dX10_arePairs_86 rfl rfl rfl ?_
          refine pn_icmp_eq (tgt := 102) dX10_arePairs_87 rfl rfl (fun c10 => ?_) (fun c10 => ?_)
          · refine pn_iconst dX10_arePairs_102 rfl ic_0 ?_
            exact pn_iretv dX10_arePairs_103 rfl rfl rfl
          · refine pn_iload dX10_arePairs_90 rfl rfl ?_
            refine pn_iload_n dX10_arePairs_92 rfl rfl rfl ?_
            refine pn_icmp_eq (tgt := 102) dX10_arePairs_93 rfl rfl (fun c11 => ?_) (fun c11 => ?_)
            · refine pn_iconst dX10_arePairs_102 rfl ic_0 ?_
              exact pn_iretv dX10_arePairs_103 rfl rfl rfl
            · refine pn_iload_n dX10_arePairs_96 rfl rfl rfl ?_
              refine pn_iload dX10_arePairs_97 rfl rfl ?_
              refine pn_icmp_ne (tgt := 104) dX10_arePairs_99 rfl rfl (fun c12 => ?_) (fun c12 => ?_)
              · refine pn_iconst dX10_arePairs_102 rfl ic_0 ?_
                exact pn_iretv dX10_arePairs_103 rfl rfl rfl
              · refine pn_iinc (ls' := [.ref 0, .int l1, .int (l2 + (2 : Int32)), .int x4, .int x5]) dX10_arePairs_104 rfl (Nat.le_of_ble_eq_true rfl) rfl (congrArg (fun z => l2 + z) ic_2) rfl ?_
                refine pn_goto (pc' := 28) dX10_arePairs_107 rfl ?_
                exact pn_wk (pn_leC rfl (pn_leC rfl (pn_leC rfl (pn_leN (pn_leN pn_le0))))) (ih l1 (l2 + (2 : Int32)))

set_option maxRecDepth 20000 in
set_option maxHeartbeats 4000000 in
theorem ct_X10_arePairs (Γ : pn_G) (a1 : Int32) (σ : pn_S) : ∀ r, fX10_arePairs a1 σ = some r → pn_C Γ 2 mX10_arePairs [.ref 0, .int a1] σ ((pn_p σ) r) := by
  refine pn_of (ls := [.ref 0, .int a1, .null, .null, .null]) (by decide) rfl (pn_cat rfl) rfl (Nat.le_of_ble_eq_true rfl) ?_
  rw [fX10_arePairs]
  refine pn_aload_n dX10_arePairs_0 rfl rfl rfl ?_
  refine pn_geta dX10_arePairs_1 rfl lf_X10_12_9 qt_0 qk_0 qr_0_0 qt_1 ?_
  refine pn_geti dX10_arePairs_4 rfl lf_X10_371_6 qt_1 qk_1 qr_1_4 ?_
  refine pn_bipush dX10_arePairs_7 rfl bc_40 ?_
  refine pn_icmp_gt (tgt := 24) dX10_arePairs_9 rfl rfl (fun c1 => ?_) (fun c1 => ?_)
  · refine pn_iconst dX10_arePairs_24 rfl ic_0 ?_
    exact pn_iretv dX10_arePairs_25 rfl rfl rfl
  · refine pn_aload_n dX10_arePairs_12 rfl rfl rfl ?_
    refine pn_geta dX10_arePairs_13 rfl lf_X10_12_9 qt_0 qk_0 qr_0_0 qt_1 ?_
    refine pn_geti dX10_arePairs_16 rfl lf_X10_371_6 qt_1 qk_1 qr_1_4 ?_
    refine pn_iconst dX10_arePairs_19 rfl ic_2 ?_
    refine pn_iremc dX10_arePairs_20 rfl (by decide) ?_
    refine pn_if_eq (tgt := 26) dX10_arePairs_21 rfl rfl (fun c2 => ?_) (fun c2 => ?_)
    · refine pn_iconst dX10_arePairs_26 rfl ic_0 ?_
      refine pn_istore_n (ls' := [.ref 0, .int a1, .int (0 : Int32), .null, .null]) dX10_arePairs_27 rfl rfl (Nat.le_of_ble_eq_true rfl) rfl ?_
      exact wX10_arePairs_28 Γ σ 5000 a1 (0 : Int32)
    · refine pn_iconst dX10_arePairs_24 rfl ic_0 ?_
      exact pn_iretv dX10_arePairs_25 rfl rfl rfl

set_option maxRecDepth 20000 in
set_option maxHeartbeats 4000000 in
theorem ct_X6_clear (Γ : pn_G)  (σ : pn_S) : ∀ r, fX6_clear  σ = some r → pn_C Γ 2 mX6_clear [.ref 79] σ (pn_v r) := by
  refine pn_of (ls := [.ref 79]) (by decide) rfl (pn_cat rfl) rfl (Nat.le_of_ble_eq_true rfl) ?_
  rw [fX6_clear]
  refine pn_aload_n dX6_clear_0 rfl rfl rfl ?_
  refine pn_geta dX6_clear_1 rfl lf_X6_9_5 qt_79 qk_79 qr_79_0 qt_80 ?_
  refine pn_iconst dX6_clear_4 rfl ic_0 ?_
  refine pn_cv (fun r9 h9 => pn_LKS dX6_clear_5 lm_X6_22 (ct_J7_fill_53178 Γ 80 8 ⟨qt_80, qk_80, ql_80⟩ (0 : Int32) σ r9 h9) (by decide) rfl rfl (Nat.le_of_ble_eq_true rfl)) rfl (fun σ1 => ?_)
  refine pn_aload_n dX6_clear_8 rfl rfl rfl ?_
  refine pn_iconst dX6_clear_9 rfl ic_0 ?_
  refine pn_puti dX6_clear_10 rfl lf_X6_15_5 (fpi_5_1 (0 : Int32)) qt_79 qk_79 qr_79_1 ?_
  refine pn_aload_n dX6_clear_13 rfl rfl rfl ?_
  refine pn_iconst dX6_clear_14 rfl ic_0 ?_
  refine pn_puti dX6_clear_15 rfl lf_X6_19_5 (fpi_5_2 (0 : Int32)) qt_79 qk_79 qr_79_2 ?_
  exact pn_vretv dX6_clear_18 rfl rfl

set_option maxRecDepth 20000 in
set_option maxHeartbeats 4000000 in
theorem wX10_fitsPairs_11 (Γ : pn_G)  : ∀ (n9 : Nat) (l2 : Int32) (σ : pn_S), pn_W9 Γ 4 mX10_fitsPairs pn_i 11 [.ref 0, .null, .int l2, .null, .null] [] σ (fX10_fitsPairs_11 n9 l2 σ) := by
  intro n9
  induction n9 with
  | zero => intro l2 σ; exact pn_none
  | succ n9 ih =>
    intro l2 σ
    rw [fX10_fitsPairs_11]
    refine pn_iload_n dX10_fitsPairs_11 rfl rfl rfl ?_
    refine pn_iconst dX10_fitsPairs_12 rfl ic_1 ?_
    refine pn_iadd dX10_fitsPairs_13 rfl ?_
    refine pn_aload_n dX10_fitsPairs_14 rfl rfl rfl ?_
    refine pn_geta dX10_fitsPairs_15 rfl lf_X10_12_9 qt_0 qk_0 qr_0_0 qt_1 ?_
    refine pn_geti dX10_fitsPairs_18 rfl lf_X10_371_6 qt_1 qk_1 qr_1_4 ?_
    refine pn_icmp_ge (tgt := 84) dX10_fitsPairs_21 rfl rfl (fun c2 => ?_) (fun c2 => ?_)
    · refine pn_iconst dX10_fitsPairs_84 rfl ic_1 ?_
      exact pn_iretv dX10_fitsPairs_85 rfl rfl rfl
    · refine pn_aload_n dX10_fitsPairs_24 rfl rfl rfl ?_
      refine pn_geta dX10_fitsPairs_25 rfl lf_X10_63_9 qt_0 qk_0 qr_0_9 qt_37 ?_
      refine pn_aload_n dX10_fitsPairs_28 rfl rfl rfl ?_
      refine pn_geta dX10_fitsPairs_29 rfl lf_X10_12_9 qt_0 qk_0 qr_0_0 qt_1 ?_
      refine pn_iload_n dX10_fitsPairs_32 rfl rfl rfl ?_
      refine pn_cp (fun r9 h9 => pn_LKV dX10_fitsPairs_33 lm_X10_374 (ct_X7_byteAt Γ l2 σ r9 h9) (by decide) qt_1 qk_1 rfl rfl (Nat.le_of_ble_eq_true rfl)) rfl (fun x3 => ?_)
      refine pn_cp (fun r9 h9 => pn_LKV dX10_fitsPairs_36 lm_X10_218 (ct_X0_roundOf Γ x3 σ r9 h9) (by decide) qt_37 qk_37 rfl rfl (Nat.le_of_ble_eq_true rfl)) rfl (fun x4 => ?_)
      refine pn_istore_n (ls' := [.ref 0, .null, .int l2, .int x4, .null]) dX10_fitsPairs_39 rfl rfl (Nat.le_of_ble_eq_true rfl) rfl ?_
      refine pn_aload_n dX10_fitsPairs_40 rfl rfl rfl ?_
      refine pn_geta dX10_fitsPairs_41 rfl lf_X10_63_9 qt_0 qk_0 qr_0_9 qt_37 ?_
      refine pn_aload_n dX10_fitsPairs_44 rfl rfl rfl ?_
      refine pn_geta dX10_fitsPairs_45 rfl lf_X10_12_9 qt_0 qk_0 qr_0_0 qt_1 ?_
      refine pn_iload_n dX10_fitsPairs_48 rfl rfl rfl ?_
      refine pn_iconst dX10_fitsPairs_49 rfl ic_1 ?_
      refine pn_iadd dX10_fitsPairs_50 rfl ?_
      refine pn_cp (fun r9 h9 => pn_LKV dX10_fitsPairs_51 lm_X10_374 (ct_X7_byteAt Γ (l2 + (1 : Int32)) σ r9 h9) (by decide) qt_1 qk_1 rfl rfl (Nat.le_of_ble_eq_true rfl)) rfl (fun x5 => ?_)
      refine pn_cp (fun r9 h9 => pn_LKV dX10_fitsPairs_54 lm_X10_218 (ct_X0_roundOf Γ x5 σ r9 h9) (by decide) qt_37 qk_37 rfl rfl (Nat.le_of_ble_eq_true rfl)) rfl (fun x6 => ?_)
      refine pn_istore (ls' := [.ref 0, .null, .int l2, .int x4, .int x6]) dX10_fitsPairs_57 rfl (Nat.le_of_ble_eq_true rfl) rfl ?_
      refine pn_iload_n dX10_fitsPairs_59 rfl rfl rfl ?_
      refine pn_iconst dX10_fitsPairs_60 rfl ic_m1 ?_
      refine pn_icmp_eq (tgt := 76) dX10_fitsPairs_61 rfl rfl (fun c7 => ?_) (fun c7 => ?_)
      · refine pn_iconst dX10_fitsPairs_76 rfl ic_0 ?_
        exact pn_iretv dX10_fitsPairs_77 rfl rfl rfl
      · refine pn_iload dX10_fitsPairs_64 rfl rfl ?_
        refine pn_iconst dX10_fitsPairs_66 rfl ic_m1 ?_
        refine pn_icmp_eq (tgt := 76) dX10_fitsPairs_67 rfl rfl (fun c8 => ?_) (fun c8 => ?_)
        · refine pn_iconst dX10_fitsPairs_76 rfl ic_0 ?_
          exact pn_iretv dX10_fitsPairs_77 rfl rfl rfl
        · refine pn_iload_n dX10_fitsPairs_70 rfl rfl rfl ?_
          refine pn_iload dX10_fitsPairs_71 rfl rfl ?_
          refine pn_icmp_lt (tgt := 78) dX10_fitsPairs_73 rfl rfl (fun c9 => ?_) (fun c9 => ?_)
          · refine pn_iinc (ls' := [.ref 0, .null, .int (l2 + (2 : Int32)), .int x4, .int x6]) dX10_fitsPairs_78 rfl (Nat.le_of_ble_eq_true rfl) rfl (congrArg (fun z => l2 + z) ic_2) rfl ?_
            refine pn_goto (pc' := 11) dX10_fitsPairs_81 rfl ?_
            exact pn_wk (pn_leC rfl (pn_leN (pn_leC rfl (pn_leN (pn_leN pn_le0))))) (ih (l2 + (2 : Int32)) σ)
          · refine pn_iconst dX10_fitsPairs_76 rfl ic_0 ?_
            exact pn_iretv dX10_fitsPairs_77 rfl rfl rfl

set_option maxRecDepth 20000 in
set_option maxHeartbeats 4000000 in
theorem ct_X10_fitsPairs (Γ : pn_G) (a1 : Int32) (σ : pn_S) : ∀ r, fX10_fitsPairs a1 σ = some r → pn_C Γ 4 mX10_fitsPairs [.ref 0, .int a1] σ (pn_i r) := by
  refine pn_of (ls := [.ref 0, .int a1, .null, .null, .null]) (by decide) rfl (pn_cat rfl) rfl (Nat.le_of_ble_eq_true rfl) ?_
  rw [fX10_fitsPairs]
  refine pn_aload_n dX10_fitsPairs_0 rfl rfl rfl ?_
  refine pn_geta dX10_fitsPairs_1 rfl lf_X10_63_9 qt_0 qk_0 qr_0_9 qt_37 ?_
  refine pn_iload_n dX10_fitsPairs_4 rfl rfl rfl ?_
  refine pn_iconst dX10_fitsPairs_5 rfl ic_0 ?_
  refine pn_cv (fun r9 h9 => pn_LKV dX10_fitsPairs_6 lm_X10_352 (ct_X0_gather Γ a1 (0 : Int32) σ r9 h9) (by decide) qt_37 qk_37 rfl rfl (Nat.le_of_ble_eq_true rfl)) rfl (fun σ1 => ?_)
  refine pn_iconst dX10_fitsPairs_9 rfl ic_0 ?_
  refine pn_istore_n (ls' := [.ref 0, .int a1, .int (0 : Int32), .null, .null]) dX10_fitsPairs_10 rfl rfl (Nat.le_of_ble_eq_true rfl) rfl ?_
  exact pn_wk (pn_leC rfl (pn_leN (pn_leC rfl (pn_leN (pn_leN pn_le0))))) (wX10_fitsPairs_11 Γ 5000 (0 : Int32) σ1)

set_option maxRecDepth 20000 in
set_option maxHeartbeats 4000000 in
theorem wX6_add_59 (Γ : pn_G)  (rec33 : Int32 → Int32 → pn_S → Option (pn_S)) (hrec33 : ∀ (l1 : Int32) (l2 : Int32) (σ : pn_S), pn_W9 Γ 2 mX6_add pn_v 33 [.ref 79, .int l1, .int l2] [] σ (rec33 l1 l2 σ)) (l1 : Int32) (l2 : Int32) (s1 : Int32) (s2 : Int32) (s3 : Int32) (σ : pn_S) : pn_W9 Γ 2 mX6_add pn_v 59 [.ref 79, .int l1, .int l2] [.int s3, .int s2, .int s1, .ref 80] σ (fX6_add_59 rec33 l1 l2 s1 s2 s3 σ) := by
  rw [fX6_add_59]
  refine pn_iadd dX6_add_59 rfl ?_
  refine pn_iast dX6_add_60 rfl qt_80 qk_80 ql_80 ?_
  refine pn_iinc (ls' := [.ref 79, .int l1, .int (l2 + (1 : Int32))]) dX6_add_61 rfl (Nat.le_of_ble_eq_true rfl) rfl (congrArg (fun z => l2 + z) ic_1) rfl ?_
  refine pn_goto (pc' := 33) dX6_add_64 rfl ?_
  exact hrec33 l1 (l2 + (1 : Int32)) (pn_up σ 80 (Int32.toNatClampNeg s1) (s2 + s3))

set_option maxRecDepth 20000 in
set_option maxHeartbeats 4000000 in
theorem wX6_add_33 (Γ : pn_G)  : ∀ (n9 : Nat) (l1 : Int32) (l2 : Int32) (σ : pn_S), pn_W9 Γ 2 mX6_add pn_v 33 [.ref 79, .int l1, .int l2] [] σ (fX6_add_33 n9 l1 l2 σ) := by
  intro n9
  induction n9 with
  | zero => intro l1 l2 σ; exact pn_none
  | succ n9 ih =>
    intro l1 l2 σ
    rw [fX6_add_33]
    refine pn_iload_n dX6_add_33 rfl rfl rfl ?_
    refine pn_bipush dX6_add_34 rfl bc_8 ?_
    refine pn_icmp_ge (tgt := 67) dX6_add_36 rfl rfl (fun c2 => ?_) (fun c2 => ?_)
    · exact pn_vretv dX6_add_67 rfl rfl
    · refine pn_aload_n dX6_add_39 rfl rfl rfl ?_
      refine pn_geta dX6_add_40 rfl lf_X6_9_5 qt_79 qk_79 qr_79_0 qt_80 ?_
      refine pn_iload_n dX6_add_43 rfl rfl rfl ?_
      refine pn_dup2 dX6_add_44 rfl ?_
      refine pn_iald dX6_add_45 rfl qt_80 qk_80 ql_80 ?_
      refine pn_iload_n dX6_add_46 rfl rfl rfl ?_
      refine pn_iload_n dX6_add_47 rfl rfl rfl ?_
      refine pn_cp (fun r9 h9 => pn_LKN dX6_add_48 lm_X6_28 rfl (ct_X10_hasBit Γ l1 l2 σ r9 h9) (by decide) rfl rfl (Nat.le_of_ble_eq_true rfl)) rfl (fun x3 => ?_)
      refine pn_if_eq (tgt := 58) dX6_add_51 rfl rfl (fun c4 => ?_) (fun c4 => ?_)
      · refine pn_iconst dX6_add_58 rfl ic_0 ?_
        exact wX6_add_59 Γ (fX6_add_33 n9) (ih) l1 l2 l2 (σ 80 (Int32.toNatClampNeg l2)) (0 : Int32) σ
      · refine pn_iconst dX6_add_54 rfl ic_1 ?_
        refine pn_goto (pc' := 59) dX6_add_55 rfl ?_
        exact wX6_add_59 Γ (fX6_add_33 n9) (ih) l1 l2 l2 (σ 80 (Int32.toNatClampNeg l2)) (1 : Int32) σ

set_option maxRecDepth 20000 in
set_option maxHeartbeats 4000000 in
theorem wX6_add_18 (Γ : pn_G)  (l1 : Int32) (s1 : Int32) (σ : pn_S) : pn_W9 Γ 2 mX6_add pn_v 18 [.ref 79, .int l1, .null] [.int s1, .ref 79] σ (fX6_add_18 l1 s1 σ) := by
  rw [fX6_add_18]
  refine pn_puti dX6_add_18 rfl lf_X6_19_5 (fpi_5_2 s1) qt_79 qk_79 qr_79_2 ?_
  refine pn_aload_n dX6_add_21 rfl rfl rfl ?_
  refine pn_dupa dX6_add_22 rfl ?_
  refine pn_geti dX6_add_23 rfl lf_X6_15_5 qt_79 qk_79 qr_79_1 ?_
  refine pn_iconst dX6_add_26 rfl ic_1 ?_
  refine pn_iadd dX6_add_27 rfl ?_
  refine pn_puti dX6_add_28 rfl lf_X6_15_5 (fpi_5_1 (((pn_up σ 79 2 s1) 79 1) + (1 : Int32))) qt_79 qk_79 qr_79_1 ?_
  refine pn_iconst dX6_add_31 rfl ic_0 ?_
  refine pn_istore_n (ls' := [.ref 79, .int l1, .int (0 : Int32)]) dX6_add_32 rfl rfl (Nat.le_of_ble_eq_true rfl) rfl ?_
  exact wX6_add_33 Γ 5000 l1 (0 : Int32) (pn_up (pn_up σ 79 2 s1) 79 1 (((pn_up σ 79 2 s1) 79 1) + (1 : Int32)))

set_option maxRecDepth 20000 in
set_option maxHeartbeats 4000000 in
theorem ct_X6_add (Γ : pn_G) (a1 : Int32) (σ : pn_S) : ∀ r, fX6_add a1 σ = some r → pn_C Γ 2 mX6_add [.ref 79, .int a1] σ (pn_v r) := by
  refine pn_of (ls := [.ref 79, .int a1, .null]) (by decide) rfl (pn_cat rfl) rfl (Nat.le_of_ble_eq_true rfl) ?_
  rw [fX6_add]
  refine pn_aload_n dX6_add_0 rfl rfl rfl ?_
  refine pn_aload_n dX6_add_1 rfl rfl rfl ?_
  refine pn_geti dX6_add_2 rfl lf_X6_15_5 qt_79 qk_79 qr_79_1 ?_
  refine pn_if_ne (tgt := 12) dX6_add_5 rfl rfl (fun c1 => ?_) (fun c1 => ?_)
  · refine pn_iload_n dX6_add_8 rfl rfl rfl ?_
    refine pn_goto (pc' := 18) dX6_add_9 rfl ?_
    exact wX6_add_18 Γ a1 a1 σ
  · refine pn_aload_n dX6_add_12 rfl rfl rfl ?_
    refine pn_geti dX6_add_13 rfl lf_X6_19_5 qt_79 qk_79 qr_79_2 ?_
    refine pn_iload_n dX6_add_16 rfl rfl rfl ?_
    refine pn_iand dX6_add_17 rfl ?_
    exact wX6_add_18 Γ a1 ((σ 79 2) &&& a1) σ

set_option maxRecDepth 20000 in
set_option maxHeartbeats 4000000 in
theorem wX10_findSets_61 (Γ : pn_G)  : ∀ (n9 : Nat) (l2 : Int32) (l3 : Int32) (σ : pn_S), pn_W9 Γ 5 mX10_findSets pn_xv 61 [.ref 0, .null, .int l2, .int l3] [] σ (fX10_findSets_61 n9 l2 l3 σ) := by
  intro n9
  induction n9 with
  | zero => intro l2 l3 σ; exact pn_none
  | succ n9 ih =>
    intro l2 l3 σ
    rw [fX10_findSets_61]
    refine pn_iload_n dX10_findSets_61 rfl rfl rfl ?_
    refine pn_iload_n dX10_findSets_62 rfl rfl rfl ?_
    refine pn_icmp_gt (tgt := 96) dX10_findSets_63 rfl rfl (fun c7 => ?_) (fun c7 => ?_)
    · exact pn_vretv dX10_findSets_96 rfl rfl
    · refine pn_iload_n dX10_findSets_66 rfl rfl rfl ?_
      refine pn_iload_n dX10_findSets_67 rfl rfl rfl ?_
      refine pn_cp (fun r9 h9 => pn_LKS dX10_findSets_68 lm_X10_232 (ct_X10_isPart Γ l3 l2 σ r9 h9) (by decide) rfl rfl (Nat.le_of_ble_eq_true rfl)) rfl (fun x8 => ?_)
      refine pn_if_eq (tgt := 90) dX10_findSets_71 rfl rfl (fun c9 => ?_) (fun c9 => ?_)
      · refine pn_iinc (ls' := [.ref 0, .null, .int l2, .int (l3 + (1 : Int32))]) dX10_findSets_90 rfl (Nat.le_of_ble_eq_true rfl) rfl (congrArg (fun z => l3 + z) ic_1) rfl ?_
        refine pn_goto (pc' := 61) dX10_findSets_93 rfl ?_
        exact ih l2 (l3 + (1 : Int32)) σ
      · refine pn_aload_n dX10_findSets_74 rfl rfl rfl ?_
        refine pn_iload_n dX10_findSets_75 rfl rfl rfl ?_
        refine pn_ci (fun r9 h9 => pn_LKV dX10_findSets_76 lm_X10_365 (ct_X10_fitsPairs Γ l3 σ r9 h9) (by decide) qt_0 qk_0 rfl rfl (Nat.le_of_ble_eq_true rfl)) rfl (fun x10 σ10 => ?_)
        refine pn_if_eq (tgt := 90) dX10_findSets_79 rfl rfl (fun c11 => ?_) (fun c11 => ?_)
        · refine pn_iinc (ls' := [.ref 0, .null, .int l2, .int (l3 + (1 : Int32))]) dX10_findSets_90 rfl (Nat.le_of_ble_eq_true rfl) rfl (congrArg (fun z => l3 + z) ic_1) rfl ?_
          refine pn_goto (pc' := 61) dX10_findSets_93 rfl ?_
          exact ih l2 (l3 + (1 : Int32)) σ10
        · refine pn_aload_n dX10_findSets_82 rfl rfl rfl ?_
          refine pn_geta dX10_findSets_83 rfl lf_X10_77_9 qt_0 qk_0 qr_0_11 qt_79 ?_
          refine pn_iload_n dX10_findSets_86 rfl rfl rfl ?_
          refine pn_cv (fun r9 h9 => pn_LKV dX10_findSets_87 lm_X10_368 (ct_X6_add Γ l3 σ10 r9 h9) (by decide) qt_79 qk_79 rfl rfl (Nat.le_of_ble_eq_true rfl)) rfl (fun σ12 => ?_)
          refine pn_iinc (ls' := [.ref 0, .null, .int l2, .int (l3 + (1 : Int32))]) dX10_findSets_90 rfl (Nat.le_of_ble_eq_true rfl) rfl (congrArg (fun z => l3 + z) ic_1) rfl ?_
          refine pn_goto (pc' := 61) dX10_findSets_93 rfl ?_
          exact ih l2 (l3 + (1 : Int32)) σ12

set_option maxRecDepth 20000 in
set_option maxHeartbeats 4000000 in
theorem ct_X10_findSets (Γ : pn_G) (a1 : Int32) (σ : pn_S) : ∀ r, fX10_findSets a1 σ = some r → pn_C Γ 5 mX10_findSets [.ref 0, .int a1] σ (pn_xv r) := by
  refine pn_of (ls := [.ref 0, .int a1, .null, .null]) (by decide) rfl (pn_cat rfl) rfl (Nat.le_of_ble_eq_true rfl) ?_
  rw [fX10_findSets]
  refine pn_aload_n dX10_findSets_0 rfl rfl rfl ?_
  refine pn_geta dX10_findSets_1 rfl lf_X10_12_9 qt_0 qk_0 qr_0_0 qt_1 ?_
  refine pn_cv (fun r9 h9 => pn_LKV dX10_findSets_4 lm_X10_111 (ct_X7_useUp Γ σ r9 h9) (by decide) qt_1 qk_1 rfl rfl (Nat.le_of_ble_eq_true rfl)) rfl (fun σ1 => ?_)
  refine pn_aload_n dX10_findSets_7 rfl rfl rfl ?_
  refine pn_iload_n dX10_findSets_8 rfl rfl rfl ?_
  refine pn_cxv (fun _ _ => rfl) rfl (fun r9 h9 => pn_LKV dX10_findSets_9 lm_X10_149 (ct_X10_checkPerson Γ a1 σ1 r9 h9) (by decide) qt_0 qk_0 rfl rfl (Nat.le_of_ble_eq_true rfl)) rfl (fun σ2 => ?_)
  refine pn_aload_n dX10_findSets_12 rfl rfl rfl ?_
  refine pn_iload_n dX10_findSets_13 rfl rfl rfl ?_
  refine pn_cp (fun r9 h9 => pn_LKV dX10_findSets_14 lm_X10_361 (ct_X10_arePairs Γ a1 σ2 r9 h9) (by decide) qt_0 qk_0 rfl rfl (Nat.le_of_ble_eq_true rfl)) rfl (fun x3 => ?_)
  refine pn_if_ne (tgt := 28) dX10_findSets_17 rfl rfl (fun c4 => ?_) (fun c4 => ?_)
  · exact pn_throw (fun _ _ => rfl) rfl th_X10_127 dX10_findSets_20 dX10_findSets_23 dX10_findSets_24 dX10_findSets_27
  · refine pn_aload_n dX10_findSets_28 rfl rfl rfl ?_
    refine pn_geta dX10_findSets_29 rfl lf_X10_63_9 qt_0 qk_0 qr_0_9 qt_37 ?_
    refine pn_aload_n dX10_findSets_32 rfl rfl rfl ?_
    refine pn_geta dX10_findSets_33 rfl lf_X10_19_9 qt_0 qk_0 qr_0_1 qt_5 ?_
    refine pn_aload_n dX10_findSets_36 rfl rfl rfl ?_
    refine pn_geta dX10_findSets_37 rfl lf_X10_32_9 qt_0 qk_0 qr_0_4 qt_14 ?_
    refine pn_iload_n dX10_findSets_40 rfl rfl rfl ?_
    refine pn_cv (fun r9 h9 => pn_LKV dX10_findSets_41 lm_X10_225 (ct_X0_invite Γ 5 qv_5 14 qw_14 a1 σ2 r9 h9) (by decide) qt_37 qk_37 rfl rfl (Nat.le_of_ble_eq_true rfl)) rfl (fun σ5 => ?_)
    refine pn_aload_n dX10_findSets_44 rfl rfl rfl ?_
    refine pn_geta dX10_findSets_45 rfl lf_X10_63_9 qt_0 qk_0 qr_0_9 qt_37 ?_
    refine pn_geti dX10_findSets_48 rfl lf_X10_229_0 qt_37 qk_37 qr_37_3 ?_
    refine pn_istore_n (ls' := [.ref 0, .int a1, .int (σ5 37 3), .null]) dX10_findSets_51 rfl rfl (Nat.le_of_ble_eq_true rfl) rfl ?_
    refine pn_aload_n dX10_findSets_52 rfl rfl rfl ?_
    refine pn_geta dX10_findSets_53 rfl lf_X10_77_9 qt_0 qk_0 qr_0_11 qt_79 ?_
    refine pn_cv (fun r9 h9 => pn_LKV dX10_findSets_56 lm_X10_364 (ct_X6_clear Γ σ5 r9 h9) (by decide) qt_79 qk_79 rfl rfl (Nat.le_of_ble_eq_true rfl)) rfl (fun σ6 => ?_)
    refine pn_iconst dX10_findSets_59 rfl ic_0 ?_
    refine pn_istore_n (ls' := [.ref 0, .int a1, .int (σ5 37 3), .int (0 : Int32)]) dX10_findSets_60 rfl rfl (Nat.le_of_ble_eq_true rfl) rfl ?_
    exact pn_wk (pn_leC rfl (pn_leN (pn_leC rfl (pn_leC rfl pn_le0)))) (wX10_findSets_61 Γ 5000 (σ5 37 3) (0 : Int32) σ6)

set_option maxRecDepth 20000 in
set_option maxHeartbeats 4000000 in
theorem ct_X10_heard (Γ : pn_G) (a1 : Int32) (a2 : Int32) (σ : pn_S) : ∀ r, fX10_heard a1 a2 σ = some r → pn_C Γ 6 mX10_heard [.ref 0, .int a1, .int a2] σ (pn_xi r) := by
  refine pn_of (ls := [.ref 0, .int a1, .int a2]) (by decide) rfl (pn_cat rfl) rfl (Nat.le_of_ble_eq_true rfl) ?_
  rw [fX10_heard]
  refine pn_aload_n dX10_heard_0 rfl rfl rfl ?_
  refine pn_iload_n dX10_heard_1 rfl rfl rfl ?_
  refine pn_cxv (fun _ _ => rfl) rfl (fun r9 h9 => pn_LKV dX10_heard_2 lm_X10_277 (ct_X10_findSets Γ a1 σ r9 h9) (by decide) qt_0 qk_0 rfl rfl (Nat.le_of_ble_eq_true rfl)) rfl (fun σ1 => ?_)
  refine pn_iload_n dX10_heard_5 rfl rfl rfl ?_
  refine pn_if_eq (tgt := 19) dX10_heard_6 rfl rfl (fun c2 => ?_) (fun c2 => ?_)
  · refine pn_aload_n dX10_heard_19 rfl rfl rfl ?_
    refine pn_geta dX10_heard_20 rfl lf_X10_77_9 qt_0 qk_0 qr_0_11 qt_79 ?_
    refine pn_geti dX10_heard_23 rfl lf_X10_283_5 qt_79 qk_79 qr_79_1 ?_
    exact pn_iretv dX10_heard_26 rfl rfl rfl
  · refine pn_aload_n dX10_heard_9 rfl rfl rfl ?_
    refine pn_geta dX10_heard_10 rfl lf_X10_77_9 qt_0 qk_0 qr_0_11 qt_79 ?_
    refine pn_geti dX10_heard_13 rfl lf_X10_280_5 qt_79 qk_79 qr_79_2 ?_
    refine pn_goto (pc' := 26) dX10_heard_16 rfl ?_
    exact pn_iretv dX10_heard_26 rfl rfl rfl

set_option maxRecDepth 20000 in
set_option maxHeartbeats 4000000 in
theorem wX6_bestToAsk_69 (Γ : pn_G)  (σ : pn_S) (rec10 : Int32 → Int32 → Int32 → Int32 → pn_S → Option (Int32)) (hrec10 : ∀ (l1 : Int32) (l2 : Int32) (l3 : Int32) (l4 : Int32), pn_W9 Γ 2 mX6_bestToAsk (pn_p σ) 10 [.ref 79, .int l1, .int l2, .int l3, .int l4, .null] [] σ (rec10 l1 l2 l3 l4 σ)) (l1 : Int32) (l4 : Int32) (l5 : Int32) : pn_W9 Γ 2 mX6_bestToAsk (pn_p σ) 69 [.ref 79, .int l1, .null, .null, .int l4, .int l5] [] σ (fX6_bestToAsk_69 rec10 l1 l4 l5 σ) := by
  rw [fX6_bestToAsk_69]
  refine pn_iload dX6_bestToAsk_69 rfl rfl ?_
  refine pn_istore_n (ls' := [.ref 79, .int l1, .null, .int l5, .int l4, .int l5]) dX6_bestToAsk_71 rfl rfl (Nat.le_of_ble_eq_true rfl) rfl ?_
  refine pn_iload dX6_bestToAsk_72 rfl rfl ?_
  refine pn_istore_n (ls' := [.ref 79, .int l1, .int l4, .int l5, .int l4, .int l5]) dX6_bestToAsk_74 rfl rfl (Nat.le_of_ble_eq_true rfl) rfl ?_
  refine pn_iinc (ls' := [.ref 79, .int l1, .int l4, .int l5, .int (l4 + (1 : Int32)), .int l5]) dX6_bestToAsk_75 rfl (Nat.le_of_ble_eq_true rfl) rfl (congrArg (fun z => l4 + z) ic_1) rfl ?_
  refine pn_goto (pc' := 10) dX6_bestToAsk_78 rfl ?_
  exact pn_wk (pn_leC rfl (pn_leC rfl (pn_leC rfl (pn_leC rfl (pn_leC rfl (pn_leN pn_le0)))))) (hrec10 l1 l4 l5 (l4 + (1 : Int32)))

set_option maxRecDepth 20000 in
set_option maxHeartbeats 4000000 in
theorem wX6_bestToAsk_10 (Γ : pn_G)  (σ : pn_S) : ∀ (n9 : Nat) (l1 : Int32) (l2 : Int32) (l3 : Int32) (l4 : Int32), pn_W9 Γ 2 mX6_bestToAsk (pn_p σ) 10 [.ref 79, .int l1, .int l2, .int l3, .int l4, .null] [] σ (fX6_bestToAsk_10 n9 l1 l2 l3 l4 σ) := by
  intro n9
  induction n9 with
  | zero => intro l1 l2 l3 l4; exact pn_none
  | succ n9 ih =>
    intro l1 l2 l3 l4
    rw [fX6_bestToAsk_10]
    refine pn_iload dX6_bestToAsk_10 rfl rfl ?_
    refine pn_bipush dX6_bestToAsk_12 rfl bc_8 ?_
    refine pn_icmp_ge (tgt := 81) dX6_bestToAsk_14 rfl rfl (fun c1 => ?_) (fun c1 => ?_)
    · refine pn_iload_n dX6_bestToAsk_81 rfl rfl rfl ?_
      exact pn_iretv dX6_bestToAsk_82 rfl rfl rfl
    · refine pn_aload_n dX6_bestToAsk_17 rfl rfl rfl ?_
      refine pn_geti dX6_bestToAsk_18 rfl lf_X6_15_5 qt_79 qk_79 qr_79_1 ?_
      refine pn_iconst dX6_bestToAsk_21 rfl ic_2 ?_
      refine pn_icmp_lt (tgt := 81) dX6_bestToAsk_22 rfl rfl (fun c2 => ?_) (fun c2 => ?_)
      · refine pn_iload_n dX6_bestToAsk_81 rfl rfl rfl ?_
        exact pn_iretv dX6_bestToAsk_82 rfl rfl rfl
      · refine pn_aload_n dX6_bestToAsk_25 rfl rfl rfl ?_
        refine pn_geta dX6_bestToAsk_26 rfl lf_X6_9_5 qt_79 qk_79 qr_79_0 qt_80 ?_
        refine pn_iload dX6_bestToAsk_29 rfl rfl ?_
        refine pn_iald dX6_bestToAsk_31 rfl qt_80 qk_80 ql_80 ?_
        refine pn_aload_n dX6_bestToAsk_32 rfl rfl rfl ?_
        refine pn_geti dX6_bestToAsk_33 rfl lf_X6_15_5 qt_79 qk_79 qr_79_1 ?_
        refine pn_aload_n dX6_bestToAsk_36 rfl rfl rfl ?_
        refine pn_geta dX6_bestToAsk_37 rfl lf_X6_9_5 qt_79 qk_79 qr_79_0 qt_80 ?_
        refine pn_iload dX6_bestToAsk_40 rfl rfl ?_
        refine pn_iald dX6_bestToAsk_42 rfl qt_80 qk_80 ql_80 ?_
        refine pn_isub dX6_bestToAsk_43 rfl ?_
        refine pn_cp (fun r9 h9 => pn_LKS dX6_bestToAsk_44 lm_X6_32 (ct_J9_max_7cf53 Γ (σ 80 (Int32.toNatClampNeg l4)) ((σ 79 1) - (σ 80 (Int32.toNatClampNeg l4))) σ r9 h9) (by decide) rfl rfl (Nat.le_of_ble_eq_true rfl)) rfl (fun x3 => ?_)
        refine pn_istore (ls' := [.ref 79, .int l1, .int l2, .int l3, .int l4, .int x3]) dX6_bestToAsk_47 rfl (Nat.le_of_ble_eq_true rfl) rfl ?_
        refine pn_iload_n dX6_bestToAsk_49 rfl rfl rfl ?_
        refine pn_iload dX6_bestToAsk_50 rfl rfl ?_
        refine pn_cp (fun r9 h9 => pn_LKN dX6_bestToAsk_52 lm_X6_28 rfl (ct_X10_hasBit Γ l1 l4 σ r9 h9) (by decide) rfl rfl (Nat.le_of_ble_eq_true rfl)) rfl (fun x4 => ?_)
        refine pn_if_eq (tgt := 75) dX6_bestToAsk_55 rfl rfl (fun c5 => ?_) (fun c5 => ?_)
        · refine pn_iinc (ls' := [.ref 79, .int l1, .int l2, .int l3, .int (l4 + (1 : Int32)), .int x3]) dX6_bestToAsk_75 rfl (Nat.le_of_ble_eq_true rfl) rfl (congrArg (fun z => l4 + z) ic_1) rfl ?_
          refine pn_goto (pc' := 10) dX6_bestToAsk_78 rfl ?_
          exact pn_wk (pn_leC rfl (pn_leC rfl (pn_leC rfl (pn_leC rfl (pn_leC rfl (pn_leN pn_le0)))))) (ih l1 l2 l3 (l4 + (1 : Int32)))
        · refine pn_iload_n dX6_bestToAsk_58 rfl rfl rfl ?_
          refine pn_iconst dX6_bestToAsk_59 rfl ic_m1 ?_
          refine pn_icmp_eq (tgt := 69) dX6_bestToAsk_60 rfl rfl (fun c6 => ?_) (fun c6 => ?_)
          · exact pn_wk (pn_leC rfl (pn_leC rfl (pn_leN (pn_leN (pn_leC rfl (pn_leC rfl pn_le0)))))) (wX6_bestToAsk_69 Γ σ (fX6_bestToAsk_10 n9) (ih) l1 l4 x3)
          · refine pn_iload dX6_bestToAsk_63 rfl rfl ?_
            refine pn_iload_n dX6_bestToAsk_65 rfl rfl rfl ?_
            refine pn_icmp_ge (tgt := 75) dX6_bestToAsk_66 rfl rfl (fun c7 => ?_) (fun c7 => ?_)
            · refine pn_iinc (ls' := [.ref 79, .int l1, .int l2, .int l3, .int (l4 + (1 : Int32)), .int x3]) dX6_bestToAsk_75 rfl (Nat.le_of_ble_eq_true rfl) rfl (congrArg (fun z => l4 + z) ic_1) rfl ?_
              refine pn_goto (pc' := 10) dX6_bestToAsk_78 rfl ?_
              exact pn_wk (pn_leC rfl (pn_leC rfl (pn_leC rfl (pn_leC rfl (pn_leC rfl (pn_leN pn_le0)))))) (ih l1 l2 l3 (l4 + (1 : Int32)))
            · exact pn_wk (pn_leC rfl (pn_leC rfl (pn_leN (pn_leN (pn_leC rfl (pn_leC rfl pn_le0)))))) (wX6_bestToAsk_69 Γ σ (fX6_bestToAsk_10 n9) (ih) l1 l4 x3)

set_option maxRecDepth 20000 in
set_option maxHeartbeats 4000000 in
theorem ct_X6_bestToAsk (Γ : pn_G) (a1 : Int32) (σ : pn_S) : ∀ r, fX6_bestToAsk a1 σ = some r → pn_C Γ 2 mX6_bestToAsk [.ref 79, .int a1] σ ((pn_p σ) r) := by
  refine pn_of (ls := [.ref 79, .int a1, .null, .null, .null, .null]) (by decide) rfl (pn_cat rfl) rfl (Nat.le_of_ble_eq_true rfl) ?_
  rw [fX6_bestToAsk]
  refine pn_iconst dX6_bestToAsk_0 rfl ic_m1 ?_
  refine pn_istore_n (ls' := [.ref 79, .int a1, .int (-1 : Int32), .null, .null, .null]) dX6_bestToAsk_1 rfl rfl (Nat.le_of_ble_eq_true rfl) rfl ?_
  refine pn_aload_n dX6_bestToAsk_2 rfl rfl rfl ?_
  refine pn_geti dX6_bestToAsk_3 rfl lf_X6_15_5 qt_79 qk_79 qr_79_1 ?_
  refine pn_istore_n (ls' := [.ref 79, .int a1, .int (-1 : Int32), .int (σ 79 1), .null, .null]) dX6_bestToAsk_6 rfl rfl (Nat.le_of_ble_eq_true rfl) rfl ?_
  refine pn_iconst dX6_bestToAsk_7 rfl ic_0 ?_
  refine pn_istore (ls' := [.ref 79, .int a1, .int (-1 : Int32), .int (σ 79 1), .int (0 : Int32), .null]) dX6_bestToAsk_8 rfl (Nat.le_of_ble_eq_true rfl) rfl ?_
  exact wX6_bestToAsk_10 Γ σ 5000 a1 (-1 : Int32) (σ 79 1) (0 : Int32)

set_option maxRecDepth 20000 in
set_option maxHeartbeats 4000000 in
theorem ct_X10_ask (Γ : pn_G) (a1 : Int32) (σ : pn_S) : ∀ r, fX10_ask a1 σ = some r → pn_C Γ 6 mX10_ask [.ref 0, .int a1] σ (pn_xi r) := by
  refine pn_of (ls := [.ref 0, .int a1]) (by decide) rfl (pn_cat rfl) rfl (Nat.le_of_ble_eq_true rfl) ?_
  rw [fX10_ask]
  refine pn_aload_n dX10_ask_0 rfl rfl rfl ?_
  refine pn_iload_n dX10_ask_1 rfl rfl rfl ?_
  refine pn_cxv (fun _ _ => rfl) rfl (fun r9 h9 => pn_LKV dX10_ask_2 lm_X10_277 (ct_X10_findSets Γ a1 σ r9 h9) (by decide) qt_0 qk_0 rfl rfl (Nat.le_of_ble_eq_true rfl)) rfl (fun σ1 => ?_)
  refine pn_aload_n dX10_ask_5 rfl rfl rfl ?_
  refine pn_geta dX10_ask_6 rfl lf_X10_77_9 qt_0 qk_0 qr_0_11 qt_79 ?_
  refine pn_aload_n dX10_ask_9 rfl rfl rfl ?_
  refine pn_geta dX10_ask_10 rfl lf_X10_63_9 qt_0 qk_0 qr_0_9 qt_37 ?_
  refine pn_geti dX10_ask_13 rfl lf_X10_229_0 qt_37 qk_37 qr_37_3 ?_
  refine pn_cp (fun r9 h9 => pn_LKV dX10_ask_16 lm_X10_286 (ct_X6_bestToAsk Γ (σ1 37 3) σ1 r9 h9) (by decide) qt_79 qk_79 rfl rfl (Nat.le_of_ble_eq_true rfl)) rfl (fun x2 => ?_)
  exact pn_iretv dX10_ask_19 rfl rfl rfl

set_option maxRecDepth 20000 in
set_option maxHeartbeats 4000000 in
theorem wX10_feuded_14 (Γ : pn_G)  : ∀ (n9 : Nat) (l1 : Int32) (l2 : Int32) (l3 : Int32) (σ : pn_S), pn_W9 Γ 6 mX10_feuded pn_xi 14 [.ref 0, .int l1, .int l2, .int l3] [] σ (fX10_feuded_14 n9 l1 l2 l3 σ) := by
  intro n9
  induction n9 with
  | zero => intro l1 l2 l3 σ; exact pn_none
  | succ n9 ih =>
    intro l1 l2 l3 σ
    rw [fX10_feuded_14]
    refine pn_iload_n dX10_feuded_14 rfl rfl rfl ?_
    refine pn_aload_n dX10_feuded_15 rfl rfl rfl ?_
    refine pn_geta dX10_feuded_16 rfl lf_X10_19_9 qt_0 qk_0 qr_0_1 qt_5 ?_
    refine pn_geti dX10_feuded_19 rfl lf_X10_250_7 qt_5 qk_5 qr_5_2 ?_
    refine pn_icmp_ge (tgt := 64) dX10_feuded_22 rfl rfl (fun c3 => ?_) (fun c3 => ?_)
    · refine pn_iload_n dX10_feuded_64 rfl rfl rfl ?_
      exact pn_iretv dX10_feuded_65 rfl rfl rfl
    · refine pn_aload_n dX10_feuded_25 rfl rfl rfl ?_
      refine pn_geta dX10_feuded_26 rfl lf_X10_63_9 qt_0 qk_0 qr_0_9 qt_37 ?_
      refine pn_geti dX10_feuded_29 rfl lf_X10_212_0 qt_37 qk_37 qr_37_4 ?_
      refine pn_iload_n dX10_feuded_32 rfl rfl rfl ?_
      refine pn_cp (fun r9 h9 => pn_LKS dX10_feuded_33 lm_X10_253 (ct_X10_hasBit Γ (σ 37 4) l3 σ r9 h9) (by decide) rfl rfl (Nat.le_of_ble_eq_true rfl)) rfl (fun x4 => ?_)
      refine pn_if_eq (tgt := 58) dX10_feuded_36 rfl rfl (fun c5 => ?_) (fun c5 => ?_)
      · refine pn_iinc (ls' := [.ref 0, .int l1, .int l2, .int (l3 + (1 : Int32))]) dX10_feuded_58 rfl (Nat.le_of_ble_eq_true rfl) rfl (congrArg (fun z => l3 + z) ic_1) rfl ?_
        refine pn_goto (pc' := 14) dX10_feuded_61 rfl ?_
        exact ih l1 l2 (l3 + (1 : Int32)) σ
      · refine pn_aload_n dX10_feuded_39 rfl rfl rfl ?_
        refine pn_geta dX10_feuded_40 rfl lf_X10_19_9 qt_0 qk_0 qr_0_1 qt_5 ?_
        refine pn_iload_n dX10_feuded_43 rfl rfl rfl ?_
        refine pn_iconst dX10_feuded_44 rfl ic_5 ?_
        refine pn_cp (fun r9 h9 => pn_LKV dX10_feuded_45 lm_X10_155 (ct_X8_of Γ 5 qv_5 l3 (5 : Int32) σ r9 h9) (by decide) qt_5 qk_5 rfl rfl (Nat.le_of_ble_eq_true rfl)) rfl (fun x6 => ?_)
        refine pn_iload_n dX10_feuded_48 rfl rfl rfl ?_
        refine pn_icmp_ne (tgt := 58) dX10_feuded_49 rfl rfl (fun c7 => ?_) (fun c7 => ?_)
        · refine pn_iload_n dX10_feuded_52 rfl rfl rfl ?_
          refine pn_iconst dX10_feuded_53 rfl ic_1 ?_
          refine pn_iload_n dX10_feuded_54 rfl rfl rfl ?_
          refine pn_ishl dX10_feuded_55 rfl ?_
          refine pn_ior dX10_feuded_56 rfl ?_
          refine pn_istore_n (ls' := [.ref 0, .int l1, .int (l2 ||| ((1 : Int32) <<< (l3 &&& 31))), .int l3]) dX10_feuded_57 rfl rfl (Nat.le_of_ble_eq_true rfl) rfl ?_
          refine pn_iinc (ls' := [.ref 0, .int l1, .int (l2 ||| ((1 : Int32) <<< (l3 &&& 31))), .int (l3 + (1 : Int32))]) dX10_feuded_58 rfl (Nat.le_of_ble_eq_true rfl) rfl (congrArg (fun z => l3 + z) ic_1) rfl ?_
          refine pn_goto (pc' := 14) dX10_feuded_61 rfl ?_
          exact ih l1 (l2 ||| ((1 : Int32) <<< (l3 &&& 31))) (l3 + (1 : Int32)) σ
        · refine pn_iinc (ls' := [.ref 0, .int l1, .int l2, .int (l3 + (1 : Int32))]) dX10_feuded_58 rfl (Nat.le_of_ble_eq_true rfl) rfl (congrArg (fun z => l3 + z) ic_1) rfl ?_
          refine pn_goto (pc' := 14) dX10_feuded_61 rfl ?_
          exact ih l1 l2 (l3 + (1 : Int32)) σ

set_option maxRecDepth 20000 in
set_option maxHeartbeats 4000000 in
theorem ct_X10_feuded (Γ : pn_G) (a1 : Int32) (σ : pn_S) : ∀ r, fX10_feuded a1 σ = some r → pn_C Γ 6 mX10_feuded [.ref 0, .int a1] σ (pn_xi r) := by
  refine pn_of (ls := [.ref 0, .int a1, .null, .null]) (by decide) rfl (pn_cat rfl) rfl (Nat.le_of_ble_eq_true rfl) ?_
  rw [fX10_feuded]
  refine pn_aload_n dX10_feuded_0 rfl rfl rfl ?_
  refine pn_iload_n dX10_feuded_1 rfl rfl rfl ?_
  refine pn_cxv (fun _ _ => rfl) rfl (fun r9 h9 => pn_LKV dX10_feuded_2 lm_X10_149 (ct_X10_checkPerson Γ a1 σ r9 h9) (by decide) qt_0 qk_0 rfl rfl (Nat.le_of_ble_eq_true rfl)) rfl (fun σ1 => ?_)
  refine pn_aload_n dX10_feuded_5 rfl rfl rfl ?_
  refine pn_iload_n dX10_feuded_6 rfl rfl rfl ?_
  refine pn_cv (fun r9 h9 => pn_LKV dX10_feuded_7 lm_X10_189 (ct_X10_summonTo Γ a1 σ1 r9 h9) (by decide) qt_0 qk_0 rfl rfl (Nat.le_of_ble_eq_true rfl)) rfl (fun σ2 => ?_)
  refine pn_iconst dX10_feuded_10 rfl ic_0 ?_
  refine pn_istore_n (ls' := [.ref 0, .int a1, .int (0 : Int32), .null]) dX10_feuded_11 rfl rfl (Nat.le_of_ble_eq_true rfl) rfl ?_
  refine pn_iconst dX10_feuded_12 rfl ic_0 ?_
  refine pn_istore_n (ls' := [.ref 0, .int a1, .int (0 : Int32), .int (0 : Int32)]) dX10_feuded_13 rfl rfl (Nat.le_of_ble_eq_true rfl) rfl ?_
  exact wX10_feuded_14 Γ 5000 a1 (0 : Int32) (0 : Int32) σ2

set_option maxRecDepth 20000 in
set_option maxHeartbeats 4000000 in
theorem wX10_feuds_4 (Γ : pn_G)  (σ : pn_S) : ∀ (n9 : Nat) (l1 : Int32) (l2 : Int32), pn_W9 Γ 2 mX10_feuds (pn_p σ) 4 [.ref 0, .int l1, .int l2, .null] [] σ (fX10_feuds_4 n9 l1 l2 σ) := by
  intro n9
  induction n9 with
  | zero => intro l1 l2; exact pn_none
  | succ n9 ih =>
    intro l1 l2
    rw [fX10_feuds_4]
    refine pn_iload_n dX10_feuds_4 rfl rfl rfl ?_
    refine pn_aload_n dX10_feuds_5 rfl rfl rfl ?_
    refine pn_geta dX10_feuds_6 rfl lf_X10_19_9 qt_0 qk_0 qr_0_1 qt_5 ?_
    refine pn_geti dX10_feuds_9 rfl lf_X10_250_7 qt_5 qk_5 qr_5_2 ?_
    refine pn_icmp_ge (tgt := 52) dX10_feuds_12 rfl rfl (fun c1 => ?_) (fun c1 => ?_)
    · refine pn_iload_n dX10_feuds_52 rfl rfl rfl ?_
      exact pn_iretv dX10_feuds_53 rfl rfl rfl
    · refine pn_aload_n dX10_feuds_15 rfl rfl rfl ?_
      refine pn_geta dX10_feuds_16 rfl lf_X10_19_9 qt_0 qk_0 qr_0_1 qt_5 ?_
      refine pn_iload_n dX10_feuds_19 rfl rfl rfl ?_
      refine pn_iconst dX10_feuds_20 rfl ic_5 ?_
      refine pn_cp (fun r9 h9 => pn_LKV dX10_feuds_21 lm_X10_155 (ct_X8_of Γ 5 qv_5 l2 (5 : Int32) σ r9 h9) (by decide) qt_5 qk_5 rfl rfl (Nat.le_of_ble_eq_true rfl)) rfl (fun x2 => ?_)
      refine pn_istore_n (ls' := [.ref 0, .int l1, .int l2, .int x2]) dX10_feuds_24 rfl rfl (Nat.le_of_ble_eq_true rfl) rfl ?_
      refine pn_iload_n dX10_feuds_25 rfl rfl rfl ?_
      refine pn_iload_n dX10_feuds_26 rfl rfl rfl ?_
      refine pn_icmp_le (tgt := 46) dX10_feuds_27 rfl rfl (fun c3 => ?_) (fun c3 => ?_)
      · refine pn_iinc (ls' := [.ref 0, .int l1, .int (l2 + (1 : Int32)), .int x2]) dX10_feuds_46 rfl (Nat.le_of_ble_eq_true rfl) rfl (congrArg (fun z => l2 + z) ic_1) rfl ?_
        refine pn_goto (pc' := 4) dX10_feuds_49 rfl ?_
        exact pn_wk (pn_leC rfl (pn_leC rfl (pn_leC rfl (pn_leN pn_le0)))) (ih l1 (l2 + (1 : Int32)))
      · refine pn_aload_n dX10_feuds_30 rfl rfl rfl ?_
        refine pn_geta dX10_feuds_31 rfl lf_X10_19_9 qt_0 qk_0 qr_0_1 qt_5 ?_
        refine pn_iload_n dX10_feuds_34 rfl rfl rfl ?_
        refine pn_iconst dX10_feuds_35 rfl ic_5 ?_
        refine pn_cp (fun r9 h9 => pn_LKV dX10_feuds_36 lm_X10_155 (ct_X8_of Γ 5 qv_5 x2 (5 : Int32) σ r9 h9) (by decide) qt_5 qk_5 rfl rfl (Nat.le_of_ble_eq_true rfl)) rfl (fun x4 => ?_)
        refine pn_iload_n dX10_feuds_39 rfl rfl rfl ?_
        refine pn_icmp_ne (tgt := 46) dX10_feuds_40 rfl rfl (fun c5 => ?_) (fun c5 => ?_)
        · refine pn_iinc (ls' := [.ref 0, .int (l1 + (1 : Int32)), .int l2, .int x2]) dX10_feuds_43 rfl (Nat.le_of_ble_eq_true rfl) rfl (congrArg (fun z => l1 + z) ic_1) rfl ?_
          refine pn_iinc (ls' := [.ref 0, .int (l1 + (1 : Int32)), .int (l2 + (1 : Int32)), .int x2]) dX10_feuds_46 rfl (Nat.le_of_ble_eq_true rfl) rfl (congrArg (fun z => l2 + z) ic_1) rfl ?_
          refine pn_goto (pc' := 4) dX10_feuds_49 rfl ?_
          exact pn_wk (pn_leC rfl (pn_leC rfl (pn_leC rfl (pn_leN pn_le0)))) (ih (l1 + (1 : Int32)) (l2 + (1 : Int32)))
        · refine pn_iinc (ls' := [.ref 0, .int l1, .int (l2 + (1 : Int32)), .int x2]) dX10_feuds_46 rfl (Nat.le_of_ble_eq_true rfl) rfl (congrArg (fun z => l2 + z) ic_1) rfl ?_
          refine pn_goto (pc' := 4) dX10_feuds_49 rfl ?_
          exact pn_wk (pn_leC rfl (pn_leC rfl (pn_leC rfl (pn_leN pn_le0)))) (ih l1 (l2 + (1 : Int32)))

set_option maxRecDepth 20000 in
set_option maxHeartbeats 4000000 in
theorem ct_X10_feuds (Γ : pn_G)  (σ : pn_S) : ∀ r, fX10_feuds  σ = some r → pn_C Γ 2 mX10_feuds [.ref 0] σ ((pn_p σ) r) := by
  refine pn_of (ls := [.ref 0, .null, .null, .null]) (by decide) rfl (pn_cat rfl) rfl (Nat.le_of_ble_eq_true rfl) ?_
  rw [fX10_feuds]
  refine pn_iconst dX10_feuds_0 rfl ic_0 ?_
  refine pn_istore_n (ls' := [.ref 0, .int (0 : Int32), .null, .null]) dX10_feuds_1 rfl rfl (Nat.le_of_ble_eq_true rfl) rfl ?_
  refine pn_iconst dX10_feuds_2 rfl ic_0 ?_
  refine pn_istore_n (ls' := [.ref 0, .int (0 : Int32), .int (0 : Int32), .null]) dX10_feuds_3 rfl rfl (Nat.le_of_ble_eq_true rfl) rfl ?_
  exact wX10_feuds_4 Γ σ 5000 (0 : Int32) (0 : Int32)

set_option maxRecDepth 20000 in
set_option maxHeartbeats 4000000 in
theorem wX10_ring_49 (Γ : pn_G)  (l1 : Int32) (l2 : Int32) (σ : pn_S) : pn_W9 Γ 3 mX10_ring pn_xi 49 [.null, .int l1, .int l2, .null] [] σ (fX10_ring_49 l1 l2 σ) := by
  rw [fX10_ring_49]
  refine pn_iload_n dX10_ring_49 rfl rfl rfl ?_
  refine pn_iload_n dX10_ring_50 rfl rfl rfl ?_
  refine pn_icmp_ne (tgt := 58) dX10_ring_51 rfl rfl (fun c4 => ?_) (fun c4 => ?_)
  · refine pn_iconst dX10_ring_54 rfl ic_1 ?_
    refine pn_goto (pc' := 59) dX10_ring_55 rfl ?_
    exact pn_iretv dX10_ring_59 rfl rfl rfl
  · refine pn_iconst dX10_ring_58 rfl ic_0 ?_
    exact pn_iretv dX10_ring_59 rfl rfl rfl

set_option maxRecDepth 20000 in
set_option maxHeartbeats 4000000 in
theorem wX10_ring_17 (Γ : pn_G)  : ∀ (n9 : Nat) (l1 : Int32) (l2 : Int32) (l3 : Int32) (σ : pn_S), pn_W9 Γ 3 mX10_ring pn_xi 17 [.ref 0, .int l1, .int l2, .int l3] [] σ (fX10_ring_17 n9 l1 l2 l3 σ) := by
  intro n9
  induction n9 with
  | zero => intro l1 l2 l3 σ; exact pn_none
  | succ n9 ih =>
    intro l1 l2 l3 σ
    rw [fX10_ring_17]
    refine pn_iload_n dX10_ring_17 rfl rfl rfl ?_
    refine pn_bipush dX10_ring_18 rfl bc_8 ?_
    refine pn_icmp_ge (tgt := 49) dX10_ring_20 rfl rfl (fun c3 => ?_) (fun c3 => ?_)
    · exact pn_wk (pn_leN (pn_leC rfl (pn_leC rfl (pn_leN pn_le0)))) (wX10_ring_49 Γ l1 l2 σ)
    · refine pn_iload_n dX10_ring_23 rfl rfl rfl ?_
      refine pn_iconst dX10_ring_24 rfl ic_m1 ?_
      refine pn_icmp_eq (tgt := 49) dX10_ring_25 rfl rfl (fun c5 => ?_) (fun c5 => ?_)
      · exact pn_wk (pn_leN (pn_leC rfl (pn_leC rfl (pn_leN pn_le0)))) (wX10_ring_49 Γ l1 l2 σ)
      · refine pn_iload_n dX10_ring_28 rfl rfl rfl ?_
        refine pn_iload_n dX10_ring_29 rfl rfl rfl ?_
        refine pn_icmp_eq (tgt := 49) dX10_ring_30 rfl rfl (fun c6 => ?_) (fun c6 => ?_)
        · exact pn_wk (pn_leN (pn_leC rfl (pn_leC rfl (pn_leN pn_le0)))) (wX10_ring_49 Γ l1 l2 σ)
        · refine pn_aload_n dX10_ring_33 rfl rfl rfl ?_
          refine pn_geta dX10_ring_34 rfl lf_X10_19_9 qt_0 qk_0 qr_0_1 qt_5 ?_
          refine pn_iload_n dX10_ring_37 rfl rfl rfl ?_
          refine pn_iconst dX10_ring_38 rfl ic_5 ?_
          refine pn_cp (fun r9 h9 => pn_LKV dX10_ring_39 lm_X10_155 (ct_X8_of Γ 5 qv_5 l2 (5 : Int32) σ r9 h9) (by decide) qt_5 qk_5 rfl rfl (Nat.le_of_ble_eq_true rfl)) rfl (fun x7 => ?_)
          refine pn_istore_n (ls' := [.ref 0, .int l1, .int x7, .int l3]) dX10_ring_42 rfl rfl (Nat.le_of_ble_eq_true rfl) rfl ?_
          refine pn_iinc (ls' := [.ref 0, .int l1, .int x7, .int (l3 + (1 : Int32))]) dX10_ring_43 rfl (Nat.le_of_ble_eq_true rfl) rfl (congrArg (fun z => l3 + z) ic_1) rfl ?_
          refine pn_goto (pc' := 17) dX10_ring_46 rfl ?_
          exact ih l1 x7 (l3 + (1 : Int32)) σ

set_option maxRecDepth 20000 in
set_option maxHeartbeats 4000000 in
theorem ct_X10_ring (Γ : pn_G) (a1 : Int32) (σ : pn_S) : ∀ r, fX10_ring a1 σ = some r → pn_C Γ 3 mX10_ring [.ref 0, .int a1] σ (pn_xi r) := by
  refine pn_of (ls := [.ref 0, .int a1, .null, .null]) (by decide) rfl (pn_cat rfl) rfl (Nat.le_of_ble_eq_true rfl) ?_
  rw [fX10_ring]
  refine pn_aload_n dX10_ring_0 rfl rfl rfl ?_
  refine pn_iload_n dX10_ring_1 rfl rfl rfl ?_
  refine pn_cxv (fun _ _ => rfl) rfl (fun r9 h9 => pn_LKV dX10_ring_2 lm_X10_149 (ct_X10_checkPerson Γ a1 σ r9 h9) (by decide) qt_0 qk_0 rfl rfl (Nat.le_of_ble_eq_true rfl)) rfl (fun σ1 => ?_)
  refine pn_aload_n dX10_ring_5 rfl rfl rfl ?_
  refine pn_geta dX10_ring_6 rfl lf_X10_19_9 qt_0 qk_0 qr_0_1 qt_5 ?_
  refine pn_iload_n dX10_ring_9 rfl rfl rfl ?_
  refine pn_iconst dX10_ring_10 rfl ic_5 ?_
  refine pn_cp (fun r9 h9 => pn_LKV dX10_ring_11 lm_X10_155 (ct_X8_of Γ 5 qv_5 a1 (5 : Int32) σ1 r9 h9) (by decide) qt_5 qk_5 rfl rfl (Nat.le_of_ble_eq_true rfl)) rfl (fun x2 => ?_)
  refine pn_istore_n (ls' := [.ref 0, .int a1, .int x2, .null]) dX10_ring_14 rfl rfl (Nat.le_of_ble_eq_true rfl) rfl ?_
  refine pn_iconst dX10_ring_15 rfl ic_0 ?_
  refine pn_istore_n (ls' := [.ref 0, .int a1, .int x2, .int (0 : Int32)]) dX10_ring_16 rfl rfl (Nat.le_of_ble_eq_true rfl) rfl ?_
  exact wX10_ring_17 Γ 5000 a1 x2 (0 : Int32) σ1

set_option maxRecDepth 20000 in
set_option maxHeartbeats 4000000 in
theorem wX10_hatersOf_4 (Γ : pn_G)  (σ : pn_S) : ∀ (n9 : Nat) (l1 : Int32) (l2 : Int32) (l3 : Int32), pn_W9 Γ 2 mX10_hatersOf (pn_p σ) 4 [.ref 0, .int l1, .int l2, .int l3] [] σ (fX10_hatersOf_4 n9 l1 l2 l3 σ) := by
  intro n9
  induction n9 with
  | zero => intro l1 l2 l3; exact pn_none
  | succ n9 ih =>
    intro l1 l2 l3
    rw [fX10_hatersOf_4]
    refine pn_iload_n dX10_hatersOf_4 rfl rfl rfl ?_
    refine pn_aload_n dX10_hatersOf_5 rfl rfl rfl ?_
    refine pn_geta dX10_hatersOf_6 rfl lf_X10_19_9 qt_0 qk_0 qr_0_1 qt_5 ?_
    refine pn_geti dX10_hatersOf_9 rfl lf_X10_250_7 qt_5 qk_5 qr_5_2 ?_
    refine pn_icmp_ge (tgt := 42) dX10_hatersOf_12 rfl rfl (fun c1 => ?_) (fun c1 => ?_)
    · refine pn_iload_n dX10_hatersOf_42 rfl rfl rfl ?_
      exact pn_iretv dX10_hatersOf_43 rfl rfl rfl
    · refine pn_iload_n dX10_hatersOf_15 rfl rfl rfl ?_
      refine pn_aload_n dX10_hatersOf_16 rfl rfl rfl ?_
      refine pn_geta dX10_hatersOf_17 rfl lf_X10_19_9 qt_0 qk_0 qr_0_1 qt_5 ?_
      refine pn_iload_n dX10_hatersOf_20 rfl rfl rfl ?_
      refine pn_iconst dX10_hatersOf_21 rfl ic_5 ?_
      refine pn_cp (fun r9 h9 => pn_LKV dX10_hatersOf_22 lm_X10_155 (ct_X8_of Γ 5 qv_5 l3 (5 : Int32) σ r9 h9) (by decide) qt_5 qk_5 rfl rfl (Nat.le_of_ble_eq_true rfl)) rfl (fun x2 => ?_)
      refine pn_iload_n dX10_hatersOf_25 rfl rfl rfl ?_
      refine pn_icmp_ne (tgt := 33) dX10_hatersOf_26 rfl rfl (fun c3 => ?_) (fun c3 => ?_)
      · refine pn_iconst dX10_hatersOf_29 rfl ic_1 ?_
        refine pn_goto (pc' := 34) dX10_hatersOf_30 rfl ?_
        refine pn_iadd dX10_hatersOf_34 rfl ?_
        refine pn_istore_n (ls' := [.ref 0, .int l1, .int (l2 + (1 : Int32)), .int l3]) dX10_hatersOf_35 rfl rfl (Nat.le_of_ble_eq_true rfl) rfl ?_
        refine pn_iinc (ls' := [.ref 0, .int l1, .int (l2 + (1 : Int32)), .int (l3 + (1 : Int32))]) dX10_hatersOf_36 rfl (Nat.le_of_ble_eq_true rfl) rfl (congrArg (fun z => l3 + z) ic_1) rfl ?_
        refine pn_goto (pc' := 4) dX10_hatersOf_39 rfl ?_
        exact ih l1 (l2 + (1 : Int32)) (l3 + (1 : Int32))
      · refine pn_iconst dX10_hatersOf_33 rfl ic_0 ?_
        refine pn_iadd dX10_hatersOf_34 rfl ?_
        refine pn_istore_n (ls' := [.ref 0, .int l1, .int (l2 + (0 : Int32)), .int l3]) dX10_hatersOf_35 rfl rfl (Nat.le_of_ble_eq_true rfl) rfl ?_
        refine pn_iinc (ls' := [.ref 0, .int l1, .int (l2 + (0 : Int32)), .int (l3 + (1 : Int32))]) dX10_hatersOf_36 rfl (Nat.le_of_ble_eq_true rfl) rfl (congrArg (fun z => l3 + z) ic_1) rfl ?_
        refine pn_goto (pc' := 4) dX10_hatersOf_39 rfl ?_
        exact ih l1 (l2 + (0 : Int32)) (l3 + (1 : Int32))

set_option maxRecDepth 20000 in
set_option maxHeartbeats 4000000 in
theorem ct_X10_hatersOf (Γ : pn_G) (a1 : Int32) (σ : pn_S) : ∀ r, fX10_hatersOf a1 σ = some r → pn_C Γ 2 mX10_hatersOf [.ref 0, .int a1] σ ((pn_p σ) r) := by
  refine pn_of (ls := [.ref 0, .int a1, .null, .null]) (by decide) rfl (pn_cat rfl) rfl (Nat.le_of_ble_eq_true rfl) ?_
  rw [fX10_hatersOf]
  refine pn_iconst dX10_hatersOf_0 rfl ic_0 ?_
  refine pn_istore_n (ls' := [.ref 0, .int a1, .int (0 : Int32), .null]) dX10_hatersOf_1 rfl rfl (Nat.le_of_ble_eq_true rfl) rfl ?_
  refine pn_iconst dX10_hatersOf_2 rfl ic_0 ?_
  refine pn_istore_n (ls' := [.ref 0, .int a1, .int (0 : Int32), .int (0 : Int32)]) dX10_hatersOf_3 rfl rfl (Nat.le_of_ble_eq_true rfl) rfl ?_
  exact wX10_hatersOf_4 Γ σ 5000 a1 (0 : Int32) (0 : Int32)

set_option maxRecDepth 20000 in
set_option maxHeartbeats 4000000 in
theorem wX10_hated_6 (Γ : pn_G)  (σ : pn_S) : ∀ (n9 : Nat) (l1 : Int32) (l2 : Int32) (l3 : Int32), pn_W9 Γ 3 mX10_hated (pn_p σ) 6 [.ref 0, .int l1, .int l2, .int l3, .null] [] σ (fX10_hated_6 n9 l1 l2 l3 σ) := by
  intro n9
  induction n9 with
  | zero => intro l1 l2 l3; exact pn_none
  | succ n9 ih =>
    intro l1 l2 l3
    rw [fX10_hated_6]
    refine pn_iload_n dX10_hated_6 rfl rfl rfl ?_
    refine pn_aload_n dX10_hated_7 rfl rfl rfl ?_
    refine pn_geta dX10_hated_8 rfl lf_X10_19_9 qt_0 qk_0 qr_0_1 qt_5 ?_
    refine pn_geti dX10_hated_11 rfl lf_X10_250_7 qt_5 qk_5 qr_5_2 ?_
    refine pn_icmp_ge (tgt := 41) dX10_hated_14 rfl rfl (fun c1 => ?_) (fun c1 => ?_)
    · refine pn_iload_n dX10_hated_41 rfl rfl rfl ?_
      exact pn_iretv dX10_hated_42 rfl rfl rfl
    · refine pn_aload_n dX10_hated_17 rfl rfl rfl ?_
      refine pn_iload_n dX10_hated_18 rfl rfl rfl ?_
      refine pn_cp (fun r9 h9 => pn_LKV dX10_hated_19 lm_X10_289 (ct_X10_hatersOf Γ l3 σ r9 h9) (by decide) qt_0 qk_0 rfl rfl (Nat.le_of_ble_eq_true rfl)) rfl (fun x2 => ?_)
      refine pn_istore (ls' := [.ref 0, .int l1, .int l2, .int l3, .int x2]) dX10_hated_22 rfl (Nat.le_of_ble_eq_true rfl) rfl ?_
      refine pn_iload dX10_hated_24 rfl rfl ?_
      refine pn_iload_n dX10_hated_26 rfl rfl rfl ?_
      refine pn_icmp_le (tgt := 35) dX10_hated_27 rfl rfl (fun c3 => ?_) (fun c3 => ?_)
      · refine pn_iinc (ls' := [.ref 0, .int l1, .int l2, .int (l3 + (1 : Int32)), .int x2]) dX10_hated_35 rfl (Nat.le_of_ble_eq_true rfl) rfl (congrArg (fun z => l3 + z) ic_1) rfl ?_
        refine pn_goto (pc' := 6) dX10_hated_38 rfl ?_
        exact pn_wk (pn_leC rfl (pn_leC rfl (pn_leC rfl (pn_leC rfl (pn_leN pn_le0))))) (ih l1 l2 (l3 + (1 : Int32)))
      · refine pn_iload dX10_hated_30 rfl rfl ?_
        refine pn_istore_n (ls' := [.ref 0, .int l1, .int x2, .int l3, .int x2]) dX10_hated_32 rfl rfl (Nat.le_of_ble_eq_true rfl) rfl ?_
        refine pn_iload_n dX10_hated_33 rfl rfl rfl ?_
        refine pn_istore_n (ls' := [.ref 0, .int l3, .int x2, .int l3, .int x2]) dX10_hated_34 rfl rfl (Nat.le_of_ble_eq_true rfl) rfl ?_
        refine pn_iinc (ls' := [.ref 0, .int l3, .int x2, .int (l3 + (1 : Int32)), .int x2]) dX10_hated_35 rfl (Nat.le_of_ble_eq_true rfl) rfl (congrArg (fun z => l3 + z) ic_1) rfl ?_
        refine pn_goto (pc' := 6) dX10_hated_38 rfl ?_
        exact pn_wk (pn_leC rfl (pn_leC rfl (pn_leC rfl (pn_leC rfl (pn_leN pn_le0))))) (ih l3 x2 (l3 + (1 : Int32)))

set_option maxRecDepth 20000 in
set_option maxHeartbeats 4000000 in
theorem ct_X10_hated (Γ : pn_G)  (σ : pn_S) : ∀ r, fX10_hated  σ = some r → pn_C Γ 3 mX10_hated [.ref 0] σ ((pn_p σ) r) := by
  refine pn_of (ls := [.ref 0, .null, .null, .null, .null]) (by decide) rfl (pn_cat rfl) rfl (Nat.le_of_ble_eq_true rfl) ?_
  rw [fX10_hated]
  refine pn_iconst dX10_hated_0 rfl ic_m1 ?_
  refine pn_istore_n (ls' := [.ref 0, .int (-1 : Int32), .null, .null, .null]) dX10_hated_1 rfl rfl (Nat.le_of_ble_eq_true rfl) rfl ?_
  refine pn_iconst dX10_hated_2 rfl ic_0 ?_
  refine pn_istore_n (ls' := [.ref 0, .int (-1 : Int32), .int (0 : Int32), .null, .null]) dX10_hated_3 rfl rfl (Nat.le_of_ble_eq_true rfl) rfl ?_
  refine pn_iconst dX10_hated_4 rfl ic_0 ?_
  refine pn_istore_n (ls' := [.ref 0, .int (-1 : Int32), .int (0 : Int32), .int (0 : Int32), .null]) dX10_hated_5 rfl rfl (Nat.le_of_ble_eq_true rfl) rfl ?_
  exact wX10_hated_6 Γ σ 5000 (-1 : Int32) (0 : Int32) (0 : Int32)

set_option maxRecDepth 20000 in
set_option maxHeartbeats 4000000 in
theorem wX10_finesOf_4 (Γ : pn_G)  (σ : pn_S) : ∀ (n9 : Nat) (l1 : Int32) (l2 : Int32), pn_W9 Γ 2 mX10_finesOf (pn_p σ) 4 [.ref 0, .int l1, .int l2] [] σ (fX10_finesOf_4 n9 l1 l2 σ) := by
  intro n9
  induction n9 with
  | zero => intro l1 l2; exact pn_none
  | succ n9 ih =>
    intro l1 l2
    rw [fX10_finesOf_4]
    refine pn_iload_n dX10_finesOf_4 rfl rfl rfl ?_
    refine pn_aload_n dX10_finesOf_5 rfl rfl rfl ?_
    refine pn_geta dX10_finesOf_6 rfl lf_X10_19_9 qt_0 qk_0 qr_0_1 qt_5 ?_
    refine pn_geti dX10_finesOf_9 rfl lf_X10_250_7 qt_5 qk_5 qr_5_2 ?_
    refine pn_icmp_ge (tgt := 61) dX10_finesOf_12 rfl rfl (fun c1 => ?_) (fun c1 => ?_)
    · refine pn_iload_n dX10_finesOf_61 rfl rfl rfl ?_
      exact pn_iretv dX10_finesOf_62 rfl rfl rfl
    · refine pn_iload_n dX10_finesOf_15 rfl rfl rfl ?_
      refine pn_aload_n dX10_finesOf_16 rfl rfl rfl ?_
      refine pn_geta dX10_finesOf_17 rfl lf_X10_63_9 qt_0 qk_0 qr_0_9 qt_37 ?_
      refine pn_geti dX10_finesOf_20 rfl lf_X10_212_0 qt_37 qk_37 qr_37_4 ?_
      refine pn_iload_n dX10_finesOf_23 rfl rfl rfl ?_
      refine pn_cp (fun r9 h9 => pn_LKS dX10_finesOf_24 lm_X10_253 (ct_X10_hasBit Γ (σ 37 4) l2 σ r9 h9) (by decide) rfl rfl (Nat.le_of_ble_eq_true rfl)) rfl (fun x2 => ?_)
      refine pn_if_eq (tgt := 52) dX10_finesOf_27 rfl rfl (fun c3 => ?_) (fun c3 => ?_)
      · refine pn_iconst dX10_finesOf_52 rfl ic_0 ?_
        refine pn_iadd dX10_finesOf_53 rfl ?_
        refine pn_istore_n (ls' := [.ref 0, .int (l1 + (0 : Int32)), .int l2]) dX10_finesOf_54 rfl rfl (Nat.le_of_ble_eq_true rfl) rfl ?_
        refine pn_iinc (ls' := [.ref 0, .int (l1 + (0 : Int32)), .int (l2 + (1 : Int32))]) dX10_finesOf_55 rfl (Nat.le_of_ble_eq_true rfl) rfl (congrArg (fun z => l2 + z) ic_1) rfl ?_
        refine pn_goto (pc' := 4) dX10_finesOf_58 rfl ?_
        exact ih (l1 + (0 : Int32)) (l2 + (1 : Int32))
      · refine pn_aload_n dX10_finesOf_30 rfl rfl rfl ?_
        refine pn_geta dX10_finesOf_31 rfl lf_X10_19_9 qt_0 qk_0 qr_0_1 qt_5 ?_
        refine pn_geti dX10_finesOf_34 rfl lf_X10_342_7 qt_5 qk_5 qr_5_10 ?_
        refine pn_aload_n dX10_finesOf_37 rfl rfl rfl ?_
        refine pn_geta dX10_finesOf_38 rfl lf_X10_19_9 qt_0 qk_0 qr_0_1 qt_5 ?_
        refine pn_iload_n dX10_finesOf_41 rfl rfl rfl ?_
        refine pn_iconst dX10_finesOf_42 rfl ic_3 ?_
        refine pn_cp (fun r9 h9 => pn_LKV dX10_finesOf_43 lm_X10_155 (ct_X8_of Γ 5 qv_5 l2 (3 : Int32) σ r9 h9) (by decide) qt_5 qk_5 rfl rfl (Nat.le_of_ble_eq_true rfl)) rfl (fun x4 => ?_)
        refine pn_cp (fun r9 h9 => pn_LKS dX10_finesOf_46 lm_X10_203 (ct_J9_min_7cf53 Γ (σ 5 10) x4 σ r9 h9) (by decide) rfl rfl (Nat.le_of_ble_eq_true rfl)) rfl (fun x5 => ?_)
        refine pn_goto (pc' := 53) dX10_finesOf_49 rfl ?_
        refine pn_iadd dX10_finesOf_53 rfl ?_
        refine pn_istore_n (ls' := [.ref 0, .int (l1 + x5), .int l2]) dX10_finesOf_54 rfl rfl (Nat.le_of_ble_eq_true rfl) rfl ?_
        refine pn_iinc (ls' := [.ref 0, .int (l1 + x5), .int (l2 + (1 : Int32))]) dX10_finesOf_55 rfl (Nat.le_of_ble_eq_true rfl) rfl (congrArg (fun z => l2 + z) ic_1) rfl ?_
        refine pn_goto (pc' := 4) dX10_finesOf_58 rfl ?_
        exact ih (l1 + x5) (l2 + (1 : Int32))

set_option maxRecDepth 20000 in
set_option maxHeartbeats 4000000 in
theorem ct_X10_finesOf (Γ : pn_G)  (σ : pn_S) : ∀ r, fX10_finesOf  σ = some r → pn_C Γ 2 mX10_finesOf [.ref 0] σ ((pn_p σ) r) := by
  refine pn_of (ls := [.ref 0, .null, .null]) (by decide) rfl (pn_cat rfl) rfl (Nat.le_of_ble_eq_true rfl) ?_
  rw [fX10_finesOf]
  refine pn_iconst dX10_finesOf_0 rfl ic_0 ?_
  refine pn_istore_n (ls' := [.ref 0, .int (0 : Int32), .null]) dX10_finesOf_1 rfl rfl (Nat.le_of_ble_eq_true rfl) rfl ?_
  refine pn_iconst dX10_finesOf_2 rfl ic_0 ?_
  refine pn_istore_n (ls' := [.ref 0, .int (0 : Int32), .int (0 : Int32)]) dX10_finesOf_3 rfl rfl (Nat.le_of_ble_eq_true rfl) rfl ?_
  exact wX10_finesOf_4 Γ σ 5000 (0 : Int32) (0 : Int32)

set_option maxRecDepth 20000 in
set_option maxHeartbeats 4000000 in
theorem ct_X10_watched (Γ : pn_G) (a1 : Int32) (σ : pn_S) : ∀ r, fX10_watched a1 σ = some r → pn_C Γ 6 mX10_watched [.ref 0, .int a1] σ (pn_xi r) := by
  refine pn_of (ls := [.ref 0, .int a1]) (by decide) rfl (pn_cat rfl) rfl (Nat.le_of_ble_eq_true rfl) ?_
  rw [fX10_watched]
  refine pn_aload_n dX10_watched_0 rfl rfl rfl ?_
  refine pn_iload_n dX10_watched_1 rfl rfl rfl ?_
  refine pn_cxv (fun _ _ => rfl) rfl (fun r9 h9 => pn_LKV dX10_watched_2 lm_X10_149 (ct_X10_checkPerson Γ a1 σ r9 h9) (by decide) qt_0 qk_0 rfl rfl (Nat.le_of_ble_eq_true rfl)) rfl (fun σ1 => ?_)
  refine pn_aload_n dX10_watched_5 rfl rfl rfl ?_
  refine pn_iload_n dX10_watched_6 rfl rfl rfl ?_
  refine pn_cv (fun r9 h9 => pn_LKV dX10_watched_7 lm_X10_189 (ct_X10_summonTo Γ a1 σ1 r9 h9) (by decide) qt_0 qk_0 rfl rfl (Nat.le_of_ble_eq_true rfl)) rfl (fun σ2 => ?_)
  refine pn_aload_n dX10_watched_10 rfl rfl rfl ?_
  refine pn_cp (fun r9 h9 => pn_LKV dX10_watched_11 lm_X10_292 (ct_X10_finesOf Γ σ2 r9 h9) (by decide) qt_0 qk_0 rfl rfl (Nat.le_of_ble_eq_true rfl)) rfl (fun x3 => ?_)
  exact pn_iretv dX10_watched_14 rfl rfl rfl

set_option maxRecDepth 20000 in
set_option maxHeartbeats 4000000 in
theorem wX10_ripest_6 (Γ : pn_G)  : ∀ (n9 : Nat) (l1 : Int32) (l2 : Int32) (l3 : Int32) (σ : pn_S), pn_W9 Γ 6 mX10_ripest pn_i 6 [.ref 0, .int l1, .int l2, .int l3, .null] [] σ (fX10_ripest_6 n9 l1 l2 l3 σ) := by
  intro n9
  induction n9 with
  | zero => intro l1 l2 l3 σ; exact pn_none
  | succ n9 ih =>
    intro l1 l2 l3 σ
    rw [fX10_ripest_6]
    refine pn_iload_n dX10_ripest_6 rfl rfl rfl ?_
    refine pn_aload_n dX10_ripest_7 rfl rfl rfl ?_
    refine pn_geta dX10_ripest_8 rfl lf_X10_19_9 qt_0 qk_0 qr_0_1 qt_5 ?_
    refine pn_geti dX10_ripest_11 rfl lf_X10_250_7 qt_5 qk_5 qr_5_2 ?_
    refine pn_icmp_ge (tgt := 45) dX10_ripest_14 rfl rfl (fun c1 => ?_) (fun c1 => ?_)
    · refine pn_iload_n dX10_ripest_45 rfl rfl rfl ?_
      exact pn_iretv dX10_ripest_46 rfl rfl rfl
    · refine pn_aload_n dX10_ripest_17 rfl rfl rfl ?_
      refine pn_iload_n dX10_ripest_18 rfl rfl rfl ?_
      refine pn_cv (fun r9 h9 => pn_LKV dX10_ripest_19 lm_X10_189 (ct_X10_summonTo Γ l3 σ r9 h9) (by decide) qt_0 qk_0 rfl rfl (Nat.le_of_ble_eq_true rfl)) rfl (fun σ2 => ?_)
      refine pn_aload_n dX10_ripest_22 rfl rfl rfl ?_
      refine pn_cp (fun r9 h9 => pn_LKV dX10_ripest_23 lm_X10_292 (ct_X10_finesOf Γ σ2 r9 h9) (by decide) qt_0 qk_0 rfl rfl (Nat.le_of_ble_eq_true rfl)) rfl (fun x3 => ?_)
      refine pn_istore (ls' := [.ref 0, .int l1, .int l2, .int l3, .int x3]) dX10_ripest_26 rfl (Nat.le_of_ble_eq_true rfl) rfl ?_
      refine pn_iload dX10_ripest_28 rfl rfl ?_
      refine pn_iload_n dX10_ripest_30 rfl rfl rfl ?_
      refine pn_icmp_le (tgt := 39) dX10_ripest_31 rfl rfl (fun c4 => ?_) (fun c4 => ?_)
      · refine pn_iinc (ls' := [.ref 0, .int l1, .int l2, .int (l3 + (1 : Int32)), .int x3]) dX10_ripest_39 rfl (Nat.le_of_ble_eq_true rfl) rfl (congrArg (fun z => l3 + z) ic_1) rfl ?_
        refine pn_goto (pc' := 6) dX10_ripest_42 rfl ?_
        exact pn_wk (pn_leC rfl (pn_leC rfl (pn_leC rfl (pn_leC rfl (pn_leN pn_le0))))) (ih l1 l2 (l3 + (1 : Int32)) σ2)
      · refine pn_iload dX10_ripest_34 rfl rfl ?_
        refine pn_istore_n (ls' := [.ref 0, .int l1, .int x3, .int l3, .int x3]) dX10_ripest_36 rfl rfl (Nat.le_of_ble_eq_true rfl) rfl ?_
        refine pn_iload_n dX10_ripest_37 rfl rfl rfl ?_
        refine pn_istore_n (ls' := [.ref 0, .int l3, .int x3, .int l3, .int x3]) dX10_ripest_38 rfl rfl (Nat.le_of_ble_eq_true rfl) rfl ?_
        refine pn_iinc (ls' := [.ref 0, .int l3, .int x3, .int (l3 + (1 : Int32)), .int x3]) dX10_ripest_39 rfl (Nat.le_of_ble_eq_true rfl) rfl (congrArg (fun z => l3 + z) ic_1) rfl ?_
        refine pn_goto (pc' := 6) dX10_ripest_42 rfl ?_
        exact pn_wk (pn_leC rfl (pn_leC rfl (pn_leC rfl (pn_leC rfl (pn_leN pn_le0))))) (ih l3 x3 (l3 + (1 : Int32)) σ2)

set_option maxRecDepth 20000 in
set_option maxHeartbeats 4000000 in
theorem ct_X10_ripest (Γ : pn_G)  (σ : pn_S) : ∀ r, fX10_ripest  σ = some r → pn_C Γ 6 mX10_ripest [.ref 0] σ (pn_i r) := by
  refine pn_of (ls := [.ref 0, .null, .null, .null, .null]) (by decide) rfl (pn_cat rfl) rfl (Nat.le_of_ble_eq_true rfl) ?_
  rw [fX10_ripest]
  refine pn_iconst dX10_ripest_0 rfl ic_m1 ?_
  refine pn_istore_n (ls' := [.ref 0, .int (-1 : Int32), .null, .null, .null]) dX10_ripest_1 rfl rfl (Nat.le_of_ble_eq_true rfl) rfl ?_
  refine pn_iconst dX10_ripest_2 rfl ic_0 ?_
  refine pn_istore_n (ls' := [.ref 0, .int (-1 : Int32), .int (0 : Int32), .null, .null]) dX10_ripest_3 rfl rfl (Nat.le_of_ble_eq_true rfl) rfl ?_
  refine pn_iconst dX10_ripest_4 rfl ic_0 ?_
  refine pn_istore_n (ls' := [.ref 0, .int (-1 : Int32), .int (0 : Int32), .int (0 : Int32), .null]) dX10_ripest_5 rfl rfl (Nat.le_of_ble_eq_true rfl) rfl ?_
  exact wX10_ripest_6 Γ 5000 (-1 : Int32) (0 : Int32) (0 : Int32) σ

set_option maxRecDepth 20000 in
set_option maxHeartbeats 4000000 in
theorem ct_X0_needsOf (Γ : pn_G) (a1 : Int32) (σ : pn_S) : ∀ r, fX0_needsOf a1 σ = some r → pn_C Γ 1 mX0_needsOf [.ref 37, .int a1] σ ((pn_p σ) r) := by
  refine pn_of (ls := [.ref 37, .int a1]) (by decide) rfl (pn_cat rfl) rfl (Nat.le_of_ble_eq_true rfl) ?_
  rw [fX0_needsOf]
  refine pn_iload_n dX0_needsOf_0 rfl rfl rfl ?_
  refine pn_if_lt (tgt := 19) dX0_needsOf_1 rfl rfl (fun c1 => ?_) (fun c1 => ?_)
  · refine pn_iconst dX0_needsOf_19 rfl ic_0 ?_
    exact pn_iretv dX0_needsOf_20 rfl rfl rfl
  · refine pn_iload_n dX0_needsOf_4 rfl rfl rfl ?_
    refine pn_bipush dX0_needsOf_5 rfl bc_8 ?_
    refine pn_icmp_ge (tgt := 19) dX0_needsOf_7 rfl rfl (fun c2 => ?_) (fun c2 => ?_)
    · refine pn_iconst dX0_needsOf_19 rfl ic_0 ?_
      exact pn_iretv dX0_needsOf_20 rfl rfl rfl
    · refine pn_aload_n dX0_needsOf_10 rfl rfl rfl ?_
      refine pn_geta dX0_needsOf_11 rfl lf_X0_9_0 qt_37 qk_37 qr_37_0 qt_38 ?_
      refine pn_iload_n dX0_needsOf_14 rfl rfl rfl ?_
      refine pn_iald dX0_needsOf_15 rfl qt_38 qk_38 ql_38 ?_
      refine pn_goto (pc' := 20) dX0_needsOf_16 rfl ?_
      exact pn_iretv dX0_needsOf_20 rfl rfl rfl

set_option maxRecDepth 20000 in
set_option maxHeartbeats 4000000 in
theorem wX10_brave_25 (Γ : pn_G)  : ∀ (n9 : Nat) (l1 : Int32) (l2 : Int32) (l3 : Int32) (σ : pn_S), pn_W9 Γ 5 mX10_brave pn_xi 25 [.ref 0, .int l1, .int l2, .int l3] [] σ (fX10_brave_25 n9 l1 l2 l3 σ) := by
  intro n9
  induction n9 with
  | zero => intro l1 l2 l3 σ; exact pn_none
  | succ n9 ih =>
    intro l1 l2 l3 σ
    rw [fX10_brave_25]
    refine pn_iload_n dX10_brave_25 rfl rfl rfl ?_
    refine pn_aload_n dX10_brave_26 rfl rfl rfl ?_
    refine pn_geta dX10_brave_27 rfl lf_X10_19_9 qt_0 qk_0 qr_0_1 qt_5 ?_
    refine pn_geti dX10_brave_30 rfl lf_X10_250_7 qt_5 qk_5 qr_5_2 ?_
    refine pn_icmp_ge (tgt := 73) dX10_brave_33 rfl rfl (fun c3 => ?_) (fun c3 => ?_)
    · refine pn_iload_n dX10_brave_73 rfl rfl rfl ?_
      exact pn_iretv dX10_brave_74 rfl rfl rfl
    · refine pn_iload_n dX10_brave_36 rfl rfl rfl ?_
      refine pn_iload_n dX10_brave_37 rfl rfl rfl ?_
      refine pn_icmp_eq (tgt := 67) dX10_brave_38 rfl rfl (fun c4 => ?_) (fun c4 => ?_)
      · refine pn_iinc (ls' := [.ref 0, .int l1, .int l2, .int (l3 + (1 : Int32))]) dX10_brave_67 rfl (Nat.le_of_ble_eq_true rfl) rfl (congrArg (fun z => l3 + z) ic_1) rfl ?_
        refine pn_goto (pc' := 25) dX10_brave_70 rfl ?_
        exact ih l1 l2 (l3 + (1 : Int32)) σ
      · refine pn_iload_n dX10_brave_41 rfl rfl rfl ?_
        refine pn_iconst dX10_brave_42 rfl ic_m1 ?_
        refine pn_icmp_eq (tgt := 65) dX10_brave_43 rfl rfl (fun c5 => ?_) (fun c5 => ?_)
        · refine pn_iload_n dX10_brave_65 rfl rfl rfl ?_
          refine pn_istore_n (ls' := [.ref 0, .int l1, .int l3, .int l3]) dX10_brave_66 rfl rfl (Nat.le_of_ble_eq_true rfl) rfl ?_
          refine pn_iinc (ls' := [.ref 0, .int l1, .int l3, .int (l3 + (1 : Int32))]) dX10_brave_67 rfl (Nat.le_of_ble_eq_true rfl) rfl (congrArg (fun z => l3 + z) ic_1) rfl ?_
          refine pn_goto (pc' := 25) dX10_brave_70 rfl ?_
          exact ih l1 l3 (l3 + (1 : Int32)) σ
        · refine pn_aload_n dX10_brave_46 rfl rfl rfl ?_
          refine pn_geta dX10_brave_47 rfl lf_X10_63_9 qt_0 qk_0 qr_0_9 qt_37 ?_
          refine pn_iload_n dX10_brave_50 rfl rfl rfl ?_
          refine pn_cp (fun r9 h9 => pn_LKV dX10_brave_51 lm_X10_295 (ct_X0_needsOf Γ l3 σ r9 h9) (by decide) qt_37 qk_37 rfl rfl (Nat.le_of_ble_eq_true rfl)) rfl (fun x6 => ?_)
          refine pn_aload_n dX10_brave_54 rfl rfl rfl ?_
          refine pn_geta dX10_brave_55 rfl lf_X10_63_9 qt_0 qk_0 qr_0_9 qt_37 ?_
          refine pn_iload_n dX10_brave_58 rfl rfl rfl ?_
          refine pn_cp (fun r9 h9 => pn_LKV dX10_brave_59 lm_X10_295 (ct_X0_needsOf Γ l2 σ r9 h9) (by decide) qt_37 qk_37 rfl rfl (Nat.le_of_ble_eq_true rfl)) rfl (fun x7 => ?_)
          refine pn_icmp_ge (tgt := 67) dX10_brave_62 rfl rfl (fun c8 => ?_) (fun c8 => ?_)
          · refine pn_iinc (ls' := [.ref 0, .int l1, .int l2, .int (l3 + (1 : Int32))]) dX10_brave_67 rfl (Nat.le_of_ble_eq_true rfl) rfl (congrArg (fun z => l3 + z) ic_1) rfl ?_
            refine pn_goto (pc' := 25) dX10_brave_70 rfl ?_
            exact ih l1 l2 (l3 + (1 : Int32)) σ
          · refine pn_iload_n dX10_brave_65 rfl rfl rfl ?_
            refine pn_istore_n (ls' := [.ref 0, .int l1, .int l3, .int l3]) dX10_brave_66 rfl rfl (Nat.le_of_ble_eq_true rfl) rfl ?_
            refine pn_iinc (ls' := [.ref 0, .int l1, .int l3, .int (l3 + (1 : Int32))]) dX10_brave_67 rfl (Nat.le_of_ble_eq_true rfl) rfl (congrArg (fun z => l3 + z) ic_1) rfl ?_
            refine pn_goto (pc' := 25) dX10_brave_70 rfl ?_
            exact ih l1 l3 (l3 + (1 : Int32)) σ

set_option maxRecDepth 20000 in
set_option maxHeartbeats 4000000 in
theorem ct_X10_brave (Γ : pn_G) (a1 : Int32) (σ : pn_S) : ∀ r, fX10_brave a1 σ = some r → pn_C Γ 5 mX10_brave [.ref 0, .int a1] σ (pn_xi r) := by
  refine pn_of (ls := [.ref 0, .int a1, .null, .null]) (by decide) rfl (pn_cat rfl) rfl (Nat.le_of_ble_eq_true rfl) ?_
  rw [fX10_brave]
  refine pn_aload_n dX10_brave_0 rfl rfl rfl ?_
  refine pn_iload_n dX10_brave_1 rfl rfl rfl ?_
  refine pn_cxv (fun _ _ => rfl) rfl (fun r9 h9 => pn_LKV dX10_brave_2 lm_X10_149 (ct_X10_checkPerson Γ a1 σ r9 h9) (by decide) qt_0 qk_0 rfl rfl (Nat.le_of_ble_eq_true rfl)) rfl (fun σ1 => ?_)
  refine pn_aload_n dX10_brave_5 rfl rfl rfl ?_
  refine pn_geta dX10_brave_6 rfl lf_X10_63_9 qt_0 qk_0 qr_0_9 qt_37 ?_
  refine pn_aload_n dX10_brave_9 rfl rfl rfl ?_
  refine pn_geta dX10_brave_10 rfl lf_X10_19_9 qt_0 qk_0 qr_0_1 qt_5 ?_
  refine pn_aload_n dX10_brave_13 rfl rfl rfl ?_
  refine pn_geta dX10_brave_14 rfl lf_X10_32_9 qt_0 qk_0 qr_0_4 qt_14 ?_
  refine pn_iload_n dX10_brave_17 rfl rfl rfl ?_
  refine pn_cv (fun r9 h9 => pn_LKV dX10_brave_18 lm_X10_225 (ct_X0_invite Γ 5 qv_5 14 qw_14 a1 σ1 r9 h9) (by decide) qt_37 qk_37 rfl rfl (Nat.le_of_ble_eq_true rfl)) rfl (fun σ2 => ?_)
  refine pn_iconst dX10_brave_21 rfl ic_m1 ?_
  refine pn_istore_n (ls' := [.ref 0, .int a1, .int (-1 : Int32), .null]) dX10_brave_22 rfl rfl (Nat.le_of_ble_eq_true rfl) rfl ?_
  refine pn_iconst dX10_brave_23 rfl ic_0 ?_
  refine pn_istore_n (ls' := [.ref 0, .int a1, .int (-1 : Int32), .int (0 : Int32)]) dX10_brave_24 rfl rfl (Nat.le_of_ble_eq_true rfl) rfl ?_
  exact wX10_brave_25 Γ 5000 a1 (-1 : Int32) (0 : Int32) σ2

set_option maxRecDepth 20000 in
set_option maxHeartbeats 4000000 in
theorem ct_X10_areAlike (Γ : pn_G) (a1 : Int32) (a2 : Int32) (σ : pn_S) : ∀ r, fX10_areAlike a1 a2 σ = some r → pn_C Γ 2 mX10_areAlike [.ref 0, .int a1, .int a2] σ ((pn_p σ) r) := by
  refine pn_of (ls := [.ref 0, .int a1, .int a2]) (by decide) rfl (pn_cat rfl) rfl (Nat.le_of_ble_eq_true rfl) ?_
  rw [fX10_areAlike]
  refine pn_aload_n dX10_areAlike_0 rfl rfl rfl ?_
  refine pn_geta dX10_areAlike_1 rfl lf_X10_19_9 qt_0 qk_0 qr_0_1 qt_5 ?_
  refine pn_iload_n dX10_areAlike_4 rfl rfl rfl ?_
  refine pn_iconst dX10_areAlike_5 rfl ic_0 ?_
  refine pn_cp (fun r9 h9 => pn_LKV dX10_areAlike_6 lm_X10_155 (ct_X8_of Γ 5 qv_5 a1 (0 : Int32) σ r9 h9) (by decide) qt_5 qk_5 rfl rfl (Nat.le_of_ble_eq_true rfl)) rfl (fun x1 => ?_)
  refine pn_aload_n dX10_areAlike_9 rfl rfl rfl ?_
  refine pn_geta dX10_areAlike_10 rfl lf_X10_19_9 qt_0 qk_0 qr_0_1 qt_5 ?_
  refine pn_iload_n dX10_areAlike_13 rfl rfl rfl ?_
  refine pn_iconst dX10_areAlike_14 rfl ic_0 ?_
  refine pn_cp (fun r9 h9 => pn_LKV dX10_areAlike_15 lm_X10_155 (ct_X8_of Γ 5 qv_5 a2 (0 : Int32) σ r9 h9) (by decide) qt_5 qk_5 rfl rfl (Nat.le_of_ble_eq_true rfl)) rfl (fun x2 => ?_)
  refine pn_icmp_ne (tgt := 67) dX10_areAlike_18 rfl rfl (fun c3 => ?_) (fun c3 => ?_)
  · refine pn_aload_n dX10_areAlike_21 rfl rfl rfl ?_
    refine pn_geta dX10_areAlike_22 rfl lf_X10_19_9 qt_0 qk_0 qr_0_1 qt_5 ?_
    refine pn_iload_n dX10_areAlike_25 rfl rfl rfl ?_
    refine pn_iconst dX10_areAlike_26 rfl ic_1 ?_
    refine pn_cp (fun r9 h9 => pn_LKV dX10_areAlike_27 lm_X10_155 (ct_X8_of Γ 5 qv_5 a1 (1 : Int32) σ r9 h9) (by decide) qt_5 qk_5 rfl rfl (Nat.le_of_ble_eq_true rfl)) rfl (fun x4 => ?_)
    refine pn_aload_n dX10_areAlike_30 rfl rfl rfl ?_
    refine pn_geta dX10_areAlike_31 rfl lf_X10_19_9 qt_0 qk_0 qr_0_1 qt_5 ?_
    refine pn_iload_n dX10_areAlike_34 rfl rfl rfl ?_
    refine pn_iconst dX10_areAlike_35 rfl ic_1 ?_
    refine pn_cp (fun r9 h9 => pn_LKV dX10_areAlike_36 lm_X10_155 (ct_X8_of Γ 5 qv_5 a2 (1 : Int32) σ r9 h9) (by decide) qt_5 qk_5 rfl rfl (Nat.le_of_ble_eq_true rfl)) rfl (fun x5 => ?_)
    refine pn_icmp_ne (tgt := 67) dX10_areAlike_39 rfl rfl (fun c6 => ?_) (fun c6 => ?_)
    · refine pn_aload_n dX10_areAlike_42 rfl rfl rfl ?_
      refine pn_geta dX10_areAlike_43 rfl lf_X10_19_9 qt_0 qk_0 qr_0_1 qt_5 ?_
      refine pn_iload_n dX10_areAlike_46 rfl rfl rfl ?_
      refine pn_iconst dX10_areAlike_47 rfl ic_2 ?_
      refine pn_cp (fun r9 h9 => pn_LKV dX10_areAlike_48 lm_X10_155 (ct_X8_of Γ 5 qv_5 a1 (2 : Int32) σ r9 h9) (by decide) qt_5 qk_5 rfl rfl (Nat.le_of_ble_eq_true rfl)) rfl (fun x7 => ?_)
      refine pn_aload_n dX10_areAlike_51 rfl rfl rfl ?_
      refine pn_geta dX10_areAlike_52 rfl lf_X10_19_9 qt_0 qk_0 qr_0_1 qt_5 ?_
      refine pn_iload_n dX10_areAlike_55 rfl rfl rfl ?_
      refine pn_iconst dX10_areAlike_56 rfl ic_2 ?_
      refine pn_cp (fun r9 h9 => pn_LKV dX10_areAlike_57 lm_X10_155 (ct_X8_of Γ 5 qv_5 a2 (2 : Int32) σ r9 h9) (by decide) qt_5 qk_5 rfl rfl (Nat.le_of_ble_eq_true rfl)) rfl (fun x8 => ?_)
      refine pn_icmp_ne (tgt := 67) dX10_areAlike_60 rfl rfl (fun c9 => ?_) (fun c9 => ?_)
      · refine pn_iconst dX10_areAlike_63 rfl ic_1 ?_
        refine pn_goto (pc' := 68) dX10_areAlike_64 rfl ?_
        exact pn_iretv dX10_areAlike_68 rfl rfl rfl
      · refine pn_iconst dX10_areAlike_67 rfl ic_0 ?_
        exact pn_iretv dX10_areAlike_68 rfl rfl rfl
    · refine pn_iconst dX10_areAlike_67 rfl ic_0 ?_
      exact pn_iretv dX10_areAlike_68 rfl rfl rfl
  · refine pn_iconst dX10_areAlike_67 rfl ic_0 ?_
    exact pn_iretv dX10_areAlike_68 rfl rfl rfl

set_option maxRecDepth 20000 in
set_option maxHeartbeats 4000000 in
theorem wX10_alike_19 (Γ : pn_G)  (σ : pn_S) (rec4 : Int32 → Int32 → pn_S → Option (Int32)) (hrec4 : ∀ (l1 : Int32) (l2 : Int32), pn_W9 Γ 3 mX10_alike (pn_p σ) 4 [.ref 0, .int l1, .int l2, .null] [] σ (rec4 l1 l2 σ)) : ∀ (n9 : Nat) (l1 : Int32) (l2 : Int32) (l3 : Int32), pn_W9 Γ 3 mX10_alike (pn_p σ) 19 [.ref 0, .int l1, .int l2, .int l3] [] σ (fX10_alike_19 rec4 n9 l1 l2 l3 σ) := by
  intro n9
  induction n9 with
  | zero => intro l1 l2 l3; exact pn_none
  | succ n9 ih =>
    intro l1 l2 l3
    rw [fX10_alike_19]
    refine pn_iload_n dX10_alike_19 rfl rfl rfl ?_
    refine pn_aload_n dX10_alike_20 rfl rfl rfl ?_
    refine pn_geta dX10_alike_21 rfl lf_X10_19_9 qt_0 qk_0 qr_0_1 qt_5 ?_
    refine pn_geti dX10_alike_24 rfl lf_X10_250_7 qt_5 qk_5 qr_5_2 ?_
    refine pn_icmp_ge (tgt := 48) dX10_alike_27 rfl rfl (fun c2 => ?_) (fun c2 => ?_)
    · refine pn_iinc (ls' := [.ref 0, .int l1, .int (l2 + (1 : Int32)), .int l3]) dX10_alike_48 rfl (Nat.le_of_ble_eq_true rfl) rfl (congrArg (fun z => l2 + z) ic_1) rfl ?_
      refine pn_goto (pc' := 4) dX10_alike_51 rfl ?_
      exact pn_wk (pn_leC rfl (pn_leC rfl (pn_leC rfl (pn_leN pn_le0)))) (hrec4 l1 (l2 + (1 : Int32)))
    · refine pn_aload_n dX10_alike_30 rfl rfl rfl ?_
      refine pn_iload_n dX10_alike_31 rfl rfl rfl ?_
      refine pn_iload_n dX10_alike_32 rfl rfl rfl ?_
      refine pn_cp (fun r9 h9 => pn_LKV dX10_alike_33 lm_X10_298 (ct_X10_areAlike Γ l2 l3 σ r9 h9) (by decide) qt_0 qk_0 rfl rfl (Nat.le_of_ble_eq_true rfl)) rfl (fun x3 => ?_)
      refine pn_if_eq (tgt := 42) dX10_alike_36 rfl rfl (fun c4 => ?_) (fun c4 => ?_)
      · refine pn_iinc (ls' := [.ref 0, .int l1, .int l2, .int (l3 + (1 : Int32))]) dX10_alike_42 rfl (Nat.le_of_ble_eq_true rfl) rfl (congrArg (fun z => l3 + z) ic_1) rfl ?_
        refine pn_goto (pc' := 19) dX10_alike_45 rfl ?_
        exact ih l1 l2 (l3 + (1 : Int32))
      · refine pn_iinc (ls' := [.ref 0, .int (l1 + (1 : Int32)), .int l2, .int l3]) dX10_alike_39 rfl (Nat.le_of_ble_eq_true rfl) rfl (congrArg (fun z => l1 + z) ic_1) rfl ?_
        refine pn_iinc (ls' := [.ref 0, .int (l1 + (1 : Int32)), .int l2, .int (l3 + (1 : Int32))]) dX10_alike_42 rfl (Nat.le_of_ble_eq_true rfl) rfl (congrArg (fun z => l3 + z) ic_1) rfl ?_
        refine pn_goto (pc' := 19) dX10_alike_45 rfl ?_
        exact ih (l1 + (1 : Int32)) l2 (l3 + (1 : Int32))

set_option maxRecDepth 20000 in
set_option maxHeartbeats 4000000 in
theorem wX10_alike_4 (Γ : pn_G)  (σ : pn_S) : ∀ (n9 : Nat) (l1 : Int32) (l2 : Int32), pn_W9 Γ 3 mX10_alike (pn_p σ) 4 [.ref 0, .int l1, .int l2, .null] [] σ (fX10_alike_4 n9 l1 l2 σ) := by
  intro n9
  induction n9 with
  | zero => intro l1 l2; exact pn_none
  | succ n9 ih =>
    intro l1 l2
    rw [fX10_alike_4]
    refine pn_iload_n dX10_alike_4 rfl rfl rfl ?_
    refine pn_aload_n dX10_alike_5 rfl rfl rfl ?_
    refine pn_geta dX10_alike_6 rfl lf_X10_19_9 qt_0 qk_0 qr_0_1 qt_5 ?_
    refine pn_geti dX10_alike_9 rfl lf_X10_250_7 qt_5 qk_5 qr_5_2 ?_
    refine pn_icmp_ge (tgt := 54) dX10_alike_12 rfl rfl (fun c1 => ?_) (fun c1 => ?_)
    · refine pn_iload_n dX10_alike_54 rfl rfl rfl ?_
      exact pn_iretv dX10_alike_55 rfl rfl rfl
    · refine pn_iload_n dX10_alike_15 rfl rfl rfl ?_
      refine pn_iconst dX10_alike_16 rfl ic_1 ?_
      refine pn_iadd dX10_alike_17 rfl ?_
      refine pn_istore_n (ls' := [.ref 0, .int l1, .int l2, .int (l2 + (1 : Int32))]) dX10_alike_18 rfl rfl (Nat.le_of_ble_eq_true rfl) rfl ?_
      exact wX10_alike_19 Γ σ (fX10_alike_4 n9) (ih) 5000 l1 l2 (l2 + (1 : Int32))

set_option maxRecDepth 20000 in
set_option maxHeartbeats 4000000 in
theorem ct_X10_alike (Γ : pn_G)  (σ : pn_S) : ∀ r, fX10_alike  σ = some r → pn_C Γ 3 mX10_alike [.ref 0] σ ((pn_p σ) r) := by
  refine pn_of (ls := [.ref 0, .null, .null, .null]) (by decide) rfl (pn_cat rfl) rfl (Nat.le_of_ble_eq_true rfl) ?_
  rw [fX10_alike]
  refine pn_iconst dX10_alike_0 rfl ic_0 ?_
  refine pn_istore_n (ls' := [.ref 0, .int (0 : Int32), .null, .null]) dX10_alike_1 rfl rfl (Nat.le_of_ble_eq_true rfl) rfl ?_
  refine pn_iconst dX10_alike_2 rfl ic_0 ?_
  refine pn_istore_n (ls' := [.ref 0, .int (0 : Int32), .int (0 : Int32), .null]) dX10_alike_3 rfl rfl (Nat.le_of_ble_eq_true rfl) rfl ?_
  exact wX10_alike_4 Γ σ 5000 (0 : Int32) (0 : Int32)

set_option maxRecDepth 20000 in
set_option maxHeartbeats 4000000 in
theorem wX10_ends_26 (Γ : pn_G)  : ∀ (n9 : Nat) (l1 : Int32) (σ : pn_S), pn_W9 Γ 6 mX10_ends pn_i 26 [.ref 0, .int l1] [] σ (fX10_ends_26 n9 l1 σ) := by
  intro n9
  induction n9 with
  | zero => intro l1 σ; exact pn_none
  | succ n9 ih =>
    intro l1 σ
    rw [fX10_ends_26]
    refine pn_iload_n dX10_ends_26 rfl rfl rfl ?_
    refine pn_bipush dX10_ends_27 rfl bc_60 ?_
    refine pn_icmp_gt (tgt := 61) dX10_ends_29 rfl rfl (fun c3 => ?_) (fun c3 => ?_)
    · refine pn_iconst dX10_ends_61 rfl ic_m1 ?_
      exact pn_iretv dX10_ends_62 rfl rfl rfl
    · refine pn_aload_n dX10_ends_32 rfl rfl rfl ?_
      refine pn_aload_n dX10_ends_33 rfl rfl rfl ?_
      refine pn_geta dX10_ends_34 rfl lf_X10_23_9 qt_0 qk_0 qr_0_2 qt_8 ?_
      refine pn_iconst dX10_ends_37 rfl ic_0 ?_
      refine pn_ci (fun r9 h9 => pn_LKV dX10_ends_38 lm_X10_208 (ct_X10_passNight Γ 8 qv_8 (0 : Int32) σ r9 h9) (by decide) qt_0 qk_0 rfl rfl (Nat.le_of_ble_eq_true rfl)) rfl (fun x4 σ4 => ?_)
      refine pn_popi dX10_ends_41 rfl ?_
      refine pn_aload_n dX10_ends_42 rfl rfl rfl ?_
      refine pn_geta dX10_ends_43 rfl lf_X10_23_9 qt_0 qk_0 qr_0_2 qt_8 ?_
      refine pn_geti dX10_ends_46 rfl lf_X10_179_7 qt_8 qk_8 qr_8_4 ?_
      refine pn_iconst dX10_ends_49 rfl ic_m1 ?_
      refine pn_icmp_ne (tgt := 55) dX10_ends_50 rfl rfl (fun c5 => ?_) (fun c5 => ?_)
      · refine pn_iload_n dX10_ends_53 rfl rfl rfl ?_
        exact pn_iretv dX10_ends_54 rfl rfl rfl
      · refine pn_iinc (ls' := [.ref 0, .int (l1 + (1 : Int32))]) dX10_ends_55 rfl (Nat.le_of_ble_eq_true rfl) rfl (congrArg (fun z => l1 + z) ic_1) rfl ?_
        refine pn_goto (pc' := 26) dX10_ends_58 rfl ?_
        exact ih (l1 + (1 : Int32)) σ4

set_option maxRecDepth 20000 in
set_option maxHeartbeats 4000000 in
theorem ct_X10_ends (Γ : pn_G)  (σ : pn_S) : ∀ r, fX10_ends  σ = some r → pn_C Γ 6 mX10_ends [.ref 0] σ (pn_i r) := by
  refine pn_of (ls := [.ref 0, .null]) (by decide) rfl (pn_cat rfl) rfl (Nat.le_of_ble_eq_true rfl) ?_
  rw [fX10_ends]
  refine pn_aload_n dX10_ends_0 rfl rfl rfl ?_
  refine pn_geta dX10_ends_1 rfl lf_X10_19_9 qt_0 qk_0 qr_0_1 qt_5 ?_
  refine pn_geti dX10_ends_4 rfl lf_X10_179_7 qt_5 qk_5 qr_5_4 ?_
  refine pn_iconst dX10_ends_7 rfl ic_m1 ?_
  refine pn_icmp_ne (tgt := 13) dX10_ends_8 rfl rfl (fun c1 => ?_) (fun c1 => ?_)
  · refine pn_iconst dX10_ends_11 rfl ic_m1 ?_
    exact pn_iretv dX10_ends_12 rfl rfl rfl
  · refine pn_aload_n dX10_ends_13 rfl rfl rfl ?_
    refine pn_geta dX10_ends_14 rfl lf_X10_23_9 qt_0 qk_0 qr_0_2 qt_8 ?_
    refine pn_aload_n dX10_ends_17 rfl rfl rfl ?_
    refine pn_geta dX10_ends_18 rfl lf_X10_19_9 qt_0 qk_0 qr_0_1 qt_5 ?_
    refine pn_cv (fun r9 h9 => pn_LKV dX10_ends_21 lm_X10_117 (ct_X8_copy Γ 8 qv_8 5 qv_5 σ r9 h9) (by decide) qt_8 qk_8 rfl rfl (Nat.le_of_ble_eq_true rfl)) rfl (fun σ2 => ?_)
    refine pn_iconst dX10_ends_24 rfl ic_1 ?_
    refine pn_istore_n (ls' := [.ref 0, .int (1 : Int32)]) dX10_ends_25 rfl rfl (Nat.le_of_ble_eq_true rfl) rfl ?_
    exact wX10_ends_26 Γ 5000 (1 : Int32) σ2

set_option maxRecDepth 20000 in
set_option maxHeartbeats 4000000 in
theorem wX10_tryNights_22 (Γ : pn_G)  : ∀ (n9 : Nat) (l1 : Int32) (l2 : Int32) (l4 : Int32) (σ : pn_S), pn_W9 Γ 6 mX10_tryNights pn_v 22 [.ref 0, .int l1, .int l2, .null, .int l4] [] σ (fX10_tryNights_22 n9 l1 l2 l4 σ) := by
  intro n9
  induction n9 with
  | zero => intro l1 l2 l4 σ; exact pn_none
  | succ n9 ih =>
    intro l1 l2 l4 σ
    rw [fX10_tryNights_22]
    refine pn_iload dX10_tryNights_22 rfl rfl ?_
    refine pn_iload_n dX10_tryNights_24 rfl rfl rfl ?_
    refine pn_icmp_ge (tgt := 44) dX10_tryNights_25 rfl rfl (fun c2 => ?_) (fun c2 => ?_)
    · exact pn_vretv dX10_tryNights_44 rfl rfl
    · refine pn_aload_n dX10_tryNights_28 rfl rfl rfl ?_
      refine pn_aload_n dX10_tryNights_29 rfl rfl rfl ?_
      refine pn_geta dX10_tryNights_30 rfl lf_X10_23_9 qt_0 qk_0 qr_0_2 qt_8 ?_
      refine pn_iload_n dX10_tryNights_33 rfl rfl rfl ?_
      refine pn_ci (fun r9 h9 => pn_LKV dX10_tryNights_34 lm_X10_208 (ct_X10_passNight Γ 8 qv_8 l2 σ r9 h9) (by decide) qt_0 qk_0 rfl rfl (Nat.le_of_ble_eq_true rfl)) rfl (fun x3 σ3 => ?_)
      refine pn_popi dX10_tryNights_37 rfl ?_
      refine pn_iinc (ls' := [.ref 0, .int l1, .int l2, .null, .int (l4 + (1 : Int32))]) dX10_tryNights_38 rfl (Nat.le_of_ble_eq_true rfl) rfl (congrArg (fun z => l4 + z) ic_1) rfl ?_
      refine pn_goto (pc' := 22) dX10_tryNights_41 rfl ?_
      exact ih l1 l2 (l4 + (1 : Int32)) σ3

set_option maxRecDepth 20000 in
set_option maxHeartbeats 4000000 in
theorem ct_X10_tryNights (Γ : pn_G) (a1 : Int32) (a2 : Int32) (a3 : Int32) (σ : pn_S) : ∀ r, fX10_tryNights a1 a2 a3 σ = some r → pn_C Γ 6 mX10_tryNights [.ref 0, .int a1, .int a2, .int a3] σ (pn_v r) := by
  refine pn_of (ls := [.ref 0, .int a1, .int a2, .int a3, .null]) (by decide) rfl (pn_cat rfl) rfl (Nat.le_of_ble_eq_true rfl) ?_
  rw [fX10_tryNights]
  refine pn_aload_n dX10_tryNights_0 rfl rfl rfl ?_
  refine pn_geta dX10_tryNights_1 rfl lf_X10_23_9 qt_0 qk_0 qr_0_2 qt_8 ?_
  refine pn_aload_n dX10_tryNights_4 rfl rfl rfl ?_
  refine pn_geta dX10_tryNights_5 rfl lf_X10_19_9 qt_0 qk_0 qr_0_1 qt_5 ?_
  refine pn_cv (fun r9 h9 => pn_LKV dX10_tryNights_8 lm_X10_117 (ct_X8_copy Γ 8 qv_8 5 qv_5 σ r9 h9) (by decide) qt_8 qk_8 rfl rfl (Nat.le_of_ble_eq_true rfl)) rfl (fun σ1 => ?_)
  refine pn_aload_n dX10_tryNights_11 rfl rfl rfl ?_
  refine pn_geta dX10_tryNights_12 rfl lf_X10_23_9 qt_0 qk_0 qr_0_2 qt_8 ?_
  refine pn_iload_n dX10_tryNights_15 rfl rfl rfl ?_
  refine pn_puti dX10_tryNights_16 rfl lf_X10_301_7 (fpi_7_12 a3) qt_8 qk_8 qr_8_12 ?_
  refine pn_iconst dX10_tryNights_19 rfl ic_0 ?_
  refine pn_istore (ls' := [.ref 0, .int a1, .int a2, .int a3, .int (0 : Int32)]) dX10_tryNights_20 rfl (Nat.le_of_ble_eq_true rfl) rfl ?_
  exact pn_wk (pn_leC rfl (pn_leC rfl (pn_leC rfl (pn_leN (pn_leC rfl pn_le0))))) (wX10_tryNights_22 Γ 5000 a1 a2 (0 : Int32) (pn_up σ1 8 12 a3))

set_option maxRecDepth 20000 in
set_option maxHeartbeats 4000000 in
theorem ct_X10_spent (Γ : pn_G) (a1 : Int32) (a2 : Int32) (σ : pn_S) : ∀ r, fX10_spent a1 a2 σ = some r → pn_C Γ 7 mX10_spent [.ref 0, .int a1, .int a2] σ (pn_xi r) := by
  refine pn_of (ls := [.ref 0, .int a1, .int a2]) (by decide) rfl (pn_cat rfl) rfl (Nat.le_of_ble_eq_true rfl) ?_
  rw [fX10_spent]
  refine pn_aload_n dX10_spent_0 rfl rfl rfl ?_
  refine pn_iload_n dX10_spent_1 rfl rfl rfl ?_
  refine pn_cxv (fun _ _ => rfl) rfl (fun r9 h9 => pn_LKV dX10_spent_2 lm_X10_149 (ct_X10_checkPerson Γ a1 σ r9 h9) (by decide) qt_0 qk_0 rfl rfl (Nat.le_of_ble_eq_true rfl)) rfl (fun σ1 => ?_)
  refine pn_iload_n dX10_spent_5 rfl rfl rfl ?_
  refine pn_iconst dX10_spent_6 rfl ic_0 ?_
  refine pn_bipush dX10_spent_7 rfl bc_60 ?_
  refine pn_cxv (fun _ _ => rfl) rfl (fun r9 h9 => pn_LKS dX10_spent_9 lm_X10_199 (ct_X10_checkNumber Γ a2 (0 : Int32) (60 : Int32) σ1 r9 h9) (by decide) rfl rfl (Nat.le_of_ble_eq_true rfl)) rfl (fun σ2 => ?_)
  refine pn_aload_n dX10_spent_12 rfl rfl rfl ?_
  refine pn_iload_n dX10_spent_13 rfl rfl rfl ?_
  refine pn_iconst dX10_spent_14 rfl ic_0 ?_
  refine pn_aload_n dX10_spent_15 rfl rfl rfl ?_
  refine pn_geta dX10_spent_16 rfl lf_X10_19_9 qt_0 qk_0 qr_0_1 qt_5 ?_
  refine pn_geti dX10_spent_19 rfl lf_X10_301_7 qt_5 qk_5 qr_5_12 ?_
  refine pn_cv (fun r9 h9 => pn_LKV dX10_spent_22 lm_X10_304 (ct_X10_tryNights Γ a2 (0 : Int32) (σ2 5 12) σ2 r9 h9) (by decide) qt_0 qk_0 rfl rfl (Nat.le_of_ble_eq_true rfl)) rfl (fun σ3 => ?_)
  refine pn_aload_n dX10_spent_25 rfl rfl rfl ?_
  refine pn_geta dX10_spent_26 rfl lf_X10_19_9 qt_0 qk_0 qr_0_1 qt_5 ?_
  refine pn_iload_n dX10_spent_29 rfl rfl rfl ?_
  refine pn_iconst dX10_spent_30 rfl ic_3 ?_
  refine pn_cp (fun r9 h9 => pn_LKV dX10_spent_31 lm_X10_155 (ct_X8_of Γ 5 qv_5 a1 (3 : Int32) σ3 r9 h9) (by decide) qt_5 qk_5 rfl rfl (Nat.le_of_ble_eq_true rfl)) rfl (fun x4 => ?_)
  refine pn_aload_n dX10_spent_34 rfl rfl rfl ?_
  refine pn_geta dX10_spent_35 rfl lf_X10_23_9 qt_0 qk_0 qr_0_2 qt_8 ?_
  refine pn_iload_n dX10_spent_38 rfl rfl rfl ?_
  refine pn_iconst dX10_spent_39 rfl ic_3 ?_
  refine pn_cp (fun r9 h9 => pn_LKV dX10_spent_40 lm_X10_155 (ct_X8_of Γ 8 qv_8 a1 (3 : Int32) σ3 r9 h9) (by decide) qt_8 qk_8 rfl rfl (Nat.le_of_ble_eq_true rfl)) rfl (fun x5 => ?_)
  refine pn_isub dX10_spent_43 rfl ?_
  exact pn_iretv dX10_spent_44 rfl rfl rfl

set_option maxRecDepth 20000 in
set_option maxHeartbeats 4000000 in
theorem ct_X10_calm (Γ : pn_G) (a1 : Int32) (σ : pn_S) : ∀ r, fX10_calm a1 σ = some r → pn_C Γ 7 mX10_calm [.ref 0, .int a1] σ (pn_xi r) := by
  refine pn_of (ls := [.ref 0, .int a1]) (by decide) rfl (pn_cat rfl) rfl (Nat.le_of_ble_eq_true rfl) ?_
  rw [fX10_calm]
  refine pn_iload_n dX10_calm_0 rfl rfl rfl ?_
  refine pn_iconst dX10_calm_1 rfl ic_0 ?_
  refine pn_bipush dX10_calm_2 rfl bc_60 ?_
  refine pn_cxv (fun _ _ => rfl) rfl (fun r9 h9 => pn_LKS dX10_calm_4 lm_X10_199 (ct_X10_checkNumber Γ a1 (0 : Int32) (60 : Int32) σ r9 h9) (by decide) rfl rfl (Nat.le_of_ble_eq_true rfl)) rfl (fun σ1 => ?_)
  refine pn_aload_n dX10_calm_7 rfl rfl rfl ?_
  refine pn_geta dX10_calm_8 rfl lf_X10_19_9 qt_0 qk_0 qr_0_1 qt_5 ?_
  refine pn_geti dX10_calm_11 rfl lf_X10_179_7 qt_5 qk_5 qr_5_4 ?_
  refine pn_iconst dX10_calm_14 rfl ic_m1 ?_
  refine pn_icmp_ne (tgt := 20) dX10_calm_15 rfl rfl (fun c2 => ?_) (fun c2 => ?_)
  · refine pn_iconst dX10_calm_18 rfl ic_0 ?_
    exact pn_iretv dX10_calm_19 rfl rfl rfl
  · refine pn_aload_n dX10_calm_20 rfl rfl rfl ?_
    refine pn_iload_n dX10_calm_21 rfl rfl rfl ?_
    refine pn_iconst dX10_calm_22 rfl ic_0 ?_
    refine pn_aload_n dX10_calm_23 rfl rfl rfl ?_
    refine pn_geta dX10_calm_24 rfl lf_X10_19_9 qt_0 qk_0 qr_0_1 qt_5 ?_
    refine pn_geti dX10_calm_27 rfl lf_X10_301_7 qt_5 qk_5 qr_5_12 ?_
    refine pn_cv (fun r9 h9 => pn_LKV dX10_calm_30 lm_X10_304 (ct_X10_tryNights Γ a1 (0 : Int32) (σ1 5 12) σ1 r9 h9) (by decide) qt_0 qk_0 rfl rfl (Nat.le_of_ble_eq_true rfl)) rfl (fun σ3 => ?_)
    refine pn_aload_n dX10_calm_33 rfl rfl rfl ?_
    refine pn_geta dX10_calm_34 rfl lf_X10_23_9 qt_0 qk_0 qr_0_2 qt_8 ?_
    refine pn_aload_n dX10_calm_37 rfl rfl rfl ?_
    refine pn_geta dX10_calm_38 rfl lf_X10_19_9 qt_0 qk_0 qr_0_1 qt_5 ?_
    refine pn_geti dX10_calm_41 rfl lf_X10_179_7 qt_5 qk_5 qr_5_4 ?_
    refine pn_iconst dX10_calm_44 rfl ic_2 ?_
    refine pn_cp (fun r9 h9 => pn_LKV dX10_calm_45 lm_X10_155 (ct_X8_of Γ 8 qv_8 (σ3 5 4) (2 : Int32) σ3 r9 h9) (by decide) qt_8 qk_8 rfl rfl (Nat.le_of_ble_eq_true rfl)) rfl (fun x4 => ?_)
    exact pn_iretv dX10_calm_48 rfl rfl rfl

