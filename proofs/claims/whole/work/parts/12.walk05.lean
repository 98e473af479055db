set_option maxRecDepth 20000 in
set_option maxHeartbeats 4000000 in
theorem ct_X0_pansOf (Γ : pn_G) (a1 : Int32) (σ : pn_S) : ∀ r, fX0_pansOf a1 σ = some r → pn_C Γ 1 mX0_pansOf [.ref 37, .int a1] σ ((pn_p σ) r) := by
  refine pn_of (ls := [.ref 37, .int a1]) (by decide) rfl (pn_cat rfl) rfl (Nat.le_of_ble_eq_true rfl) ?_
  rw [fX0_pansOf]
  refine pn_iload_n dX0_pansOf_0 rfl rfl rfl ?_
  refine pn_if_lt (tgt := 19) dX0_pansOf_1 rfl rfl (fun c1 => ?_) (fun c1 => ?_)
  · refine pn_iconst dX0_pansOf_19 rfl ic_0 ?_
    exact pn_iretv dX0_pansOf_20 rfl rfl rfl
  · refine pn_iload_n dX0_pansOf_4 rfl rfl rfl ?_
    refine pn_bipush dX0_pansOf_5 rfl bc_8 ?_
    refine pn_icmp_ge (tgt := 19) dX0_pansOf_7 rfl rfl (fun c2 => ?_) (fun c2 => ?_)
    · refine pn_iconst dX0_pansOf_19 rfl ic_0 ?_
      exact pn_iretv dX0_pansOf_20 rfl rfl rfl
    · refine pn_aload_n dX0_pansOf_10 rfl rfl rfl ?_
      refine pn_geta dX0_pansOf_11 rfl lf_X0_15_0 qt_37 qk_37 qr_37_1 qt_39 ?_
      refine pn_iload_n dX0_pansOf_14 rfl rfl rfl ?_
      refine pn_iald dX0_pansOf_15 rfl qt_39 qk_39 ql_39 ?_
      refine pn_goto (pc' := 20) dX0_pansOf_16 rfl ?_
      exact pn_iretv dX0_pansOf_20 rfl rfl rfl

set_option maxRecDepth 20000 in
set_option maxHeartbeats 4000000 in
theorem ct_X10_share (Γ : pn_G) (a1 : Int32) (a2 : Int32) (σ : pn_S) : ∀ r, fX10_share a1 a2 σ = some r → pn_C Γ 6 mX10_share [.ref 0, .int a1, .int a2] σ (pn_xi r) := by
  refine pn_of (ls := [.ref 0, .int a1, .int a2]) (by decide) rfl (pn_cat rfl) rfl (Nat.le_of_ble_eq_true rfl) ?_
  rw [fX10_share]
  refine pn_aload_n dX10_share_0 rfl rfl rfl ?_
  refine pn_iload_n dX10_share_1 rfl rfl rfl ?_
  refine pn_iload_n dX10_share_2 rfl rfl rfl ?_
  refine pn_cxv (fun _ _ => rfl) rfl (fun r9 h9 => pn_LKV dX10_share_3 lm_X10_159 (ct_X10_checkTwo Γ a1 a2 σ r9 h9) (by decide) qt_0 qk_0 rfl rfl (Nat.le_of_ble_eq_true rfl)) rfl (fun σ1 => ?_)
  refine pn_aload_n dX10_share_6 rfl rfl rfl ?_
  refine pn_iload_n dX10_share_7 rfl rfl rfl ?_
  refine pn_cv (fun r9 h9 => pn_LKV dX10_share_8 lm_X10_189 (ct_X10_summonTo Γ a2 σ1 r9 h9) (by decide) qt_0 qk_0 rfl rfl (Nat.le_of_ble_eq_true rfl)) rfl (fun σ2 => ?_)
  refine pn_aload_n dX10_share_11 rfl rfl rfl ?_
  refine pn_geta dX10_share_12 rfl lf_X10_63_9 qt_0 qk_0 qr_0_9 qt_37 ?_
  refine pn_geti dX10_share_15 rfl lf_X10_212_0 qt_37 qk_37 qr_37_4 ?_
  refine pn_iload_n dX10_share_18 rfl rfl rfl ?_
  refine pn_cp (fun r9 h9 => pn_LKS dX10_share_19 lm_X10_253 (ct_X10_hasBit Γ (σ2 37 4) a1 σ2 r9 h9) (by decide) rfl rfl (Nat.le_of_ble_eq_true rfl)) rfl (fun x3 => ?_)
  refine pn_if_eq (tgt := 35) dX10_share_22 rfl rfl (fun c4 => ?_) (fun c4 => ?_)
  · refine pn_iconst dX10_share_35 rfl ic_0 ?_
    exact pn_iretv dX10_share_36 rfl rfl rfl
  · refine pn_aload_n dX10_share_25 rfl rfl rfl ?_
    refine pn_geta dX10_share_26 rfl lf_X10_63_9 qt_0 qk_0 qr_0_9 qt_37 ?_
    refine pn_geti dX10_share_29 rfl lf_X10_222_0 qt_37 qk_37 qr_37_6 ?_
    refine pn_if_gt (tgt := 37) dX10_share_32 rfl rfl (fun c5 => ?_) (fun c5 => ?_)
    · refine pn_bipush dX10_share_37 rfl bc_100 ?_
      refine pn_aload_n dX10_share_39 rfl rfl rfl ?_
      refine pn_geta dX10_share_40 rfl lf_X10_63_9 qt_0 qk_0 qr_0_9 qt_37 ?_
      refine pn_iload_n dX10_share_43 rfl rfl rfl ?_
      refine pn_cp (fun r9 h9 => pn_LKV dX10_share_44 lm_X10_308 (ct_X0_pansOf Γ a1 σ2 r9 h9) (by decide) qt_37 qk_37 rfl rfl (Nat.le_of_ble_eq_true rfl)) rfl (fun x6 => ?_)
      refine pn_imul dX10_share_47 rfl ?_
      refine pn_aload_n dX10_share_48 rfl rfl rfl ?_
      refine pn_geta dX10_share_49 rfl lf_X10_63_9 qt_0 qk_0 qr_0_9 qt_37 ?_
      refine pn_geti dX10_share_52 rfl lf_X10_222_0 qt_37 qk_37 qr_37_6 ?_
      refine pn_idiv dX10_share_55 rfl ?_
      exact pn_iretv dX10_share_56 rfl rfl rfl
    · refine pn_iconst dX10_share_35 rfl ic_0 ?_
      exact pn_iretv dX10_share_36 rfl rfl rfl

set_option maxRecDepth 20000 in
set_option maxHeartbeats 4000000 in
theorem wX8_purses_4 (Γ : pn_G) (v0 : Nat) (hv0 : pn_isV v0) (σ : pn_S) : ∀ (n9 : Nat) (l1 : Int32) (l2 : Int32), pn_W9 Γ 2 mX8_purses (pn_p σ) 4 [.ref v0, .int l1, .int l2] [] σ (fX8_purses_4 v0 n9 l1 l2 σ) := by
  intro n9
  induction n9 with
  | zero => intro l1 l2; exact pn_none
  | succ n9 ih =>
    intro l1 l2
    rw [fX8_purses_4]
    refine pn_iload_n dX8_purses_4 rfl rfl rfl ?_
    refine pn_aload_n dX8_purses_5 rfl rfl rfl ?_
    refine pn_geti dX8_purses_6 rfl lf_X8_18_7 hv0.1.1 hv0.1.2 (pn_RVi hv0.1.2 (by decide)) ?_
    refine pn_icmp_ge (tgt := 27) dX8_purses_9 rfl rfl (fun c1 => ?_) (fun c1 => ?_)
    · refine pn_iload_n dX8_purses_27 rfl rfl rfl ?_
      exact pn_iretv dX8_purses_28 rfl rfl rfl
    · refine pn_iload_n dX8_purses_12 rfl rfl rfl ?_
      refine pn_aload_n dX8_purses_13 rfl rfl rfl ?_
      refine pn_iload_n dX8_purses_14 rfl rfl rfl ?_
      refine pn_iconst dX8_purses_15 rfl ic_3 ?_
      refine pn_cp (fun r9 h9 => pn_LKV dX8_purses_16 lm_X8_76 (ct_X8_of Γ v0 hv0 l2 (3 : Int32) σ r9 h9) (by decide) hv0.1.1 hv0.1.2 rfl rfl (Nat.le_of_ble_eq_true rfl)) rfl (fun x2 => ?_)
      refine pn_iadd dX8_purses_19 rfl ?_
      refine pn_istore_n (ls' := [.ref v0, .int (l1 + x2), .int l2]) dX8_purses_20 rfl rfl (Nat.le_of_ble_eq_true rfl) rfl ?_
      refine pn_iinc (ls' := [.ref v0, .int (l1 + x2), .int (l2 + (1 : Int32))]) dX8_purses_21 rfl (Nat.le_of_ble_eq_true rfl) rfl (congrArg (fun z => l2 + z) ic_1) rfl ?_
      refine pn_goto (pc' := 4) dX8_purses_24 rfl ?_
      exact ih (l1 + x2) (l2 + (1 : Int32))

set_option maxRecDepth 20000 in
set_option maxHeartbeats 4000000 in
theorem ct_X8_purses (Γ : pn_G) (v0 : Nat) (hv0 : pn_isV v0) (σ : pn_S) : ∀ r, fX8_purses v0 σ = some r → pn_C Γ 2 mX8_purses [.ref v0] σ ((pn_p σ) r) := by
  refine pn_of (ls := [.ref v0, .null, .null]) (by decide) rfl (pn_cat rfl) rfl (Nat.le_of_ble_eq_true rfl) ?_
  rw [fX8_purses]
  refine pn_iconst dX8_purses_0 rfl ic_0 ?_
  refine pn_istore_n (ls' := [.ref v0, .int (0 : Int32), .null]) dX8_purses_1 rfl rfl (Nat.le_of_ble_eq_true rfl) rfl ?_
  refine pn_iconst dX8_purses_2 rfl ic_0 ?_
  refine pn_istore_n (ls' := [.ref v0, .int (0 : Int32), .int (0 : Int32)]) dX8_purses_3 rfl rfl (Nat.le_of_ble_eq_true rfl) rfl ?_
  exact wX8_purses_4 Γ v0 hv0 σ 5000 (0 : Int32) (0 : Int32)

set_option maxRecDepth 20000 in
set_option maxHeartbeats 4000000 in
theorem ct_X10_trial (Γ : pn_G) (a1 : Int32) (a2 : Int32) (σ : pn_S) : ∀ r, fX10_trial a1 a2 σ = some r → pn_C Γ 7 mX10_trial [.ref 0, .int a1, .int a2] σ (pn_xi r) := by
  refine pn_of (ls := [.ref 0, .int a1, .int a2]) (by decide) rfl (pn_cat rfl) rfl (Nat.le_of_ble_eq_true rfl) ?_
  rw [fX10_trial]
  refine pn_iload_n dX10_trial_0 rfl rfl rfl ?_
  refine pn_iconst dX10_trial_1 rfl ic_0 ?_
  refine pn_bipush dX10_trial_2 rfl bc_60 ?_
  refine pn_cxv (fun _ _ => rfl) rfl (fun r9 h9 => pn_LKS dX10_trial_4 lm_X10_199 (ct_X10_checkNumber Γ a1 (0 : Int32) (60 : Int32) σ r9 h9) (by decide) rfl rfl (Nat.le_of_ble_eq_true rfl)) rfl (fun σ1 => ?_)
  refine pn_aload_n dX10_trial_7 rfl rfl rfl ?_
  refine pn_iload_n dX10_trial_8 rfl rfl rfl ?_
  refine pn_iconst dX10_trial_9 rfl ic_1 ?_
  refine pn_aload_n dX10_trial_10 rfl rfl rfl ?_
  refine pn_geta dX10_trial_11 rfl lf_X10_19_9 qt_0 qk_0 qr_0_1 qt_5 ?_
  refine pn_geti dX10_trial_14 rfl lf_X10_301_7 qt_5 qk_5 qr_5_12 ?_
  refine pn_cv (fun r9 h9 => pn_LKV dX10_trial_17 lm_X10_304 (ct_X10_tryNights Γ a1 (1 : Int32) (σ1 5 12) σ1 r9 h9) (by decide) qt_0 qk_0 rfl rfl (Nat.le_of_ble_eq_true rfl)) rfl (fun σ2 => ?_)
  refine pn_iload_n dX10_trial_20 rfl rfl rfl ?_
  refine pn_if_eq (tgt := 34) dX10_trial_21 rfl rfl (fun c3 => ?_) (fun c3 => ?_)
  · refine pn_aload_n dX10_trial_34 rfl rfl rfl ?_
    refine pn_geta dX10_trial_35 rfl lf_X10_23_9 qt_0 qk_0 qr_0_2 qt_8 ?_
    refine pn_cp (fun r9 h9 => pn_LKV dX10_trial_38 lm_X10_311 (ct_X8_purses Γ 8 qv_8 σ2 r9 h9) (by decide) qt_8 qk_8 rfl rfl (Nat.le_of_ble_eq_true rfl)) rfl (fun x4 => ?_)
    exact pn_iretv dX10_trial_41 rfl rfl rfl
  · refine pn_aload_n dX10_trial_24 rfl rfl rfl ?_
    refine pn_geta dX10_trial_25 rfl lf_X10_23_9 qt_0 qk_0 qr_0_2 qt_8 ?_
    refine pn_geti dX10_trial_28 rfl lf_X10_179_7 qt_8 qk_8 qr_8_4 ?_
    refine pn_goto (pc' := 41) dX10_trial_31 rfl ?_
    exact pn_iretv dX10_trial_41 rfl rfl rfl

set_option maxRecDepth 20000 in
set_option maxHeartbeats 4000000 in
theorem wX10_span_25 (Γ : pn_G)  : ∀ (n9 : Nat) (l1 : Int32) (l2 : Int32) (l3 : Int32) (l4 : Int32) (σ : pn_S), pn_W9 Γ 7 mX10_span pn_xi 25 [.ref 0, .int l1, .int l2, .int l3, .int l4, .null] [] σ (fX10_span_25 n9 l1 l2 l3 l4 σ) := by
  intro n9
  induction n9 with
  | zero => intro l1 l2 l3 l4 σ; exact pn_none
  | succ n9 ih =>
    intro l1 l2 l3 l4 σ
    rw [fX10_span_25]
    refine pn_iload dX10_span_25 rfl rfl ?_
    refine pn_bipush dX10_span_27 rfl bc_6 ?_
    refine pn_icmp_gt (tgt := 75) dX10_span_29 rfl rfl (fun c4 => ?_) (fun c4 => ?_)
    · refine pn_iload_n dX10_span_75 rfl rfl rfl ?_
      exact pn_iretv dX10_span_76 rfl rfl rfl
    · refine pn_aload_n dX10_span_32 rfl rfl rfl ?_
      refine pn_iload_n dX10_span_33 rfl rfl rfl ?_
      refine pn_iconst dX10_span_34 rfl ic_1 ?_
      refine pn_iload dX10_span_35 rfl rfl ?_
      refine pn_cv (fun r9 h9 => pn_LKV dX10_span_37 lm_X10_304 (ct_X10_tryNights Γ l1 (1 : Int32) l4 σ r9 h9) (by decide) qt_0 qk_0 rfl rfl (Nat.le_of_ble_eq_true rfl)) rfl (fun σ5 => ?_)
      refine pn_aload_n dX10_span_40 rfl rfl rfl ?_
      refine pn_geta dX10_span_41 rfl lf_X10_23_9 qt_0 qk_0 qr_0_2 qt_8 ?_
      refine pn_cp (fun r9 h9 => pn_LKV dX10_span_44 lm_X10_311 (ct_X8_purses Γ 8 qv_8 σ5 r9 h9) (by decide) qt_8 qk_8 rfl rfl (Nat.le_of_ble_eq_true rfl)) rfl (fun x6 => ?_)
      refine pn_istore (ls' := [.ref 0, .int l1, .int l2, .int l3, .int l4, .int x6]) dX10_span_47 rfl (Nat.le_of_ble_eq_true rfl) rfl ?_
      refine pn_iload_n dX10_span_49 rfl rfl rfl ?_
      refine pn_if_eq (tgt := 62) dX10_span_50 rfl rfl (fun c7 => ?_) (fun c7 => ?_)
      · refine pn_iload_n dX10_span_62 rfl rfl rfl ?_
        refine pn_iload dX10_span_63 rfl rfl ?_
        refine pn_cp (fun r9 h9 => pn_LKS dX10_span_65 lm_X10_203 (ct_J9_min_7cf53 Γ l3 x6 σ5 r9 h9) (by decide) rfl rfl (Nat.le_of_ble_eq_true rfl)) rfl (fun x8 => ?_)
        refine pn_istore_n (ls' := [.ref 0, .int l1, .int l2, .int x8, .int l4, .int x6]) dX10_span_68 rfl rfl (Nat.le_of_ble_eq_true rfl) rfl ?_
        refine pn_iinc (ls' := [.ref 0, .int l1, .int l2, .int x8, .int (l4 + (1 : Int32)), .int x6]) dX10_span_69 rfl (Nat.le_of_ble_eq_true rfl) rfl (congrArg (fun z => l4 + z) ic_1) rfl ?_
        refine pn_goto (pc' := 25) dX10_span_72 rfl ?_
        exact pn_wk (pn_leC rfl (pn_leC rfl (pn_leC rfl (pn_leC rfl (pn_leC rfl (pn_leN pn_le0)))))) (ih l1 l2 x8 (l4 + (1 : Int32)) σ5)
      · refine pn_iload_n dX10_span_53 rfl rfl rfl ?_
        refine pn_iload dX10_span_54 rfl rfl ?_
        refine pn_cp (fun r9 h9 => pn_LKS dX10_span_56 lm_X10_314 (ct_J9_max_7cf53 Γ l3 x6 σ5 r9 h9) (by decide) rfl rfl (Nat.le_of_ble_eq_true rfl)) rfl (fun x9 => ?_)
        refine pn_goto (pc' := 68) dX10_span_59 rfl ?_
        refine pn_istore_n (ls' := [.ref 0, .int l1, .int l2, .int x9, .int l4, .int x6]) dX10_span_68 rfl rfl (Nat.le_of_ble_eq_true rfl) rfl ?_
        refine pn_iinc (ls' := [.ref 0, .int l1, .int l2, .int x9, .int (l4 + (1 : Int32)), .int x6]) dX10_span_69 rfl (Nat.le_of_ble_eq_true rfl) rfl (congrArg (fun z => l4 + z) ic_1) rfl ?_
        refine pn_goto (pc' := 25) dX10_span_72 rfl ?_
        exact pn_wk (pn_leC rfl (pn_leC rfl (pn_leC rfl (pn_leC rfl (pn_leC rfl (pn_leN pn_le0)))))) (ih l1 l2 x9 (l4 + (1 : Int32)) σ5)

set_option maxRecDepth 20000 in
set_option maxHeartbeats 4000000 in
theorem ct_X10_span (Γ : pn_G) (a1 : Int32) (a2 : Int32) (σ : pn_S) : ∀ r, fX10_span a1 a2 σ = some r → pn_C Γ 7 mX10_span [.ref 0, .int a1, .int a2] σ (pn_xi r) := by
  refine pn_of (ls := [.ref 0, .int a1, .int a2, .null, .null, .null]) (by decide) rfl (pn_cat rfl) rfl (Nat.le_of_ble_eq_true rfl) ?_
  rw [fX10_span]
  refine pn_iload_n dX10_span_0 rfl rfl rfl ?_
  refine pn_iconst dX10_span_1 rfl ic_0 ?_
  refine pn_bipush dX10_span_2 rfl bc_60 ?_
  refine pn_cxv (fun _ _ => rfl) rfl (fun r9 h9 => pn_LKS dX10_span_4 lm_X10_199 (ct_X10_checkNumber Γ a1 (0 : Int32) (60 : Int32) σ r9 h9) (by decide) rfl rfl (Nat.le_of_ble_eq_true rfl)) rfl (fun σ1 => ?_)
  refine pn_aload_n dX10_span_7 rfl rfl rfl ?_
  refine pn_iload_n dX10_span_8 rfl rfl rfl ?_
  refine pn_iconst dX10_span_9 rfl ic_1 ?_
  refine pn_iconst dX10_span_10 rfl ic_1 ?_
  refine pn_cv (fun r9 h9 => pn_LKV dX10_span_11 lm_X10_304 (ct_X10_tryNights Γ a1 (1 : Int32) (1 : Int32) σ1 r9 h9) (by decide) qt_0 qk_0 rfl rfl (Nat.le_of_ble_eq_true rfl)) rfl (fun σ2 => ?_)
  refine pn_aload_n dX10_span_14 rfl rfl rfl ?_
  refine pn_geta dX10_span_15 rfl lf_X10_23_9 qt_0 qk_0 qr_0_2 qt_8 ?_
  refine pn_cp (fun r9 h9 => pn_LKV dX10_span_18 lm_X10_311 (ct_X8_purses Γ 8 qv_8 σ2 r9 h9) (by decide) qt_8 qk_8 rfl rfl (Nat.le_of_ble_eq_true rfl)) rfl (fun x3 => ?_)
  refine pn_istore_n (ls' := [.ref 0, .int a1, .int a2, .int x3, .null, .null]) dX10_span_21 rfl rfl (Nat.le_of_ble_eq_true rfl) rfl ?_
  refine pn_iconst dX10_span_22 rfl ic_2 ?_
  refine pn_istore (ls' := [.ref 0, .int a1, .int a2, .int x3, .int (2 : Int32), .null]) dX10_span_23 rfl (Nat.le_of_ble_eq_true rfl) rfl ?_
  exact wX10_span_25 Γ 5000 a1 a2 x3 (2 : Int32) σ2

set_option maxRecDepth 20000 in
set_option maxHeartbeats 4000000 in
theorem ct_J9_floorMod_7cf53 (Γ : pn_G) (a0 : Int32) (a1 : Int32) (σ : pn_S) : ∀ r, fJ9_floorMod_7cf53 a0 a1 σ = some r → pn_C Γ 1 mJ9_floorMod_7cf53 [.int a0, .int a1] σ ((pn_p σ) r) := by
  refine pn_ofF (ls := [.int a0, .int a1, .null]) (by decide +kernel) rfl (pn_cat rfl) rfl (Nat.le_of_ble_eq_true rfl) ?_
  rw [fJ9_floorMod_7cf53]
  refine pn_iload_n dJ9_floorMod_7cf53_0 rfl rfl rfl ?_
  refine pn_iload_n dJ9_floorMod_7cf53_1 rfl rfl rfl ?_
  refine pn_irem dJ9_floorMod_7cf53_2 rfl ?_
  refine pn_istore_n (ls' := [.int a0, .int a1, .int (a0 - a0 / a1 * a1)]) dJ9_floorMod_7cf53_3 rfl rfl (Nat.le_of_ble_eq_true rfl) rfl ?_
  refine pn_iload_n dJ9_floorMod_7cf53_4 rfl rfl rfl ?_
  refine pn_iload_n dJ9_floorMod_7cf53_5 rfl rfl rfl ?_
  refine pn_ixor dJ9_floorMod_7cf53_6 rfl ?_
  refine pn_if_ge (tgt := 18) dJ9_floorMod_7cf53_7 rfl rfl (fun c1 => ?_) (fun c1 => ?_)
  · refine pn_iload_n dJ9_floorMod_7cf53_18 rfl rfl rfl ?_
    exact pn_iretv dJ9_floorMod_7cf53_19 rfl rfl rfl
  · refine pn_iload_n dJ9_floorMod_7cf53_10 rfl rfl rfl ?_
    refine pn_if_eq (tgt := 18) dJ9_floorMod_7cf53_11 rfl rfl (fun c2 => ?_) (fun c2 => ?_)
    · refine pn_iload_n dJ9_floorMod_7cf53_18 rfl rfl rfl ?_
      exact pn_iretv dJ9_floorMod_7cf53_19 rfl rfl rfl
    · refine pn_iload_n dJ9_floorMod_7cf53_14 rfl rfl rfl ?_
      refine pn_iload_n dJ9_floorMod_7cf53_15 rfl rfl rfl ?_
      refine pn_iadd dJ9_floorMod_7cf53_16 rfl ?_
      exact pn_iretv dJ9_floorMod_7cf53_17 rfl rfl rfl

set_option maxRecDepth 20000 in
set_option maxHeartbeats 4000000 in
theorem ct_X8_row (Γ : pn_G) (v0 : Nat) (hv0 : pn_isV v0) (a1 : Int32) (a2 : Int32) (σ : pn_S) : ∀ r, fX8_row v0 a1 a2 σ = some r → pn_C Γ 2 mX8_row [.ref v0, .int a1, .int a2] σ ((pn_p σ) r) := by
  refine pn_of (ls := [.ref v0, .int a1, .int a2, .null]) (by decide) rfl (pn_cat rfl) rfl (Nat.le_of_ble_eq_true rfl) ?_
  rw [fX8_row]
  refine pn_iload_n dX8_row_0 rfl rfl rfl ?_
  refine pn_if_lt (tgt := 21) dX8_row_1 rfl rfl (fun c1 => ?_) (fun c1 => ?_)
  · refine pn_iconst dX8_row_21 rfl ic_m1 ?_
    exact pn_iretv dX8_row_22 rfl rfl rfl
  · refine pn_iload_n dX8_row_4 rfl rfl rfl ?_
    refine pn_aload_n dX8_row_5 rfl rfl rfl ?_
    refine pn_geti dX8_row_6 rfl lf_X8_53_7 hv0.1.1 hv0.1.2 (pn_RVi hv0.1.2 (by decide)) ?_
    refine pn_icmp_ge (tgt := 21) dX8_row_9 rfl rfl (fun c2 => ?_) (fun c2 => ?_)
    · refine pn_iconst dX8_row_21 rfl ic_m1 ?_
      exact pn_iretv dX8_row_22 rfl rfl rfl
    · refine pn_iload_n dX8_row_12 rfl rfl rfl ?_
      refine pn_if_lt (tgt := 21) dX8_row_13 rfl rfl (fun c3 => ?_) (fun c3 => ?_)
      · refine pn_iconst dX8_row_21 rfl ic_m1 ?_
        exact pn_iretv dX8_row_22 rfl rfl rfl
      · refine pn_iload_n dX8_row_16 rfl rfl rfl ?_
        refine pn_iconst dX8_row_17 rfl ic_4 ?_
        refine pn_icmp_lt (tgt := 23) dX8_row_18 rfl rfl (fun c4 => ?_) (fun c4 => ?_)
        · refine pn_aload_n dX8_row_23 rfl rfl rfl ?_
          refine pn_geti dX8_row_24 rfl lf_X8_56_7 hv0.1.1 hv0.1.2 (pn_RVi hv0.1.2 (by decide)) ?_
          refine pn_iconst dX8_row_27 rfl ic_1 ?_
          refine pn_isub dX8_row_28 rfl ?_
          refine pn_iload_n dX8_row_29 rfl rfl rfl ?_
          refine pn_isub dX8_row_30 rfl ?_
          refine pn_bipush dX8_row_31 rfl bc_60 ?_
          refine pn_cp (fun r9 h9 => pn_LKS dX8_row_33 lm_X8_86 (ct_J9_floorMod_7cf53 Γ (((σ v0 14) - (1 : Int32)) - a1) (60 : Int32) σ r9 h9) (by decide) rfl rfl (Nat.le_of_ble_eq_true rfl)) rfl (fun x5 => ?_)
          refine pn_istore_n (ls' := [.ref v0, .int a1, .int a2, .int x5]) dX8_row_36 rfl rfl (Nat.le_of_ble_eq_true rfl) rfl ?_
          refine pn_aload_n dX8_row_37 rfl rfl rfl ?_
          refine pn_geta dX8_row_38 rfl lf_X8_15_7 hv0.1.1 hv0.1.2 (pn_RV1 hv0.1.2) hv0.2.2.1 ?_
          refine pn_iload_n dX8_row_41 rfl rfl rfl ?_
          refine pn_iconst dX8_row_42 rfl ic_4 ?_
          refine pn_imul dX8_row_43 rfl ?_
          refine pn_iload_n dX8_row_44 rfl rfl rfl ?_
          refine pn_iadd dX8_row_45 rfl ?_
          refine pn_iald dX8_row_46 rfl hv0.2.2.1 hv0.2.2.2.1 hv0.2.2.2.2 ?_
          exact pn_iretv dX8_row_47 rfl rfl rfl
        · refine pn_iconst dX8_row_21 rfl ic_m1 ?_
          exact pn_iretv dX8_row_22 rfl rfl rfl

set_option maxRecDepth 20000 in
set_option maxHeartbeats 4000000 in
theorem wX10_led_13 (Γ : pn_G)  : ∀ (n9 : Nat) (l1 : Int32) (l2 : Int32) (l3 : Int32) (l4 : Int32) (l5 : Int32) (σ : pn_S), pn_W9 Γ 3 mX10_led pn_xi 13 [.ref 0, .int l1, .int l2, .int l3, .int l4, .int l5] [] σ (fX10_led_13 n9 l1 l2 l3 l4 l5 σ) := by
  intro n9
  induction n9 with
  | zero => intro l1 l2 l3 l4 l5 σ; exact pn_none
  | succ n9 ih =>
    intro l1 l2 l3 l4 l5 σ
    rw [fX10_led_13]
    refine pn_iload dX10_led_13 rfl rfl ?_
    refine pn_aload_n dX10_led_15 rfl rfl rfl ?_
    refine pn_geta dX10_led_16 rfl lf_X10_19_9 qt_0 qk_0 qr_0_1 qt_5 ?_
    refine pn_geti dX10_led_19 rfl lf_X10_317_7 qt_5 qk_5 qr_5_13 ?_
    refine pn_icmp_ge (tgt := 69) dX10_led_22 rfl rfl (fun c2 => ?_) (fun c2 => ?_)
    · refine pn_iload_n dX10_led_69 rfl rfl rfl ?_
      refine pn_if_eq (tgt := 78) dX10_led_70 rfl rfl (fun c3 => ?_) (fun c3 => ?_)
      · refine pn_iload_n dX10_led_78 rfl rfl rfl ?_
        exact pn_iretv dX10_led_79 rfl rfl rfl
      · refine pn_iload dX10_led_73 rfl rfl ?_
        refine pn_goto (pc' := 79) dX10_led_75 rfl ?_
        exact pn_iretv dX10_led_79 rfl rfl rfl
    · refine pn_aload_n dX10_led_25 rfl rfl rfl ?_
      refine pn_geta dX10_led_26 rfl lf_X10_19_9 qt_0 qk_0 qr_0_1 qt_5 ?_
      refine pn_iload dX10_led_29 rfl rfl ?_
      refine pn_iconst dX10_led_31 rfl ic_1 ?_
      refine pn_cp (fun r9 h9 => pn_LKV dX10_led_32 lm_X10_320 (ct_X8_row Γ 5 qv_5 l5 (1 : Int32) σ r9 h9) (by decide) qt_5 qk_5 rfl rfl (Nat.le_of_ble_eq_true rfl)) rfl (fun x4 => ?_)
      refine pn_iload_n dX10_led_35 rfl rfl rfl ?_
      refine pn_icmp_ne (tgt := 63) dX10_led_36 rfl rfl (fun c5 => ?_) (fun c5 => ?_)
      · refine pn_iload_n dX10_led_39 rfl rfl rfl ?_
        refine pn_if_ne (tgt := 56) dX10_led_40 rfl rfl (fun c6 => ?_) (fun c6 => ?_)
        · refine pn_aload_n dX10_led_43 rfl rfl rfl ?_
          refine pn_geta dX10_led_44 rfl lf_X10_19_9 qt_0 qk_0 qr_0_1 qt_5 ?_
          refine pn_iload dX10_led_47 rfl rfl ?_
          refine pn_iconst dX10_led_49 rfl ic_0 ?_
          refine pn_cp (fun r9 h9 => pn_LKV dX10_led_50 lm_X10_320 (ct_X8_row Γ 5 qv_5 l5 (0 : Int32) σ r9 h9) (by decide) qt_5 qk_5 rfl rfl (Nat.le_of_ble_eq_true rfl)) rfl (fun x7 => ?_)
          refine pn_goto (pc' := 58) dX10_led_53 rfl ?_
          refine pn_istore (ls' := [.ref 0, .int l1, .int l2, .int l3, .int x7, .int l5]) dX10_led_58 rfl (Nat.le_of_ble_eq_true rfl) rfl ?_
          refine pn_iinc (ls' := [.ref 0, .int l1, .int l2, .int (l3 + (1 : Int32)), .int x7, .int l5]) dX10_led_60 rfl (Nat.le_of_ble_eq_true rfl) rfl (congrArg (fun z => l3 + z) ic_1) rfl ?_
          refine pn_iinc (ls' := [.ref 0, .int l1, .int l2, .int (l3 + (1 : Int32)), .int x7, .int (l5 + (1 : Int32))]) dX10_led_63 rfl (Nat.le_of_ble_eq_true rfl) rfl (congrArg (fun z => l5 + z) ic_1) rfl ?_
          refine pn_goto (pc' := 13) dX10_led_66 rfl ?_
          exact ih l1 l2 (l3 + (1 : Int32)) x7 (l5 + (1 : Int32)) σ
        · refine pn_iload dX10_led_56 rfl rfl ?_
          refine pn_istore (ls' := [.ref 0, .int l1, .int l2, .int l3, .int l4, .int l5]) dX10_led_58 rfl (Nat.le_of_ble_eq_true rfl) rfl ?_
          refine pn_iinc (ls' := [.ref 0, .int l1, .int l2, .int (l3 + (1 : Int32)), .int l4, .int l5]) dX10_led_60 rfl (Nat.le_of_ble_eq_true rfl) rfl (congrArg (fun z => l3 + z) ic_1) rfl ?_
          refine pn_iinc (ls' := [.ref 0, .int l1, .int l2, .int (l3 + (1 : Int32)), .int l4, .int (l5 + (1 : Int32))]) dX10_led_63 rfl (Nat.le_of_ble_eq_true rfl) rfl (congrArg (fun z => l5 + z) ic_1) rfl ?_
          refine pn_goto (pc' := 13) dX10_led_66 rfl ?_
          exact ih l1 l2 (l3 + (1 : Int32)) l4 (l5 + (1 : Int32)) σ
      · refine pn_iinc (ls' := [.ref 0, .int l1, .int l2, .int l3, .int l4, .int (l5 + (1 : Int32))]) dX10_led_63 rfl (Nat.le_of_ble_eq_true rfl) rfl (congrArg (fun z => l5 + z) ic_1) rfl ?_
        refine pn_goto (pc' := 13) dX10_led_66 rfl ?_
        exact ih l1 l2 l3 l4 (l5 + (1 : Int32)) σ

set_option maxRecDepth 20000 in
set_option maxHeartbeats 4000000 in
theorem ct_X10_led (Γ : pn_G) (a1 : Int32) (a2 : Int32) (σ : pn_S) : ∀ r, fX10_led a1 a2 σ = some r → pn_C Γ 3 mX10_led [.ref 0, .int a1, .int a2] σ (pn_xi r) := by
  refine pn_of (ls := [.ref 0, .int a1, .int a2, .null, .null, .null]) (by decide) rfl (pn_cat rfl) rfl (Nat.le_of_ble_eq_true rfl) ?_
  rw [fX10_led]
  refine pn_aload_n dX10_led_0 rfl rfl rfl ?_
  refine pn_iload_n dX10_led_1 rfl rfl rfl ?_
  refine pn_cxv (fun _ _ => rfl) rfl (fun r9 h9 => pn_LKV dX10_led_2 lm_X10_149 (ct_X10_checkPerson Γ a1 σ r9 h9) (by decide) qt_0 qk_0 rfl rfl (Nat.le_of_ble_eq_true rfl)) rfl (fun σ1 => ?_)
  refine pn_iconst dX10_led_5 rfl ic_0 ?_
  refine pn_istore_n (ls' := [.ref 0, .int a1, .int a2, .int (0 : Int32), .null, .null]) dX10_led_6 rfl rfl (Nat.le_of_ble_eq_true rfl) rfl ?_
  refine pn_iconst dX10_led_7 rfl ic_m1 ?_
  refine pn_istore (ls' := [.ref 0, .int a1, .int a2, .int (0 : Int32), .int (-1 : Int32), .null]) dX10_led_8 rfl (Nat.le_of_ble_eq_true rfl) rfl ?_
  refine pn_iconst dX10_led_10 rfl ic_0 ?_
  refine pn_istore (ls' := [.ref 0, .int a1, .int a2, .int (0 : Int32), .int (-1 : Int32), .int (0 : Int32)]) dX10_led_11 rfl (Nat.le_of_ble_eq_true rfl) rfl ?_
  exact wX10_led_13 Γ 5000 a1 a2 (0 : Int32) (-1 : Int32) (0 : Int32) σ1

set_option maxRecDepth 20000 in
set_option maxHeartbeats 4000000 in
theorem wX10_log_9 (Γ : pn_G)   (σ : pn_S) : pn_W9 Γ 3 mX10_log pn_xi 9 [.null, .null, .null] [] σ (fX10_log_9  σ) := by
  rw [fX10_log_9]
  exact pn_throw (fun _ _ => rfl) rfl th_X10_152 dX10_log_9 dX10_log_12 dX10_log_13 dX10_log_16

set_option maxRecDepth 20000 in
set_option maxHeartbeats 4000000 in
theorem ct_X10_log (Γ : pn_G) (a1 : Int32) (a2 : Int32) (σ : pn_S) : ∀ r, fX10_log a1 a2 σ = some r → pn_C Γ 3 mX10_log [.ref 0, .int a1, .int a2] σ (pn_xi r) := by
  refine pn_of (ls := [.ref 0, .int a1, .int a2]) (by decide) rfl (pn_cat rfl) rfl (Nat.le_of_ble_eq_true rfl) ?_
  rw [fX10_log]
  refine pn_iload_n dX10_log_0 rfl rfl rfl ?_
  refine pn_if_lt (tgt := 9) dX10_log_1 rfl rfl (fun c1 => ?_) (fun c1 => ?_)
  · exact pn_wk (pn_leN (pn_leN (pn_leN pn_le0))) (wX10_log_9 Γ σ)
  · refine pn_iload_n dX10_log_4 rfl rfl rfl ?_
    refine pn_iconst dX10_log_5 rfl ic_4 ?_
    refine pn_icmp_lt (tgt := 17) dX10_log_6 rfl rfl (fun c2 => ?_) (fun c2 => ?_)
    · refine pn_aload_n dX10_log_17 rfl rfl rfl ?_
      refine pn_geta dX10_log_18 rfl lf_X10_19_9 qt_0 qk_0 qr_0_1 qt_5 ?_
      refine pn_iload_n dX10_log_21 rfl rfl rfl ?_
      refine pn_iload_n dX10_log_22 rfl rfl rfl ?_
      refine pn_cp (fun r9 h9 => pn_LKV dX10_log_23 lm_X10_320 (ct_X8_row Γ 5 qv_5 a1 a2 σ r9 h9) (by decide) qt_5 qk_5 rfl rfl (Nat.le_of_ble_eq_true rfl)) rfl (fun x3 => ?_)
      exact pn_iretv dX10_log_26 rfl rfl rfl
    · exact pn_wk (pn_leN (pn_leN (pn_leN pn_le0))) (wX10_log_9 Γ σ)

set_option maxRecDepth 20000 in
set_option maxHeartbeats 4000000 in
theorem ct_X10_seed (Γ : pn_G) (a1 : Int32) (σ : pn_S) : ∀ r, fX10_seed a1 σ = some r → pn_C Γ 1 mX10_seed [.ref 0, .int a1] σ (pn_i r) := by
  refine pn_of (ls := [.ref 0, .int a1, .null]) (by decide) rfl (pn_cat rfl) rfl (Nat.le_of_ble_eq_true rfl) ?_
  rw [fX10_seed]
  refine pn_aload_n dX10_seed_0 rfl rfl rfl ?_
  refine pn_geta dX10_seed_1 rfl lf_X10_19_9 qt_0 qk_0 qr_0_1 qt_5 ?_
  refine pn_geti dX10_seed_4 rfl lf_X10_301_7 qt_5 qk_5 qr_5_12 ?_
  refine pn_istore_n (ls' := [.ref 0, .int a1, .int (σ 5 12)]) dX10_seed_7 rfl rfl (Nat.le_of_ble_eq_true rfl) rfl ?_
  refine pn_aload_n dX10_seed_8 rfl rfl rfl ?_
  refine pn_geta dX10_seed_9 rfl lf_X10_19_9 qt_0 qk_0 qr_0_1 qt_5 ?_
  refine pn_iload_n dX10_seed_12 rfl rfl rfl ?_
  refine pn_puti dX10_seed_13 rfl lf_X10_301_7 (fpi_7_12 a1) qt_5 qk_5 qr_5_12 ?_
  refine pn_iload_n dX10_seed_16 rfl rfl rfl ?_
  exact pn_iretv dX10_seed_17 rfl rfl rfl

set_option maxRecDepth 20000 in
set_option maxHeartbeats 4000000 in
theorem wX5_restore_13 (Γ : pn_G) (v0 : Nat) (hv0 : pn_isV v0) (l2 : Int32) (σ : pn_S) : pn_W9 Γ 2 mX5_restore pn_i 13 [.ref 41, .ref v0, .int l2, .null] [] σ (fX5_restore_13 v0 l2 σ) := by
  rw [fX5_restore_13]
  refine pn_aload_n dX5_restore_13 rfl rfl rfl ?_
  refine pn_iload_n dX5_restore_14 rfl rfl rfl ?_
  refine pn_cr dX5_restore_15 lm_X5_25 (fun b1 => ct_X5_stateAt Γ l2 σ b1) (by decide) qt_41 qk_41 rfl rfl (Nat.le_of_ble_eq_true rfl) rfl (fun b1 => (pn_isV_past b1).1.1) (fun b1 => ?_)
  have hb1 := pn_isV_past b1
  refine pn_astore_n (ls' := [.ref 41, .ref v0, .int l2, .ref (43 + 3 * Int32.toNatClampNeg l2)]) dX5_restore_18 rfl rfl (Nat.le_of_ble_eq_true rfl) rfl ?_
  refine pn_aload_n dX5_restore_19 rfl rfl rfl ?_
  refine pn_geti dX5_restore_20 rfl lf_X5_17_4 qt_41 qk_41 qr_41_1 ?_
  refine pn_if_le (tgt := 30) dX5_restore_23 rfl rfl (fun c2 => ?_) (fun c2 => ?_)
  · refine pn_iconst dX5_restore_30 rfl ic_0 ?_
    exact pn_iretv dX5_restore_31 rfl rfl rfl
  · refine pn_aload_n dX5_restore_26 rfl rfl rfl ?_
    refine pn_ifnonnull (pc' := 32) dX5_restore_27 rfl ?_
    refine pn_aload_n dX5_restore_32 rfl rfl rfl ?_
    refine pn_aload_n dX5_restore_33 rfl rfl rfl ?_
    refine pn_cv (fun r9 h9 => pn_LKV dX5_restore_34 lm_X5_29 (ct_X8_copy Γ v0 hv0 (43 + 3 * Int32.toNatClampNeg l2) hb1 σ r9 h9) (by decide) hv0.1.1 hv0.1.2 rfl rfl (Nat.le_of_ble_eq_true rfl)) rfl (fun σ3 => ?_)
    refine pn_aload_n dX5_restore_37 rfl rfl rfl ?_
    refine pn_iload_n dX5_restore_38 rfl rfl rfl ?_
    refine pn_puti dX5_restore_39 rfl lf_X5_21_4 (fpi_4_2 l2) qt_41 qk_41 qr_41_2 ?_
    refine pn_aload_n dX5_restore_42 rfl rfl rfl ?_
    refine pn_dupa dX5_restore_43 rfl ?_
    refine pn_geti dX5_restore_44 rfl lf_X5_17_4 qt_41 qk_41 qr_41_1 ?_
    refine pn_iconst dX5_restore_47 rfl ic_1 ?_
    refine pn_isub dX5_restore_48 rfl ?_
    refine pn_puti dX5_restore_49 rfl lf_X5_17_4 (fpi_4_1 (((pn_up σ3 41 2 l2) 41 1) - (1 : Int32))) qt_41 qk_41 qr_41_1 ?_
    refine pn_iconst dX5_restore_52 rfl ic_1 ?_
    exact pn_iretv dX5_restore_53 rfl rfl rfl

set_option maxRecDepth 20000 in
set_option maxHeartbeats 4000000 in
theorem ct_X5_restore (Γ : pn_G) (v0 : Nat) (hv0 : pn_isV v0) (σ : pn_S) : ∀ r, fX5_restore v0 σ = some r → pn_C Γ 2 mX5_restore [.ref 41, .ref v0] σ (pn_i r) := by
  refine pn_of (ls := [.ref 41, .ref v0, .null, .null]) (by decide) rfl (pn_cat rfl) rfl (Nat.le_of_ble_eq_true rfl) ?_
  rw [fX5_restore]
  refine pn_aload_n dX5_restore_0 rfl rfl rfl ?_
  refine pn_geti dX5_restore_1 rfl lf_X5_21_4 qt_41 qk_41 qr_41_2 ?_
  refine pn_bipush dX5_restore_4 rfl bc_12 ?_
  refine pn_iadd dX5_restore_6 rfl ?_
  refine pn_iconst dX5_restore_7 rfl ic_1 ?_
  refine pn_isub dX5_restore_8 rfl ?_
  refine pn_bipush dX5_restore_9 rfl bc_12 ?_
  refine pn_iremc dX5_restore_11 rfl (by decide) ?_
  refine pn_istore_n (ls' := [.ref 41, .ref v0, .int ((((σ 41 2) + (12 : Int32)) - (1 : Int32)) - (((σ 41 2) + (12 : Int32)) - (1 : Int32)) / (12 : Int32) * (12 : Int32)), .null]) dX5_restore_12 rfl rfl (Nat.le_of_ble_eq_true rfl) rfl ?_
  exact wX5_restore_13 Γ v0 hv0 ((((σ 41 2) + (12 : Int32)) - (1 : Int32)) - (((σ 41 2) + (12 : Int32)) - (1 : Int32)) / (12 : Int32) * (12 : Int32)) σ

set_option maxRecDepth 20000 in
set_option maxHeartbeats 4000000 in
theorem ct_X10_undo (Γ : pn_G)  (σ : pn_S) : ∀ r, fX10_undo  σ = some r → pn_C Γ 3 mX10_undo [.ref 0] σ (pn_i r) := by
  refine pn_of (ls := [.ref 0]) (by decide) rfl (pn_cat rfl) rfl (Nat.le_of_ble_eq_true rfl) ?_
  rw [fX10_undo]
  refine pn_aload_n dX10_undo_0 rfl rfl rfl ?_
  refine pn_geta dX10_undo_1 rfl lf_X10_70_9 qt_0 qk_0 qr_0_10 qt_41 ?_
  refine pn_aload_n dX10_undo_4 rfl rfl rfl ?_
  refine pn_geta dX10_undo_5 rfl lf_X10_19_9 qt_0 qk_0 qr_0_1 qt_5 ?_
  refine pn_ci (fun r9 h9 => pn_LKV dX10_undo_8 lm_X10_323 (ct_X5_restore Γ 5 qv_5 σ r9 h9) (by decide) qt_41 qk_41 rfl rfl (Nat.le_of_ble_eq_true rfl)) rfl (fun x1 σ1 => ?_)
  exact pn_iretb dX10_undo_11 rfl rfl

set_option maxRecDepth 20000 in
set_option maxHeartbeats 4000000 in
theorem ct_X10_image (Γ : pn_G)  (σ : pn_S) : ∀ r, fX10_image  σ = some r → pn_C Γ 2 mX10_image [.ref 0] σ (pn_v r) := by
  refine pn_of (ls := [.ref 0]) (by decide) rfl (pn_cat rfl) rfl (Nat.le_of_ble_eq_true rfl) ?_
  rw [fX10_image]
  refine pn_aload_n dX10_image_0 rfl rfl rfl ?_
  refine pn_geta dX10_image_1 rfl lf_X10_26_9 qt_0 qk_0 qr_0_3 qt_11 ?_
  refine pn_aload_n dX10_image_4 rfl rfl rfl ?_
  refine pn_geta dX10_image_5 rfl lf_X10_19_9 qt_0 qk_0 qr_0_1 qt_5 ?_
  refine pn_cv (fun r9 h9 => pn_LKV dX10_image_8 lm_X10_117 (ct_X8_copy Γ 11 qv_11 5 qv_5 σ r9 h9) (by decide) qt_11 qk_11 rfl rfl (Nat.le_of_ble_eq_true rfl)) rfl (fun σ1 => ?_)
  refine pn_aload_n dX10_image_11 rfl rfl rfl ?_
  refine pn_geta dX10_image_12 rfl lf_X10_39_9 qt_0 qk_0 qr_0_6 qt_28 ?_
  refine pn_aload_n dX10_image_15 rfl rfl rfl ?_
  refine pn_geta dX10_image_16 rfl lf_X10_32_9 qt_0 qk_0 qr_0_4 qt_14 ?_
  refine pn_cv (fun r9 h9 => pn_LKV dX10_image_19 lm_X10_143 (ct_X2_copy Γ 28 qw_28 14 qw_14 σ1 r9 h9) (by decide) qt_28 qk_28 rfl rfl (Nat.le_of_ble_eq_true rfl)) rfl (fun σ2 => ?_)
  refine pn_aload_n dX10_image_22 rfl rfl rfl ?_
  refine pn_iconst dX10_image_23 rfl ic_1 ?_
  refine pn_puti dX10_image_24 rfl lf_X10_92_9 (fpl_9_14 (1 : Int32) rfl rfl) qt_0 qk_0 qr_0_14 ?_
  exact pn_vretv dX10_image_27 rfl rfl

set_option maxRecDepth 20000 in
set_option maxHeartbeats 4000000 in
theorem ct_X10_back (Γ : pn_G)  (σ : pn_S) : ∀ r, fX10_back  σ = some r → pn_C Γ 2 mX10_back [.ref 0] σ (pn_i r) := by
  refine pn_of (ls := [.ref 0]) (by decide) rfl (pn_cat rfl) rfl (Nat.le_of_ble_eq_true rfl) ?_
  rw [fX10_back]
  refine pn_aload_n dX10_back_0 rfl rfl rfl ?_
  refine pn_geti dX10_back_1 rfl lf_X10_92_9 qt_0 qk_0 qr_0_14 ?_
  refine pn_if_ne (tgt := 9) dX10_back_4 rfl rfl (fun c1 => ?_) (fun c1 => ?_)
  · refine pn_iconst dX10_back_7 rfl ic_0 ?_
    exact pn_iretv dX10_back_8 rfl rfl rfl
  · refine pn_aload_n dX10_back_9 rfl rfl rfl ?_
    refine pn_geta dX10_back_10 rfl lf_X10_19_9 qt_0 qk_0 qr_0_1 qt_5 ?_
    refine pn_aload_n dX10_back_13 rfl rfl rfl ?_
    refine pn_geta dX10_back_14 rfl lf_X10_26_9 qt_0 qk_0 qr_0_3 qt_11 ?_
    refine pn_cv (fun r9 h9 => pn_LKV dX10_back_17 lm_X10_117 (ct_X8_copy Γ 5 qv_5 11 qv_11 σ r9 h9) (by decide) qt_5 qk_5 rfl rfl (Nat.le_of_ble_eq_true rfl)) rfl (fun σ2 => ?_)
    refine pn_aload_n dX10_back_20 rfl rfl rfl ?_
    refine pn_geta dX10_back_21 rfl lf_X10_32_9 qt_0 qk_0 qr_0_4 qt_14 ?_
    refine pn_aload_n dX10_back_24 rfl rfl rfl ?_
    refine pn_geta dX10_back_25 rfl lf_X10_39_9 qt_0 qk_0 qr_0_6 qt_28 ?_
    refine pn_cv (fun r9 h9 => pn_LKV dX10_back_28 lm_X10_143 (ct_X2_copy Γ 14 qw_14 28 qw_28 σ2 r9 h9) (by decide) qt_14 qk_14 rfl rfl (Nat.le_of_ble_eq_true rfl)) rfl (fun σ3 => ?_)
    refine pn_aload_n dX10_back_31 rfl rfl rfl ?_
    refine pn_geta dX10_back_32 rfl lf_X10_70_9 qt_0 qk_0 qr_0_10 qt_41 ?_
    refine pn_cv (fun r9 h9 => pn_LKV dX10_back_35 lm_X10_136 (ct_X5_forget Γ σ3 r9 h9) (by decide) qt_41 qk_41 rfl rfl (Nat.le_of_ble_eq_true rfl)) rfl (fun σ4 => ?_)
    refine pn_iconst dX10_back_38 rfl ic_1 ?_
    exact pn_iretv dX10_back_39 rfl rfl rfl

set_option maxRecDepth 20000 in
set_option maxHeartbeats 4000000 in
theorem ct_X10_count (Γ : pn_G) (a1 : Int32) (σ : pn_S) : ∀ r, fX10_count a1 σ = some r → pn_C Γ 3 mX10_count [.ref 0, .int a1] σ ((pn_p σ) r) := by
  refine pn_of (ls := [.ref 0, .int a1]) (by decide) rfl (pn_cat rfl) rfl (Nat.le_of_ble_eq_true rfl) ?_
  rw [fX10_count]
  refine pn_iload_n dX10_count_0 rfl rfl rfl ?_
  refine pn_tabc (v := (0 : Int32)) (tgt := 76) (off := 75) dX10_count_1 (by decide) (by decide) (by decide) rfl (fun c1 => ?_) (fun c1 => ?_)
  · refine pn_aload_n dX10_count_76 rfl rfl rfl ?_
    refine pn_geta dX10_count_77 rfl lf_X10_19_9 qt_0 qk_0 qr_0_1 qt_5 ?_
    refine pn_geti dX10_count_80 rfl lf_X10_250_7 qt_5 qk_5 qr_5_2 ?_
    exact pn_iretv dX10_count_83 rfl rfl rfl
  refine pn_tabc (v := (1 : Int32)) (tgt := 84) (off := 83) dX10_count_1 (by decide) (by decide) (by decide) rfl (fun c2 => ?_) (fun c2 => ?_)
  · refine pn_aload_n dX10_count_84 rfl rfl rfl ?_
    refine pn_geta dX10_count_85 rfl lf_X10_19_9 qt_0 qk_0 qr_0_1 qt_5 ?_
    refine pn_geti dX10_count_88 rfl lf_X10_130_7 qt_5 qk_5 qr_5_3 ?_
    exact pn_iretv dX10_count_91 rfl rfl rfl
  refine pn_tabc (v := (2 : Int32)) (tgt := 92) (off := 91) dX10_count_1 (by decide) (by decide) (by decide) rfl (fun c3 => ?_) (fun c3 => ?_)
  · refine pn_aload_n dX10_count_92 rfl rfl rfl ?_
    refine pn_geta dX10_count_93 rfl lf_X10_32_9 qt_0 qk_0 qr_0_4 qt_14 ?_
    refine pn_geti dX10_count_96 rfl lf_X10_146_2 qt_14 qk_14 qr_14_6 ?_
    exact pn_iretv dX10_count_99 rfl rfl rfl
  refine pn_tabc (v := (3 : Int32)) (tgt := 100) (off := 99) dX10_count_1 (by decide) (by decide) (by decide) rfl (fun c4 => ?_) (fun c4 => ?_)
  · refine pn_aload_n dX10_count_100 rfl rfl rfl ?_
    refine pn_geta dX10_count_101 rfl lf_X10_19_9 qt_0 qk_0 qr_0_1 qt_5 ?_
    refine pn_geti dX10_count_104 rfl lf_X10_327_7 qt_5 qk_5 qr_5_6 ?_
    exact pn_iretv dX10_count_107 rfl rfl rfl
  refine pn_tabc (v := (4 : Int32)) (tgt := 108) (off := 107) dX10_count_1 (by decide) (by decide) (by decide) rfl (fun c5 => ?_) (fun c5 => ?_)
  · refine pn_aload_n dX10_count_108 rfl rfl rfl ?_
    refine pn_geta dX10_count_109 rfl lf_X10_19_9 qt_0 qk_0 qr_0_1 qt_5 ?_
    refine pn_geti dX10_count_112 rfl lf_X10_330_7 qt_5 qk_5 qr_5_7 ?_
    refine pn_if_eq (tgt := 122) dX10_count_115 rfl rfl (fun c6 => ?_) (fun c6 => ?_)
    · refine pn_iconst dX10_count_122 rfl ic_0 ?_
      exact pn_iretv dX10_count_123 rfl rfl rfl
    · refine pn_iconst dX10_count_118 rfl ic_1 ?_
      refine pn_goto (pc' := 123) dX10_count_119 rfl ?_
      exact pn_iretv dX10_count_123 rfl rfl rfl
  refine pn_tabc (v := (5 : Int32)) (tgt := 124) (off := 123) dX10_count_1 (by decide) (by decide) (by decide) rfl (fun c7 => ?_) (fun c7 => ?_)
  · refine pn_aload_n dX10_count_124 rfl rfl rfl ?_
    refine pn_geta dX10_count_125 rfl lf_X10_19_9 qt_0 qk_0 qr_0_1 qt_5 ?_
    refine pn_geti dX10_count_128 rfl lf_X10_179_7 qt_5 qk_5 qr_5_4 ?_
    exact pn_iretv dX10_count_131 rfl rfl rfl
  refine pn_tabc (v := (6 : Int32)) (tgt := 132) (off := 131) dX10_count_1 (by decide) (by decide) (by decide) rfl (fun c8 => ?_) (fun c8 => ?_)
  · refine pn_aload_n dX10_count_132 rfl rfl rfl ?_
    refine pn_geta dX10_count_133 rfl lf_X10_19_9 qt_0 qk_0 qr_0_1 qt_5 ?_
    refine pn_geti dX10_count_136 rfl lf_X10_333_7 qt_5 qk_5 qr_5_5 ?_
    exact pn_iretv dX10_count_139 rfl rfl rfl
  refine pn_tabc (v := (7 : Int32)) (tgt := 140) (off := 139) dX10_count_1 (by decide) (by decide) (by decide) rfl (fun c9 => ?_) (fun c9 => ?_)
  · refine pn_aload_n dX10_count_140 rfl rfl rfl ?_
    refine pn_geta dX10_count_141 rfl lf_X10_19_9 qt_0 qk_0 qr_0_1 qt_5 ?_
    refine pn_geti dX10_count_144 rfl lf_X10_336_7 qt_5 qk_5 qr_5_8 ?_
    exact pn_iretv dX10_count_147 rfl rfl rfl
  refine pn_tabc (v := (8 : Int32)) (tgt := 148) (off := 147) dX10_count_1 (by decide) (by decide) (by decide) rfl (fun c10 => ?_) (fun c10 => ?_)
  · refine pn_aload_n dX10_count_148 rfl rfl rfl ?_
    refine pn_geta dX10_count_149 rfl lf_X10_19_9 qt_0 qk_0 qr_0_1 qt_5 ?_
    refine pn_geti dX10_count_152 rfl lf_X10_339_7 qt_5 qk_5 qr_5_9 ?_
    exact pn_iretv dX10_count_155 rfl rfl rfl
  refine pn_tabc (v := (9 : Int32)) (tgt := 156) (off := 155) dX10_count_1 (by decide) (by decide) (by decide) rfl (fun c11 => ?_) (fun c11 => ?_)
  · refine pn_aload_n dX10_count_156 rfl rfl rfl ?_
    refine pn_geta dX10_count_157 rfl lf_X10_19_9 qt_0 qk_0 qr_0_1 qt_5 ?_
    refine pn_geti dX10_count_160 rfl lf_X10_342_7 qt_5 qk_5 qr_5_10 ?_
    exact pn_iretv dX10_count_163 rfl rfl rfl
  refine pn_tabc (v := (10 : Int32)) (tgt := 164) (off := 163) dX10_count_1 (by decide) (by decide) (by decide) rfl (fun c12 => ?_) (fun c12 => ?_)
  · refine pn_aload_n dX10_count_164 rfl rfl rfl ?_
    refine pn_geta dX10_count_165 rfl lf_X10_19_9 qt_0 qk_0 qr_0_1 qt_5 ?_
    refine pn_geti dX10_count_168 rfl lf_X10_259_7 qt_5 qk_5 qr_5_11 ?_
    exact pn_iretv dX10_count_171 rfl rfl rfl
  refine pn_tabc (v := (11 : Int32)) (tgt := 172) (off := 171) dX10_count_1 (by decide) (by decide) (by decide) rfl (fun c13 => ?_) (fun c13 => ?_)
  · refine pn_aload_n dX10_count_172 rfl rfl rfl ?_
    refine pn_geta dX10_count_173 rfl lf_X10_19_9 qt_0 qk_0 qr_0_1 qt_5 ?_
    refine pn_cp (fun r9 h9 => pn_LKV dX10_count_176 lm_X10_247 (ct_X8_beginners Γ 5 qv_5 σ r9 h9) (by decide) qt_5 qk_5 rfl rfl (Nat.le_of_ble_eq_true rfl)) rfl (fun x14 => ?_)
    exact pn_iretv dX10_count_179 rfl rfl rfl
  refine pn_tabc (v := (12 : Int32)) (tgt := 180) (off := 179) dX10_count_1 (by decide) (by decide) (by decide) rfl (fun c15 => ?_) (fun c15 => ?_)
  · refine pn_aload_n dX10_count_180 rfl rfl rfl ?_
    refine pn_geta dX10_count_181 rfl lf_X10_19_9 qt_0 qk_0 qr_0_1 qt_5 ?_
    refine pn_cp (fun r9 h9 => pn_LKV dX10_count_184 lm_X10_311 (ct_X8_purses Γ 5 qv_5 σ r9 h9) (by decide) qt_5 qk_5 rfl rfl (Nat.le_of_ble_eq_true rfl)) rfl (fun x16 => ?_)
    exact pn_iretv dX10_count_187 rfl rfl rfl
  refine pn_tabc (v := (13 : Int32)) (tgt := 188) (off := 187) dX10_count_1 (by decide) (by decide) (by decide) rfl (fun c17 => ?_) (fun c17 => ?_)
  · refine pn_aload_n dX10_count_188 rfl rfl rfl ?_
    refine pn_geta dX10_count_189 rfl lf_X10_19_9 qt_0 qk_0 qr_0_1 qt_5 ?_
    refine pn_geti dX10_count_192 rfl lf_X10_317_7 qt_5 qk_5 qr_5_13 ?_
    exact pn_iretv dX10_count_195 rfl rfl rfl
  refine pn_tabc (v := (14 : Int32)) (tgt := 196) (off := 195) dX10_count_1 (by decide) (by decide) (by decide) rfl (fun c18 => ?_) (fun c18 => ?_)
  · refine pn_aload_n dX10_count_196 rfl rfl rfl ?_
    refine pn_geta dX10_count_197 rfl lf_X10_70_9 qt_0 qk_0 qr_0_10 qt_41 ?_
    refine pn_geti dX10_count_200 rfl lf_X10_345_4 qt_41 qk_41 qr_41_1 ?_
    exact pn_iretv dX10_count_203 rfl rfl rfl
  refine pn_tabd (tgt := 204) [(0 : Int32), (1 : Int32), (2 : Int32), (3 : Int32), (4 : Int32), (5 : Int32), (6 : Int32), (7 : Int32), (8 : Int32), (9 : Int32), (10 : Int32), (11 : Int32), (12 : Int32), (13 : Int32), (14 : Int32)] dX10_count_1 (by decide) (by decide) rfl (pn_an c1 (pn_an c2 (pn_an c3 (pn_an c4 (pn_an c5 (pn_an c7 (pn_an c8 (pn_an c9 (pn_an c10 (pn_an c11 (pn_an c12 (pn_an c13 (pn_an c15 (pn_an c17 (pn_an c18 pn_a0))))))))))))))) ?_
  refine pn_iconst dX10_count_204 rfl ic_m1 ?_
  exact pn_iretv dX10_count_205 rfl rfl rfl

set_option maxRecDepth 20000 in
set_option maxHeartbeats 4000000 in
theorem ct_X11_thrown (Γ : pn_G)  (σ : pn_S) : ∀ r, fX11_thrown  σ = some r → pn_C Γ 1 mX11_thrown [.ref 85] σ ((pn_p σ) r) := by
  refine pn_of (ls := [.ref 85]) (by decide) rfl (pn_cat rfl) rfl (Nat.le_of_ble_eq_true rfl) ?_
  rw [fX11_thrown]
  refine pn_aload_n dX11_thrown_0 rfl rfl rfl ?_
  refine pn_geti dX11_thrown_1 rfl lf_X11_3_10 qt_85 qk_85 qr_85_0 ?_
  exact pn_iretv dX11_thrown_4 rfl rfl rfl

set_option maxRecDepth 20000 in
set_option maxHeartbeats 4000000 in
theorem ct_X11_throwsIf (Γ : pn_G) (a1 : Int32) (a2 : Int32) (σ : pn_S) : ∀ r, fX11_throwsIf a1 a2 σ = some r → pn_C Γ 1 mX11_throwsIf [.ref 85, .int a1, .int a2] σ (pn_i r) := by
  refine pn_of (ls := [.ref 85, .int a1, .int a2]) (by decide) rfl (pn_cat rfl) rfl (Nat.le_of_ble_eq_true rfl) ?_
  rw [fX11_throwsIf]
  refine pn_iload_n dX11_throwsIf_0 rfl rfl rfl ?_
  refine pn_if_eq (tgt := 9) dX11_throwsIf_1 rfl rfl (fun c1 => ?_) (fun c1 => ?_)
  · refine pn_iload_n dX11_throwsIf_9 rfl rfl rfl ?_
    exact pn_iretb dX11_throwsIf_10 rfl rfl
  · refine pn_aload_n dX11_throwsIf_4 rfl rfl rfl ?_
    refine pn_iload_n dX11_throwsIf_5 rfl rfl rfl ?_
    refine pn_puti dX11_throwsIf_6 rfl lf_X11_3_10 (fpi_10_0 a2) qt_85 qk_85 qr_85_0 ?_
    refine pn_iload_n dX11_throwsIf_9 rfl rfl rfl ?_
    exact pn_iretb dX11_throwsIf_10 rfl rfl

set_option maxRecDepth 20000 in
set_option maxHeartbeats 4000000 in
theorem ct_X11_in (Γ : pn_G) (a0 : Int32) (a1 : Int32) (a2 : Int32) (σ : pn_S) : ∀ r, fX11_in a0 a1 a2 σ = some r → pn_C Γ 1 mX11_in [.int a0, .int a1, .int a2] σ ((pn_p σ) r) := by
  refine pn_of (ls := [.int a0, .int a1, .int a2]) (by decide) rfl (pn_cat rfl) rfl (Nat.le_of_ble_eq_true rfl) ?_
  rw [fX11_in]
  refine pn_iload_n dX11_in_0 rfl rfl rfl ?_
  refine pn_iload_n dX11_in_1 rfl rfl rfl ?_
  refine pn_icmp_lt (tgt := 14) dX11_in_2 rfl rfl (fun c1 => ?_) (fun c1 => ?_)
  · refine pn_iconst dX11_in_14 rfl ic_0 ?_
    exact pn_iretv dX11_in_15 rfl rfl rfl
  · refine pn_iload_n dX11_in_5 rfl rfl rfl ?_
    refine pn_iload_n dX11_in_6 rfl rfl rfl ?_
    refine pn_icmp_gt (tgt := 14) dX11_in_7 rfl rfl (fun c2 => ?_) (fun c2 => ?_)
    · refine pn_iconst dX11_in_14 rfl ic_0 ?_
      exact pn_iretv dX11_in_15 rfl rfl rfl
    · refine pn_iconst dX11_in_10 rfl ic_1 ?_
      refine pn_goto (pc' := 15) dX11_in_11 rfl ?_
      exact pn_iretv dX11_in_15 rfl rfl rfl

set_option maxRecDepth 20000 in
set_option maxHeartbeats 4000000 in
theorem ct_X11_has (Γ : pn_G) (a0 : Int32) (a1 : Int32) (σ : pn_S) : ∀ r, fX11_has a0 a1 σ = some r → pn_C Γ 1 mX11_has [.int a0, .int a1] σ ((pn_p σ) r) := by
  refine pn_of (ls := [.int a0, .int a1]) (by decide) rfl (pn_cat rfl) rfl (Nat.le_of_ble_eq_true rfl) ?_
  rw [fX11_has]
  refine pn_iload_n dX11_has_0 rfl rfl rfl ?_
  refine pn_iload_n dX11_has_1 rfl rfl rfl ?_
  refine pn_ishr dX11_has_2 rfl ?_
  refine pn_iconst dX11_has_3 rfl ic_1 ?_
  refine pn_iand dX11_has_4 rfl ?_
  refine pn_iconst dX11_has_5 rfl ic_1 ?_
  refine pn_icmp_ne (tgt := 13) dX11_has_6 rfl rfl (fun c1 => ?_) (fun c1 => ?_)
  · refine pn_iconst dX11_has_9 rfl ic_1 ?_
    refine pn_goto (pc' := 14) dX11_has_10 rfl ?_
    exact pn_iretv dX11_has_14 rfl rfl rfl
  · refine pn_iconst dX11_has_13 rfl ic_0 ?_
    exact pn_iretv dX11_has_14 rfl rfl rfl

set_option maxRecDepth 20000 in
set_option maxHeartbeats 4000000 in
theorem wX11_image_7 (Γ : pn_G)  : ∀ (n9 : Nat) (l1 : Int32) (σ : pn_S), pn_W9 Γ 1 mX11_image pn_v 7 [.ref 85, .int l1] [] σ (fX11_image_7 n9 l1 σ) := by
  intro n9
  induction n9 with
  | zero => intro l1 σ; exact pn_none
  | succ n9 ih =>
    intro l1 σ
    rw [fX11_image_7]
    refine pn_iload_n dX11_image_7 rfl rfl rfl ?_
    refine pn_sipush dX11_image_8 rfl sc_1166 ?_
    refine pn_icmp_ge (tgt := 32) dX11_image_11 rfl rfl (fun c1 => ?_) (fun c1 => ?_)
    · refine pn_aload_n dX11_image_32 rfl rfl rfl ?_
      refine pn_iconst dX11_image_33 rfl ic_1 ?_
      refine pn_puti dX11_image_34 rfl lf_X11_48_10 (fpl_10_6 (1 : Int32) rfl rfl) qt_85 qk_85 qr_85_6 ?_
      exact pn_vretv dX11_image_37 rfl rfl
    · refine pn_aload_n dX11_image_14 rfl rfl rfl ?_
      refine pn_geta dX11_image_15 rfl lf_X11_17_10 qt_85 qk_85 qr_85_2 qt_87 ?_
      refine pn_iload_n dX11_image_18 rfl rfl rfl ?_
      refine pn_aload_n dX11_image_19 rfl rfl rfl ?_
      refine pn_geta dX11_image_20 rfl lf_X11_13_10 qt_85 qk_85 qr_85_1 qt_86 ?_
      refine pn_iload_n dX11_image_23 rfl rfl rfl ?_
      refine pn_iald dX11_image_24 rfl qt_86 qk_86 ql_86 ?_
      refine pn_iast dX11_image_25 rfl qt_87 qk_87 ql_87 ?_
      refine pn_iinc (ls' := [.ref 85, .int (l1 + (1 : Int32))]) dX11_image_26 rfl (Nat.le_of_ble_eq_true rfl) rfl (congrArg (fun z => l1 + z) ic_1) rfl ?_
      refine pn_goto (pc' := 7) dX11_image_29 rfl ?_
      exact ih (l1 + (1 : Int32)) (pn_up σ 87 (Int32.toNatClampNeg l1) (σ 86 (Int32.toNatClampNeg l1)))

set_option maxRecDepth 20000 in
set_option maxHeartbeats 4000000 in
theorem ct_X11_image (Γ : pn_G)  (σ : pn_S) : ∀ r, fX11_image  σ = some r → pn_C Γ 1 mX11_image [.ref 85] σ (pn_v r) := by
  refine pn_of (ls := [.ref 85, .null]) (by decide) rfl (pn_cat rfl) rfl (Nat.le_of_ble_eq_true rfl) ?_
  rw [fX11_image]
  refine pn_aload_n dX11_image_0 rfl rfl rfl ?_
  refine pn_iconst dX11_image_1 rfl ic_0 ?_
  refine pn_puti dX11_image_2 rfl lf_X11_3_10 (fpi_10_0 (0 : Int32)) qt_85 qk_85 qr_85_0 ?_
  refine pn_iconst dX11_image_5 rfl ic_0 ?_
  refine pn_istore_n (ls' := [.ref 85, .int (0 : Int32)]) dX11_image_6 rfl rfl (Nat.le_of_ble_eq_true rfl) rfl ?_
  exact wX11_image_7 Γ 5000 (0 : Int32) (pn_up σ 85 0 (0 : Int32))

set_option maxRecDepth 20000 in
set_option maxHeartbeats 4000000 in
theorem wX11_back_16 (Γ : pn_G)  : ∀ (n9 : Nat) (l1 : Int32) (σ : pn_S), pn_W9 Γ 1 mX11_back pn_i 16 [.ref 85, .int l1] [] σ (fX11_back_16 n9 l1 σ) := by
  intro n9
  induction n9 with
  | zero => intro l1 σ; exact pn_none
  | succ n9 ih =>
    intro l1 σ
    rw [fX11_back_16]
    refine pn_iload_n dX11_back_16 rfl rfl rfl ?_
    refine pn_sipush dX11_back_17 rfl sc_1166 ?_
    refine pn_icmp_ge (tgt := 41) dX11_back_20 rfl rfl (fun c2 => ?_) (fun c2 => ?_)
    · refine pn_aload_n dX11_back_41 rfl rfl rfl ?_
      refine pn_iconst dX11_back_42 rfl ic_0 ?_
      refine pn_puti dX11_back_43 rfl lf_X11_52_10 (fpi_10_7 (0 : Int32)) qt_85 qk_85 qr_85_7 ?_
      refine pn_iconst dX11_back_46 rfl ic_1 ?_
      exact pn_iretv dX11_back_47 rfl rfl rfl
    · refine pn_aload_n dX11_back_23 rfl rfl rfl ?_
      refine pn_geta dX11_back_24 rfl lf_X11_13_10 qt_85 qk_85 qr_85_1 qt_86 ?_
      refine pn_iload_n dX11_back_27 rfl rfl rfl ?_
      refine pn_aload_n dX11_back_28 rfl rfl rfl ?_
      refine pn_geta dX11_back_29 rfl lf_X11_17_10 qt_85 qk_85 qr_85_2 qt_87 ?_
      refine pn_iload_n dX11_back_32 rfl rfl rfl ?_
      refine pn_iald dX11_back_33 rfl qt_87 qk_87 ql_87 ?_
      refine pn_iast dX11_back_34 rfl qt_86 qk_86 ql_86 ?_
      refine pn_iinc (ls' := [.ref 85, .int (l1 + (1 : Int32))]) dX11_back_35 rfl (Nat.le_of_ble_eq_true rfl) rfl (congrArg (fun z => l1 + z) ic_1) rfl ?_
      refine pn_goto (pc' := 16) dX11_back_38 rfl ?_
      exact ih (l1 + (1 : Int32)) (pn_up σ 86 (Int32.toNatClampNeg l1) (σ 87 (Int32.toNatClampNeg l1)))

set_option maxRecDepth 20000 in
set_option maxHeartbeats 4000000 in
theorem ct_X11_back (Γ : pn_G)  (σ : pn_S) : ∀ r, fX11_back  σ = some r → pn_C Γ 1 mX11_back [.ref 85] σ (pn_i r) := by
  refine pn_of (ls := [.ref 85, .null]) (by decide) rfl (pn_cat rfl) rfl (Nat.le_of_ble_eq_true rfl) ?_
  rw [fX11_back]
  refine pn_aload_n dX11_back_0 rfl rfl rfl ?_
  refine pn_iconst dX11_back_1 rfl ic_0 ?_
  refine pn_puti dX11_back_2 rfl lf_X11_3_10 (fpi_10_0 (0 : Int32)) qt_85 qk_85 qr_85_0 ?_
  refine pn_aload_n dX11_back_5 rfl rfl rfl ?_
  refine pn_geti dX11_back_6 rfl lf_X11_48_10 qt_85 qk_85 qr_85_6 ?_
  refine pn_if_ne (tgt := 14) dX11_back_9 rfl rfl (fun c1 => ?_) (fun c1 => ?_)
  · refine pn_iconst dX11_back_12 rfl ic_0 ?_
    exact pn_iretv dX11_back_13 rfl rfl rfl
  · refine pn_iconst dX11_back_14 rfl ic_0 ?_
    refine pn_istore_n (ls' := [.ref 85, .int (0 : Int32)]) dX11_back_15 rfl rfl (Nat.le_of_ble_eq_true rfl) rfl ?_
    exact wX11_back_16 Γ 5000 (0 : Int32) (pn_up σ 85 0 (0 : Int32))

set_option maxRecDepth 20000 in
set_option maxHeartbeats 4000000 in
theorem wX11_remembers_55 (Γ : pn_G)  : ∀ (n9 : Nat) (l1 : Int32) (σ : pn_S), pn_W9 Γ 1 mX11_remembers pn_v 55 [.ref 85, .int l1] [] σ (fX11_remembers_55 n9 l1 σ) := by
  intro n9
  induction n9 with
  | zero => intro l1 σ; exact pn_none
  | succ n9 ih =>
    intro l1 σ
    rw [fX11_remembers_55]
    refine pn_iload_n dX11_remembers_55 rfl rfl rfl ?_
    refine pn_sipush dX11_remembers_56 rfl sc_317 ?_
    refine pn_icmp_ge (tgt := 91) dX11_remembers_59 rfl rfl (fun c3 => ?_) (fun c3 => ?_)
    · exact pn_vretv dX11_remembers_91 rfl rfl
    · refine pn_aload_n dX11_remembers_62 rfl rfl rfl ?_
      refine pn_geta dX11_remembers_63 rfl lf_X11_26_10 qt_85 qk_85 qr_85_5 qt_90 ?_
      refine pn_sipush dX11_remembers_66 rfl sc_317 ?_
      refine pn_aload_n dX11_remembers_69 rfl rfl rfl ?_
      refine pn_geti dX11_remembers_70 rfl lf_X11_52_10 qt_85 qk_85 qr_85_7 ?_
      refine pn_iconst dX11_remembers_73 rfl ic_1 ?_
      refine pn_isub dX11_remembers_74 rfl ?_
      refine pn_imul dX11_remembers_75 rfl ?_
      refine pn_iload_n dX11_remembers_76 rfl rfl rfl ?_
      refine pn_iadd dX11_remembers_77 rfl ?_
      refine pn_aload_n dX11_remembers_78 rfl rfl rfl ?_
      refine pn_geta dX11_remembers_79 rfl lf_X11_13_10 qt_85 qk_85 qr_85_1 qt_86 ?_
      refine pn_iload_n dX11_remembers_82 rfl rfl rfl ?_
      refine pn_iald dX11_remembers_83 rfl qt_86 qk_86 ql_86 ?_
      refine pn_iast dX11_remembers_84 rfl qt_90 qk_90 ql_90 ?_
      refine pn_iinc (ls' := [.ref 85, .int (l1 + (1 : Int32))]) dX11_remembers_85 rfl (Nat.le_of_ble_eq_true rfl) rfl (congrArg (fun z => l1 + z) ic_1) rfl ?_
      refine pn_goto (pc' := 55) dX11_remembers_88 rfl ?_
      exact ih (l1 + (1 : Int32)) (pn_up σ 90 (Int32.toNatClampNeg (((317 : Int32) * ((σ 85 7) - (1 : Int32))) + l1)) (σ 86 (Int32.toNatClampNeg l1)))

set_option maxRecDepth 20000 in
set_option maxHeartbeats 4000000 in
theorem wX11_remembers_11 (Γ : pn_G)  : ∀ (n9 : Nat) (l1 : Int32) (σ : pn_S), pn_W9 Γ 1 mX11_remembers pn_v 11 [.ref 85, .int l1] [] σ (fX11_remembers_11 n9 l1 σ) := by
  intro n9
  induction n9 with
  | zero => intro l1 σ; exact pn_none
  | succ n9 ih =>
    intro l1 σ
    rw [fX11_remembers_11]
    refine pn_iload_n dX11_remembers_11 rfl rfl rfl ?_
    refine pn_sipush dX11_remembers_12 rfl sc_3487 ?_
    refine pn_icmp_ge (tgt := 40) dX11_remembers_15 rfl rfl (fun c2 => ?_) (fun c2 => ?_)
    · refine pn_goto (pc' := 53) dX11_remembers_40 rfl ?_
      refine pn_iconst dX11_remembers_53 rfl ic_0 ?_
      refine pn_istore_n (ls' := [.ref 85, .int (0 : Int32)]) dX11_remembers_54 rfl rfl (Nat.le_of_ble_eq_true rfl) rfl ?_
      exact wX11_remembers_55 Γ 5000 (0 : Int32) σ
    · refine pn_aload_n dX11_remembers_18 rfl rfl rfl ?_
      refine pn_geta dX11_remembers_19 rfl lf_X11_26_10 qt_85 qk_85 qr_85_5 qt_90 ?_
      refine pn_iload_n dX11_remembers_22 rfl rfl rfl ?_
      refine pn_aload_n dX11_remembers_23 rfl rfl rfl ?_
      refine pn_geta dX11_remembers_24 rfl lf_X11_26_10 qt_85 qk_85 qr_85_5 qt_90 ?_
      refine pn_iload_n dX11_remembers_27 rfl rfl rfl ?_
      refine pn_sipush dX11_remembers_28 rfl sc_317 ?_
      refine pn_iadd dX11_remembers_31 rfl ?_
      refine pn_iald dX11_remembers_32 rfl qt_90 qk_90 ql_90 ?_
      refine pn_iast dX11_remembers_33 rfl qt_90 qk_90 ql_90 ?_
      refine pn_iinc (ls' := [.ref 85, .int (l1 + (1 : Int32))]) dX11_remembers_34 rfl (Nat.le_of_ble_eq_true rfl) rfl (congrArg (fun z => l1 + z) ic_1) rfl ?_
      refine pn_goto (pc' := 11) dX11_remembers_37 rfl ?_
      exact ih (l1 + (1 : Int32)) (pn_up σ 90 (Int32.toNatClampNeg l1) (σ 90 (Int32.toNatClampNeg (l1 + (317 : Int32)))))

set_option maxRecDepth 20000 in
set_option maxHeartbeats 4000000 in
theorem ct_X11_remembers (Γ : pn_G)  (σ : pn_S) : ∀ r, fX11_remembers  σ = some r → pn_C Γ 1 mX11_remembers [.ref 85] σ (pn_v r) := by
  refine pn_of (ls := [.ref 85, .null]) (by decide) rfl (pn_cat rfl) rfl (Nat.le_of_ble_eq_true rfl) ?_
  rw [fX11_remembers]
  refine pn_aload_n dX11_remembers_0 rfl rfl rfl ?_
  refine pn_geti dX11_remembers_1 rfl lf_X11_52_10 qt_85 qk_85 qr_85_7 ?_
  refine pn_bipush dX11_remembers_4 rfl bc_12 ?_
  refine pn_icmp_ne (tgt := 43) dX11_remembers_6 rfl rfl (fun c1 => ?_) (fun c1 => ?_)
  · refine pn_iconst dX11_remembers_9 rfl ic_0 ?_
    refine pn_istore_n (ls' := [.ref 85, .int (0 : Int32)]) dX11_remembers_10 rfl rfl (Nat.le_of_ble_eq_true rfl) rfl ?_
    exact wX11_remembers_11 Γ 5000 (0 : Int32) σ
  · refine pn_aload_n dX11_remembers_43 rfl rfl rfl ?_
    refine pn_dupa dX11_remembers_44 rfl ?_
    refine pn_geti dX11_remembers_45 rfl lf_X11_52_10 qt_85 qk_85 qr_85_7 ?_
    refine pn_iconst dX11_remembers_48 rfl ic_1 ?_
    refine pn_iadd dX11_remembers_49 rfl ?_
    refine pn_puti dX11_remembers_50 rfl lf_X11_52_10 (fpi_10_7 ((σ 85 7) + (1 : Int32))) qt_85 qk_85 qr_85_7 ?_
    refine pn_iconst dX11_remembers_53 rfl ic_0 ?_
    refine pn_istore_n (ls' := [.ref 85, .int (0 : Int32)]) dX11_remembers_54 rfl rfl (Nat.le_of_ble_eq_true rfl) rfl ?_
    exact wX11_remembers_55 Γ 5000 (0 : Int32) (pn_up σ 85 7 ((σ 85 7) + (1 : Int32)))

set_option maxRecDepth 20000 in
set_option maxHeartbeats 4000000 in
theorem wX11_undo_26 (Γ : pn_G)  : ∀ (n9 : Nat) (l1 : Int32) (σ : pn_S), pn_W9 Γ 1 mX11_undo pn_i 26 [.ref 85, .int l1] [] σ (fX11_undo_26 n9 l1 σ) := by
  intro n9
  induction n9 with
  | zero => intro l1 σ; exact pn_none
  | succ n9 ih =>
    intro l1 σ
    rw [fX11_undo_26]
    refine pn_iload_n dX11_undo_26 rfl rfl rfl ?_
    refine pn_sipush dX11_undo_27 rfl sc_317 ?_
    refine pn_icmp_ge (tgt := 60) dX11_undo_30 rfl rfl (fun c2 => ?_) (fun c2 => ?_)
    · refine pn_iconst dX11_undo_60 rfl ic_1 ?_
      exact pn_iretv dX11_undo_61 rfl rfl rfl
    · refine pn_aload_n dX11_undo_33 rfl rfl rfl ?_
      refine pn_geta dX11_undo_34 rfl lf_X11_13_10 qt_85 qk_85 qr_85_1 qt_86 ?_
      refine pn_iload_n dX11_undo_37 rfl rfl rfl ?_
      refine pn_aload_n dX11_undo_38 rfl rfl rfl ?_
      refine pn_geta dX11_undo_39 rfl lf_X11_26_10 qt_85 qk_85 qr_85_5 qt_90 ?_
      refine pn_sipush dX11_undo_42 rfl sc_317 ?_
      refine pn_aload_n dX11_undo_45 rfl rfl rfl ?_
      refine pn_geti dX11_undo_46 rfl lf_X11_52_10 qt_85 qk_85 qr_85_7 ?_
      refine pn_imul dX11_undo_49 rfl ?_
      refine pn_iload_n dX11_undo_50 rfl rfl rfl ?_
      refine pn_iadd dX11_undo_51 rfl ?_
      refine pn_iald dX11_undo_52 rfl qt_90 qk_90 ql_90 ?_
      refine pn_iast dX11_undo_53 rfl qt_86 qk_86 ql_86 ?_
      refine pn_iinc (ls' := [.ref 85, .int (l1 + (1 : Int32))]) dX11_undo_54 rfl (Nat.le_of_ble_eq_true rfl) rfl (congrArg (fun z => l1 + z) ic_1) rfl ?_
      refine pn_goto (pc' := 26) dX11_undo_57 rfl ?_
      exact ih (l1 + (1 : Int32)) (pn_up σ 86 (Int32.toNatClampNeg l1) (σ 90 (Int32.toNatClampNeg (((317 : Int32) * (σ 85 7)) + l1))))

set_option maxRecDepth 20000 in
set_option maxHeartbeats 4000000 in
theorem ct_X11_undo (Γ : pn_G)  (σ : pn_S) : ∀ r, fX11_undo  σ = some r → pn_C Γ 1 mX11_undo [.ref 85] σ (pn_i r) := by
  refine pn_of (ls := [.ref 85, .null]) (by decide) rfl (pn_cat rfl) rfl (Nat.le_of_ble_eq_true rfl) ?_
  rw [fX11_undo]
  refine pn_aload_n dX11_undo_0 rfl rfl rfl ?_
  refine pn_iconst dX11_undo_1 rfl ic_0 ?_
  refine pn_puti dX11_undo_2 rfl lf_X11_3_10 (fpi_10_0 (0 : Int32)) qt_85 qk_85 qr_85_0 ?_
  refine pn_aload_n dX11_undo_5 rfl rfl rfl ?_
  refine pn_geti dX11_undo_6 rfl lf_X11_52_10 qt_85 qk_85 qr_85_7 ?_
  refine pn_if_ne (tgt := 14) dX11_undo_9 rfl rfl (fun c1 => ?_) (fun c1 => ?_)
  · refine pn_iconst dX11_undo_12 rfl ic_0 ?_
    exact pn_iretv dX11_undo_13 rfl rfl rfl
  · refine pn_aload_n dX11_undo_14 rfl rfl rfl ?_
    refine pn_dupa dX11_undo_15 rfl ?_
    refine pn_geti dX11_undo_16 rfl lf_X11_52_10 qt_85 qk_85 qr_85_7 ?_
    refine pn_iconst dX11_undo_19 rfl ic_1 ?_
    refine pn_isub dX11_undo_20 rfl ?_
    refine pn_puti dX11_undo_21 rfl lf_X11_52_10 (fpi_10_7 (((pn_up σ 85 0 (0 : Int32)) 85 7) - (1 : Int32))) qt_85 qk_85 qr_85_7 ?_
    refine pn_iconst dX11_undo_24 rfl ic_0 ?_
    refine pn_istore_n (ls' := [.ref 85, .int (0 : Int32)]) dX11_undo_25 rfl rfl (Nat.le_of_ble_eq_true rfl) rfl ?_
    exact wX11_undo_26 Γ 5000 (0 : Int32) (pn_up (pn_up σ 85 0 (0 : Int32)) 85 7 (((pn_up σ 85 0 (0 : Int32)) 85 7) - (1 : Int32)))

set_option maxRecDepth 20000 in
set_option maxHeartbeats 4000000 in
theorem ct_X11_people (Γ : pn_G)  (σ : pn_S) : ∀ r, fX11_people  σ = some r → pn_C Γ 1 mX11_people [.ref 85] σ ((pn_p σ) r) := by
  refine pn_of (ls := [.ref 85]) (by decide) rfl (pn_cat rfl) rfl (Nat.le_of_ble_eq_true rfl) ?_
  rw [fX11_people]
  refine pn_aload_n dX11_people_0 rfl rfl rfl ?_
  refine pn_geta dX11_people_1 rfl lf_X11_13_10 qt_85 qk_85 qr_85_1 qt_86 ?_
  refine pn_iconst dX11_people_4 rfl ic_0 ?_
  refine pn_ialdc dX11_people_5 rfl qt_86 qk_86 ql_86 (by decide) qn_0 ?_
  exact pn_iretv dX11_people_6 rfl rfl rfl

set_option maxRecDepth 20000 in
set_option maxHeartbeats 4000000 in
theorem ct_X11_everybody (Γ : pn_G)  (σ : pn_S) : ∀ r, fX11_everybody  σ = some r → pn_C Γ 2 mX11_everybody [.ref 85] σ ((pn_p σ) r) := by
  refine pn_of (ls := [.ref 85]) (by decide) rfl (pn_cat rfl) rfl (Nat.le_of_ble_eq_true rfl) ?_
  rw [fX11_everybody]
  refine pn_iconst dX11_everybody_0 rfl ic_1 ?_
  refine pn_aload_n dX11_everybody_1 rfl rfl rfl ?_
  refine pn_cp (fun r9 h9 => pn_LKV dX11_everybody_2 lm_X11_55 (ct_X11_people Γ σ r9 h9) (by decide) qt_85 qk_85 rfl rfl (Nat.le_of_ble_eq_true rfl)) rfl (fun x1 => ?_)
  refine pn_ishl dX11_everybody_5 rfl ?_
  refine pn_iconst dX11_everybody_6 rfl ic_1 ?_
  refine pn_isub dX11_everybody_7 rfl ?_
  exact pn_iretv dX11_everybody_8 rfl rfl rfl

set_option maxRecDepth 20000 in
set_option maxHeartbeats 4000000 in
theorem ct_X11_at (Γ : pn_G) (a0 : Int32) (a1 : Int32) (σ : pn_S) : ∀ r, fX11_at a0 a1 σ = some r → pn_C Γ 1 mX11_at [.int a0, .int a1] σ ((pn_p σ) r) := by
  refine pn_of (ls := [.int a0, .int a1]) (by decide) rfl (pn_cat rfl) rfl (Nat.le_of_ble_eq_true rfl) ?_
  rw [fX11_at]
  refine pn_bipush dX11_at_0 rfl bc_13 ?_
  refine pn_bipush dX11_at_2 rfl bc_8 ?_
  refine pn_iload_n dX11_at_4 rfl rfl rfl ?_
  refine pn_imul dX11_at_5 rfl ?_
  refine pn_iadd dX11_at_6 rfl ?_
  refine pn_iload_n dX11_at_7 rfl rfl rfl ?_
  refine pn_iadd dX11_at_8 rfl ?_
  exact pn_iretv dX11_at_9 rfl rfl rfl

set_option maxRecDepth 20000 in
set_option maxHeartbeats 4000000 in
theorem ct_X11_of (Γ : pn_G) (a1 : Int32) (a2 : Int32) (σ : pn_S) : ∀ r, fX11_of a1 a2 σ = some r → pn_C Γ 2 mX11_of [.ref 85, .int a1, .int a2] σ ((pn_p σ) r) := by
  refine pn_of (ls := [.ref 85, .int a1, .int a2]) (by decide) rfl (pn_cat rfl) rfl (Nat.le_of_ble_eq_true rfl) ?_
  rw [fX11_of]
  refine pn_aload_n dX11_of_0 rfl rfl rfl ?_
  refine pn_geta dX11_of_1 rfl lf_X11_13_10 qt_85 qk_85 qr_85_1 qt_86 ?_
  refine pn_iload_n dX11_of_4 rfl rfl rfl ?_
  refine pn_iload_n dX11_of_5 rfl rfl rfl ?_
  refine pn_cp (fun r9 h9 => pn_LKS dX11_of_6 lm_X11_59 (ct_X11_at Γ a1 a2 σ r9 h9) (by decide) rfl rfl (Nat.le_of_ble_eq_true rfl)) rfl (fun x1 => ?_)
  refine pn_iald dX11_of_9 rfl qt_86 qk_86 ql_86 ?_
  exact pn_iretv dX11_of_10 rfl rfl rfl

set_option maxRecDepth 20000 in
set_option maxHeartbeats 4000000 in
theorem ct_X11_hasTarget (Γ : pn_G)  (σ : pn_S) : ∀ r, fX11_hasTarget  σ = some r → pn_C Γ 1 mX11_hasTarget [.ref 85] σ ((pn_p σ) r) := by
  refine pn_of (ls := [.ref 85]) (by decide) rfl (pn_cat rfl) rfl (Nat.le_of_ble_eq_true rfl) ?_
  rw [fX11_hasTarget]
  refine pn_aload_n dX11_hasTarget_0 rfl rfl rfl ?_
  refine pn_geta dX11_hasTarget_1 rfl lf_X11_13_10 qt_85 qk_85 qr_85_1 qt_86 ?_
  refine pn_iconst dX11_hasTarget_4 rfl ic_5 ?_
  refine pn_ialdc dX11_hasTarget_5 rfl qt_86 qk_86 ql_86 (by decide) qn_5 ?_
  refine pn_iconst dX11_hasTarget_6 rfl ic_m1 ?_
  refine pn_icmp_eq (tgt := 14) dX11_hasTarget_7 rfl rfl (fun c1 => ?_) (fun c1 => ?_)
  · refine pn_iconst dX11_hasTarget_14 rfl ic_0 ?_
    exact pn_iretv dX11_hasTarget_15 rfl rfl rfl
  · refine pn_iconst dX11_hasTarget_10 rfl ic_1 ?_
    refine pn_goto (pc' := 15) dX11_hasTarget_11 rfl ?_
    exact pn_iretv dX11_hasTarget_15 rfl rfl rfl

set_option maxRecDepth 20000 in
set_option maxHeartbeats 4000000 in
theorem ct_X11_nobody (Γ : pn_G) (a1 : Int32) (σ : pn_S) : ∀ r, fX11_nobody a1 σ = some r → pn_C Γ 2 mX11_nobody [.ref 85, .int a1] σ ((pn_p σ) r) := by
  refine pn_of (ls := [.ref 85, .int a1]) (by decide) rfl (pn_cat rfl) rfl (Nat.le_of_ble_eq_true rfl) ?_
  rw [fX11_nobody]
  refine pn_iload_n dX11_nobody_0 rfl rfl rfl ?_
  refine pn_iconst dX11_nobody_1 rfl ic_0 ?_
  refine pn_aload_n dX11_nobody_2 rfl rfl rfl ?_
  refine pn_cp (fun r9 h9 => pn_LKV dX11_nobody_3 lm_X11_55 (ct_X11_people Γ σ r9 h9) (by decide) qt_85 qk_85 rfl rfl (Nat.le_of_ble_eq_true rfl)) rfl (fun x1 => ?_)
  refine pn_iconst dX11_nobody_6 rfl ic_1 ?_
  refine pn_isub dX11_nobody_7 rfl ?_
  refine pn_cp (fun r9 h9 => pn_LKS dX11_nobody_8 lm_X11_63 (ct_X11_in Γ a1 (0 : Int32) (x1 - (1 : Int32)) σ r9 h9) (by decide) rfl rfl (Nat.le_of_ble_eq_true rfl)) rfl (fun x2 => ?_)
  refine pn_if_ne (tgt := 18) dX11_nobody_11 rfl rfl (fun c3 => ?_) (fun c3 => ?_)
  · refine pn_iconst dX11_nobody_14 rfl ic_1 ?_
    refine pn_goto (pc' := 19) dX11_nobody_15 rfl ?_
    exact pn_iretv dX11_nobody_19 rfl rfl rfl
  · refine pn_iconst dX11_nobody_18 rfl ic_0 ?_
    exact pn_iretv dX11_nobody_19 rfl rfl rfl

set_option maxRecDepth 20000 in
set_option maxHeartbeats 4000000 in
theorem wX11_beginners_4 (Γ : pn_G)  (σ : pn_S) : ∀ (n9 : Nat) (l1 : Int32) (l2 : Int32), pn_W9 Γ 3 mX11_beginners (pn_p σ) 4 [.ref 85, .int l1, .int l2] [] σ (fX11_beginners_4 n9 l1 l2 σ) := by
  intro n9
  induction n9 with
  | zero => intro l1 l2; exact pn_none
  | succ n9 ih =>
    intro l1 l2
    rw [fX11_beginners_4]
    refine pn_iload_n dX11_beginners_4 rfl rfl rfl ?_
    refine pn_aload_n dX11_beginners_5 rfl rfl rfl ?_
    refine pn_cp (fun r9 h9 => pn_LKV dX11_beginners_6 lm_X11_55 (ct_X11_people Γ σ r9 h9) (by decide) qt_85 qk_85 rfl rfl (Nat.le_of_ble_eq_true rfl)) rfl (fun x1 => ?_)
    refine pn_icmp_ge (tgt := 30) dX11_beginners_9 rfl rfl (fun c2 => ?_) (fun c2 => ?_)
    · refine pn_iload_n dX11_beginners_30 rfl rfl rfl ?_
      exact pn_iretv dX11_beginners_31 rfl rfl rfl
    · refine pn_iload_n dX11_beginners_12 rfl rfl rfl ?_
      refine pn_aload_n dX11_beginners_13 rfl rfl rfl ?_
      refine pn_iload_n dX11_beginners_14 rfl rfl rfl ?_
      refine pn_bipush dX11_beginners_15 rfl bc_7 ?_
      refine pn_cp (fun r9 h9 => pn_LKV dX11_beginners_17 lm_X11_67 (ct_X11_of Γ l2 (7 : Int32) σ r9 h9) (by decide) qt_85 qk_85 rfl rfl (Nat.le_of_ble_eq_true rfl)) rfl (fun x3 => ?_)
      refine pn_iload_n dX11_beginners_20 rfl rfl rfl ?_
      refine pn_ishl dX11_beginners_21 rfl ?_
      refine pn_ior dX11_beginners_22 rfl ?_
      refine pn_istore_n (ls' := [.ref 85, .int (l1 ||| (x3 <<< (l2 &&& 31))), .int l2]) dX11_beginners_23 rfl rfl (Nat.le_of_ble_eq_true rfl) rfl ?_
      refine pn_iinc (ls' := [.ref 85, .int (l1 ||| (x3 <<< (l2 &&& 31))), .int (l2 + (1 : Int32))]) dX11_beginners_24 rfl (Nat.le_of_ble_eq_true rfl) rfl (congrArg (fun z => l2 + z) ic_1) rfl ?_
      refine pn_goto (pc' := 4) dX11_beginners_27 rfl ?_
      exact ih (l1 ||| (x3 <<< (l2 &&& 31))) (l2 + (1 : Int32))

set_option maxRecDepth 20000 in
set_option maxHeartbeats 4000000 in
theorem ct_X11_beginners (Γ : pn_G)  (σ : pn_S) : ∀ r, fX11_beginners  σ = some r → pn_C Γ 3 mX11_beginners [.ref 85] σ ((pn_p σ) r) := by
  refine pn_of (ls := [.ref 85, .null, .null]) (by decide) rfl (pn_cat rfl) rfl (Nat.le_of_ble_eq_true rfl) ?_
  rw [fX11_beginners]
  refine pn_iconst dX11_beginners_0 rfl ic_0 ?_
  refine pn_istore_n (ls' := [.ref 85, .int (0 : Int32), .null]) dX11_beginners_1 rfl rfl (Nat.le_of_ble_eq_true rfl) rfl ?_
  refine pn_iconst dX11_beginners_2 rfl ic_0 ?_
  refine pn_istore_n (ls' := [.ref 85, .int (0 : Int32), .int (0 : Int32)]) dX11_beginners_3 rfl rfl (Nat.le_of_ble_eq_true rfl) rfl ?_
  exact wX11_beginners_4 Γ σ 5000 (0 : Int32) (0 : Int32)

set_option maxRecDepth 20000 in
set_option maxHeartbeats 4000000 in
theorem ct_X11_drawn (Γ : pn_G) (a1 : Int32) (σ : pn_S) : ∀ r, fX11_drawn a1 σ = some r → pn_C Γ 1 mX11_drawn [.ref 85, .int a1] σ (pn_i r) := by
  refine pn_of (ls := [.ref 85, .int a1]) (by decide) rfl (pn_cat rfl) rfl (Nat.le_of_ble_eq_true rfl) ?_
  rw [fX11_drawn]
  refine pn_aload_n dX11_drawn_0 rfl rfl rfl ?_
  refine pn_geta dX11_drawn_1 rfl lf_X11_13_10 qt_85 qk_85 qr_85_1 qt_86 ?_
  refine pn_bipush dX11_drawn_4 rfl bc_12 ?_
  refine pn_ldc dX11_drawn_6 rfl lc_X11_70 ?_
  refine pn_aload_n dX11_drawn_8 rfl rfl rfl ?_
  refine pn_geta dX11_drawn_9 rfl lf_X11_13_10 qt_85 qk_85 qr_85_1 qt_86 ?_
  refine pn_bipush dX11_drawn_12 rfl bc_12 ?_
  refine pn_ialdc dX11_drawn_14 rfl qt_86 qk_86 ql_86 (by decide) qn_12 ?_
  refine pn_imul dX11_drawn_15 rfl ?_
  refine pn_sipush dX11_drawn_16 rfl sc_12345 ?_
  refine pn_iadd dX11_drawn_19 rfl ?_
  refine pn_iastc dX11_drawn_20 rfl qt_86 qk_86 ql_86 (by decide) qn_12 ?_
  refine pn_aload_n dX11_drawn_21 rfl rfl rfl ?_
  refine pn_geta dX11_drawn_22 rfl lf_X11_13_10 qt_85 qk_85 qr_85_1 qt_86 ?_
  refine pn_bipush dX11_drawn_25 rfl bc_12 ?_
  refine pn_ialdc dX11_drawn_27 rfl qt_86 qk_86 ql_86 (by decide) qn_12 ?_
  refine pn_bipush dX11_drawn_28 rfl bc_16 ?_
  refine pn_ishr dX11_drawn_30 rfl ?_
  refine pn_sipush dX11_drawn_31 rfl sc_32767 ?_
  refine pn_iand dX11_drawn_34 rfl ?_
  refine pn_iload_n dX11_drawn_35 rfl rfl rfl ?_
  refine pn_irem dX11_drawn_36 rfl ?_
  exact pn_iretv dX11_drawn_37 rfl rfl rfl

set_option maxRecDepth 20000 in
set_option maxHeartbeats 4000000 in
theorem wX11_feed_60 (Γ : pn_G)  : ∀ (n9 : Nat) (l6 : Int32) (σ : pn_S), pn_W9 Γ 1 mX11_feed pn_i 60 [.ref 85, .null, .null, .null, .null, .null, .int l6] [] σ (fX11_feed_60 n9 l6 σ) := by
  intro n9
  induction n9 with
  | zero => intro l6 σ; exact pn_none
  | succ n9 ih =>
    intro l6 σ
    rw [fX11_feed_60]
    refine pn_iload dX11_feed_60 rfl rfl ?_
    refine pn_bipush dX11_feed_62 rfl bc_20 ?_
    refine pn_icmp_ge (tgt := 106) dX11_feed_64 rfl rfl (fun c2 => ?_) (fun c2 => ?_)
    · refine pn_aload_n dX11_feed_106 rfl rfl rfl ?_
      refine pn_dupa dX11_feed_107 rfl ?_
      refine pn_geti dX11_feed_108 rfl lf_X11_71_10 qt_85 qk_85 qr_85_9 ?_
      refine pn_bipush dX11_feed_111 rfl bc_20 ?_
      refine pn_iadd dX11_feed_113 rfl ?_
      refine pn_puti dX11_feed_114 rfl lf_X11_71_10 (fpi_10_9 ((σ 85 9) + (20 : Int32))) qt_85 qk_85 qr_85_9 ?_
      refine pn_aload_n dX11_feed_117 rfl rfl rfl ?_
      refine pn_geti dX11_feed_118 rfl lf_X11_71_10 qt_85 qk_85 qr_85_9 ?_
      exact pn_iretv dX11_feed_121 rfl rfl rfl
    · refine pn_aload_n dX11_feed_67 rfl rfl rfl ?_
      refine pn_geta dX11_feed_68 rfl lf_X11_29_10 qt_85 qk_85 qr_85_8 qt_91 ?_
      refine pn_aload_n dX11_feed_71 rfl rfl rfl ?_
      refine pn_geti dX11_feed_72 rfl lf_X11_71_10 qt_85 qk_85 qr_85_9 ?_
      refine pn_iload dX11_feed_75 rfl rfl ?_
      refine pn_iadd dX11_feed_77 rfl ?_
      refine pn_aload_n dX11_feed_78 rfl rfl rfl ?_
      refine pn_geta dX11_feed_79 rfl lf_X11_36_10 qt_85 qk_85 qr_85_15 qt_92 ?_
      refine pn_iload dX11_feed_82 rfl rfl ?_
      refine pn_iconst dX11_feed_84 rfl ic_4 ?_
      refine pn_idivc dX11_feed_85 rfl (by decide) ?_
      refine pn_iald dX11_feed_86 rfl qt_92 qk_92 ql_92 ?_
      refine pn_bipush dX11_feed_87 rfl bc_24 ?_
      refine pn_bipush dX11_feed_89 rfl bc_8 ?_
      refine pn_iload dX11_feed_91 rfl rfl ?_
      refine pn_iconst dX11_feed_93 rfl ic_4 ?_
      refine pn_iremc dX11_feed_94 rfl (by decide) ?_
      refine pn_imul dX11_feed_95 rfl ?_
      refine pn_isub dX11_feed_96 rfl ?_
      refine pn_ishr dX11_feed_97 rfl ?_
      refine pn_i2b dX11_feed_98 rfl ?_
      refine pn_bast dX11_feed_99 rfl qt_91 qk_91 ql_91 ?_
      refine pn_iinc (ls' := [.ref 85, .null, .null, .null, .null, .null, .int (l6 + (1 : Int32))]) dX11_feed_100 rfl (Nat.le_of_ble_eq_true rfl) rfl (congrArg (fun z => l6 + z) ic_1) rfl ?_
      refine pn_goto (pc' := 60) dX11_feed_103 rfl ?_
      exact ih (l6 + (1 : Int32)) (pn_up σ 91 (Int32.toNatClampNeg ((σ 85 9) + l6)) ((Int32.toInt8 ((Int32.toInt8 ((σ 92 (Int32.toNatClampNeg (l6 / (4 : Int32)))) >>> (((24 : Int32) - ((8 : Int32) * (l6 - l6 / (4 : Int32) * (4 : Int32)))) &&& 31))).toInt32)).toInt32))

set_option maxRecDepth 20000 in
set_option maxHeartbeats 4000000 in
theorem ct_X11_feed (Γ : pn_G) (a1 : Int32) (a2 : Int32) (a3 : Int32) (a4 : Int32) (a5 : Int32) (σ : pn_S) : ∀ r, fX11_feed a1 a2 a3 a4 a5 σ = some r → pn_C Γ 1 mX11_feed [.ref 85, .int a1, .int a2, .int a3, .int a4, .int a5] σ (pn_i r) := by
  refine pn_of (ls := [.ref 85, .int a1, .int a2, .int a3, .int a4, .int a5, .null]) (by decide) rfl (pn_cat rfl) rfl (Nat.le_of_ble_eq_true rfl) ?_
  rw [fX11_feed]
  refine pn_aload_n dX11_feed_0 rfl rfl rfl ?_
  refine pn_iconst dX11_feed_1 rfl ic_0 ?_
  refine pn_puti dX11_feed_2 rfl lf_X11_3_10 (fpi_10_0 (0 : Int32)) qt_85 qk_85 qr_85_0 ?_
  refine pn_aload_n dX11_feed_5 rfl rfl rfl ?_
  refine pn_geti dX11_feed_6 rfl lf_X11_71_10 qt_85 qk_85 qr_85_9 ?_
  refine pn_bipush dX11_feed_9 rfl bc_20 ?_
  refine pn_iadd dX11_feed_11 rfl ?_
  refine pn_sipush dX11_feed_12 rfl sc_400 ?_
  refine pn_icmp_le (tgt := 20) dX11_feed_15 rfl rfl (fun c1 => ?_) (fun c1 => ?_)
  · refine pn_aload_n dX11_feed_20 rfl rfl rfl ?_
    refine pn_geta dX11_feed_21 rfl lf_X11_36_10 qt_85 qk_85 qr_85_15 qt_92 ?_
    refine pn_iconst dX11_feed_24 rfl ic_0 ?_
    refine pn_iload_n dX11_feed_25 rfl rfl rfl ?_
    refine pn_iastc dX11_feed_26 rfl qt_92 qk_92 ql_92 (by decide) qn_0 ?_
    refine pn_aload_n dX11_feed_27 rfl rfl rfl ?_
    refine pn_geta dX11_feed_28 rfl lf_X11_36_10 qt_85 qk_85 qr_85_15 qt_92 ?_
    refine pn_iconst dX11_feed_31 rfl ic_1 ?_
    refine pn_iload_n dX11_feed_32 rfl rfl rfl ?_
    refine pn_iastc dX11_feed_33 rfl qt_92 qk_92 ql_92 (by decide) qn_1 ?_
    refine pn_aload_n dX11_feed_34 rfl rfl rfl ?_
    refine pn_geta dX11_feed_35 rfl lf_X11_36_10 qt_85 qk_85 qr_85_15 qt_92 ?_
    refine pn_iconst dX11_feed_38 rfl ic_2 ?_
    refine pn_iload_n dX11_feed_39 rfl rfl rfl ?_
    refine pn_iastc dX11_feed_40 rfl qt_92 qk_92 ql_92 (by decide) qn_2 ?_
    refine pn_aload_n dX11_feed_41 rfl rfl rfl ?_
    refine pn_geta dX11_feed_42 rfl lf_X11_36_10 qt_85 qk_85 qr_85_15 qt_92 ?_
    refine pn_iconst dX11_feed_45 rfl ic_3 ?_
    refine pn_iload dX11_feed_46 rfl rfl ?_
    refine pn_iastc dX11_feed_48 rfl qt_92 qk_92 ql_92 (by decide) qn_3 ?_
    refine pn_aload_n dX11_feed_49 rfl rfl rfl ?_
    refine pn_geta dX11_feed_50 rfl lf_X11_36_10 qt_85 qk_85 qr_85_15 qt_92 ?_
    refine pn_iconst dX11_feed_53 rfl ic_4 ?_
    refine pn_iload dX11_feed_54 rfl rfl ?_
    refine pn_iastc dX11_feed_56 rfl qt_92 qk_92 ql_92 (by decide) qn_4 ?_
    refine pn_iconst dX11_feed_57 rfl ic_0 ?_
    refine pn_istore (ls' := [.ref 85, .int a1, .int a2, .int a3, .int a4, .int a5, .int (0 : Int32)]) dX11_feed_58 rfl (Nat.le_of_ble_eq_true rfl) rfl ?_
    exact pn_wk (pn_leC rfl (pn_leN (pn_leN (pn_leN (pn_leN (pn_leN (pn_leC rfl pn_le0))))))) (wX11_feed_60 Γ 5000 (0 : Int32) (pn_up (pn_up (pn_up (pn_up (pn_up (pn_up σ 85 0 (0 : Int32)) 92 0 a1) 92 1 a2) 92 2 a3) 92 3 a4) 92 4 a5))
  · refine pn_iconst dX11_feed_18 rfl ic_m1 ?_
    exact pn_iretv dX11_feed_19 rfl rfl rfl

set_option maxRecDepth 20000 in
set_option maxHeartbeats 4000000 in
theorem ct_X11_end (Γ : pn_G) (a1 : Int32) (σ : pn_S) : ∀ r, fX11_end a1 σ = some r → pn_C Γ 1 mX11_end [.ref 85, .int a1] σ (pn_i r) := by
  refine pn_of (ls := [.ref 85, .int a1]) (by decide) rfl (pn_cat rfl) rfl (Nat.le_of_ble_eq_true rfl) ?_
  rw [fX11_end]
  refine pn_aload_n dX11_end_0 rfl rfl rfl ?_
  refine pn_iconst dX11_end_1 rfl ic_0 ?_
  refine pn_puti dX11_end_2 rfl lf_X11_3_10 (fpi_10_0 (0 : Int32)) qt_85 qk_85 qr_85_0 ?_
  refine pn_iload_n dX11_end_5 rfl rfl rfl ?_
  refine pn_if_lt (tgt := 17) dX11_end_6 rfl rfl (fun c1 => ?_) (fun c1 => ?_)
  · refine pn_iconst dX11_end_17 rfl ic_0 ?_
    exact pn_iretv dX11_end_18 rfl rfl rfl
  · refine pn_iload_n dX11_end_9 rfl rfl rfl ?_
    refine pn_aload_n dX11_end_10 rfl rfl rfl ?_
    refine pn_geti dX11_end_11 rfl lf_X11_71_10 qt_85 qk_85 qr_85_9 ?_
    refine pn_icmp_le (tgt := 19) dX11_end_14 rfl rfl (fun c2 => ?_) (fun c2 => ?_)
    · refine pn_aload_n dX11_end_19 rfl rfl rfl ?_
      refine pn_iload_n dX11_end_20 rfl rfl rfl ?_
      refine pn_puti dX11_end_21 rfl lf_X11_71_10 (fpi_10_9 a1) qt_85 qk_85 qr_85_9 ?_
      refine pn_iconst dX11_end_24 rfl ic_1 ?_
      exact pn_iretv dX11_end_25 rfl rfl rfl
    · refine pn_iconst dX11_end_17 rfl ic_0 ?_
      exact pn_iretv dX11_end_18 rfl rfl rfl

set_option maxRecDepth 20000 in
set_option maxHeartbeats 4000000 in
theorem ct_X11_isAt (Γ : pn_G) (a1 : Int32) (a2 : Int32) (σ : pn_S) : ∀ r, fX11_isAt a1 a2 σ = some r → pn_C Γ 1 mX11_isAt [.ref 85, .int a1, .int a2] σ ((pn_p σ) r) := by
  refine pn_of (ls := [.ref 85, .int a1, .int a2]) (by decide) rfl (pn_cat rfl) rfl (Nat.le_of_ble_eq_true rfl) ?_
  rw [fX11_isAt]
  refine pn_aload_n dX11_isAt_0 rfl rfl rfl ?_
  refine pn_geti dX11_isAt_1 rfl lf_X11_74_10 qt_85 qk_85 qr_85_10 ?_
  refine pn_aload_n dX11_isAt_4 rfl rfl rfl ?_
  refine pn_geti dX11_isAt_5 rfl lf_X11_77_10 qt_85 qk_85 qr_85_11 ?_
  refine pn_icmp_ge (tgt := 41) dX11_isAt_8 rfl rfl (fun c1 => ?_) (fun c1 => ?_)
  · refine pn_iconst dX11_isAt_41 rfl ic_0 ?_
    exact pn_iretv dX11_isAt_42 rfl rfl rfl
  · refine pn_aload_n dX11_isAt_11 rfl rfl rfl ?_
    refine pn_geta dX11_isAt_12 rfl lf_X11_29_10 qt_85 qk_85 qr_85_8 qt_91 ?_
    refine pn_aload_n dX11_isAt_15 rfl rfl rfl ?_
    refine pn_geti dX11_isAt_16 rfl lf_X11_74_10 qt_85 qk_85 qr_85_10 ?_
    refine pn_bald dX11_isAt_19 rfl qt_91 qk_91 ql_91 ?_
    refine pn_iload_n dX11_isAt_20 rfl rfl rfl ?_
    refine pn_icmp_lt (tgt := 41) dX11_isAt_21 rfl rfl (fun c2 => ?_) (fun c2 => ?_)
    · refine pn_iconst dX11_isAt_41 rfl ic_0 ?_
      exact pn_iretv dX11_isAt_42 rfl rfl rfl
    · refine pn_aload_n dX11_isAt_24 rfl rfl rfl ?_
      refine pn_geta dX11_isAt_25 rfl lf_X11_29_10 qt_85 qk_85 qr_85_8 qt_91 ?_
      refine pn_aload_n dX11_isAt_28 rfl rfl rfl ?_
      refine pn_geti dX11_isAt_29 rfl lf_X11_74_10 qt_85 qk_85 qr_85_10 ?_
      refine pn_bald dX11_isAt_32 rfl qt_91 qk_91 ql_91 ?_
      refine pn_iload_n dX11_isAt_33 rfl rfl rfl ?_
      refine pn_icmp_gt (tgt := 41) dX11_isAt_34 rfl rfl (fun c3 => ?_) (fun c3 => ?_)
      · refine pn_iconst dX11_isAt_41 rfl ic_0 ?_
        exact pn_iretv dX11_isAt_42 rfl rfl rfl
      · refine pn_iconst dX11_isAt_37 rfl ic_1 ?_
        refine pn_goto (pc' := 42) dX11_isAt_38 rfl ?_
        exact pn_iretv dX11_isAt_42 rfl rfl rfl

set_option maxRecDepth 20000 in
set_option maxHeartbeats 4000000 in
theorem wX11_blanks_0 (Γ : pn_G)  : ∀ (n9 : Nat) (σ : pn_S), pn_W9 Γ 2 mX11_blanks pn_v 0 [.ref 85] [] σ (fX11_blanks_0 n9  σ) := by
  intro n9
  induction n9 with
  | zero => intro σ; exact pn_none
  | succ n9 ih =>
    intro σ
    rw [fX11_blanks_0]
    refine pn_aload_n dX11_blanks_0 rfl rfl rfl ?_
    refine pn_bipush dX11_blanks_1 rfl bc_32 ?_
    refine pn_bipush dX11_blanks_3 rfl bc_32 ?_
    refine pn_cp (fun r9 h9 => pn_LKV dX11_blanks_5 lm_X11_80 (ct_X11_isAt Γ (32 : Int32) (32 : Int32) σ r9 h9) (by decide) qt_85 qk_85 rfl rfl (Nat.le_of_ble_eq_true rfl)) rfl (fun x1 => ?_)
    refine pn_if_eq (tgt := 24) dX11_blanks_8 rfl rfl (fun c2 => ?_) (fun c2 => ?_)
    · refine pn_aload_n dX11_blanks_24 rfl rfl rfl ?_
      refine pn_aload_n dX11_blanks_25 rfl rfl rfl ?_
      refine pn_geti dX11_blanks_26 rfl lf_X11_74_10 qt_85 qk_85 qr_85_10 ?_
      refine pn_puti dX11_blanks_29 rfl lf_X11_84_10 (fpi_10_12 (σ 85 10)) qt_85 qk_85 qr_85_12 ?_
      exact pn_vretv dX11_blanks_32 rfl rfl
    · refine pn_aload_n dX11_blanks_11 rfl rfl rfl ?_
      refine pn_dupa dX11_blanks_12 rfl ?_
      refine pn_geti dX11_blanks_13 rfl lf_X11_74_10 qt_85 qk_85 qr_85_10 ?_
      refine pn_iconst dX11_blanks_16 rfl ic_1 ?_
      refine pn_iadd dX11_blanks_17 rfl ?_
      refine pn_puti dX11_blanks_18 rfl lf_X11_74_10 (fpi_10_10 ((σ 85 10) + (1 : Int32))) qt_85 qk_85 qr_85_10 ?_
      refine pn_goto (pc' := 0) dX11_blanks_21 rfl ?_
      exact ih (pn_up σ 85 10 ((σ 85 10) + (1 : Int32)))

set_option maxRecDepth 20000 in
set_option maxHeartbeats 4000000 in
theorem ct_X11_blanks (Γ : pn_G)  (σ : pn_S) : ∀ r, fX11_blanks  σ = some r → pn_C Γ 2 mX11_blanks [.ref 85] σ (pn_v r) := by
  refine pn_of (ls := [.ref 85]) (by decide) rfl (pn_cat rfl) rfl (Nat.le_of_ble_eq_true rfl) ?_
  rw [fX11_blanks]
  exact wX11_blanks_0 Γ 5000 σ

set_option maxRecDepth 20000 in
set_option maxHeartbeats 4000000 in
theorem wX11_letters_4 (Γ : pn_G)  : ∀ (n9 : Nat) (σ : pn_S), pn_W9 Γ 3 mX11_letters pn_v 4 [.ref 85] [] σ (fX11_letters_4 n9  σ) := by
  intro n9
  induction n9 with
  | zero => intro σ; exact pn_none
  | succ n9 ih =>
    intro σ
    rw [fX11_letters_4]
    refine pn_aload_n dX11_letters_4 rfl rfl rfl ?_
    refine pn_bipush dX11_letters_5 rfl bc_97 ?_
    refine pn_bipush dX11_letters_7 rfl bc_122 ?_
    refine pn_cp (fun r9 h9 => pn_LKV dX11_letters_9 lm_X11_80 (ct_X11_isAt Γ (97 : Int32) (122 : Int32) σ r9 h9) (by decide) qt_85 qk_85 rfl rfl (Nat.le_of_ble_eq_true rfl)) rfl (fun x2 => ?_)
    refine pn_if_eq (tgt := 28) dX11_letters_12 rfl rfl (fun c3 => ?_) (fun c3 => ?_)
    · exact pn_vretv dX11_letters_28 rfl rfl
    · refine pn_aload_n dX11_letters_15 rfl rfl rfl ?_
      refine pn_dupa dX11_letters_16 rfl ?_
      refine pn_geti dX11_letters_17 rfl lf_X11_74_10 qt_85 qk_85 qr_85_10 ?_
      refine pn_iconst dX11_letters_20 rfl ic_1 ?_
      refine pn_iadd dX11_letters_21 rfl ?_
      refine pn_puti dX11_letters_22 rfl lf_X11_74_10 (fpi_10_10 ((σ 85 10) + (1 : Int32))) qt_85 qk_85 qr_85_10 ?_
      refine pn_goto (pc' := 4) dX11_letters_25 rfl ?_
      exact ih (pn_up σ 85 10 ((σ 85 10) + (1 : Int32)))

set_option maxRecDepth 20000 in
set_option maxHeartbeats 4000000 in
theorem ct_X11_letters (Γ : pn_G)  (σ : pn_S) : ∀ r, fX11_letters  σ = some r → pn_C Γ 3 mX11_letters [.ref 85] σ (pn_v r) := by
  refine pn_of (ls := [.ref 85]) (by decide) rfl (pn_cat rfl) rfl (Nat.le_of_ble_eq_true rfl) ?_
  rw [fX11_letters]
  refine pn_aload_n dX11_letters_0 rfl rfl rfl ?_
  refine pn_cv (fun r9 h9 => pn_LKV dX11_letters_1 lm_X11_87 (ct_X11_blanks Γ σ r9 h9) (by decide) qt_85 qk_85 rfl rfl (Nat.le_of_ble_eq_true rfl)) rfl (fun σ1 => ?_)
  exact wX11_letters_4 Γ 5000 σ1

set_option maxRecDepth 20000 in
set_option maxHeartbeats 4000000 in
theorem wX11_isWord_24 (Γ : pn_G) (j0 : Nat) (hj0 : j0 < 28) (σ : pn_S) : ∀ (n9 : Nat) (l2 : Int32) (l3 : Int32), pn_W9 Γ 6 mX11_isWord (pn_p σ) 24 [.ref 85, .ref (6000 + j0), .int l2, .int l3] [] σ (fX11_isWord_24 j0 n9 l2 l3 σ) := by
  intro n9
  induction n9 with
  | zero => intro l2 l3; exact pn_none
  | succ n9 ih =>
    intro l2 l3
    rw [fX11_isWord_24]
    refine pn_iload_n dX11_isWord_24 rfl rfl rfl ?_
    refine pn_if_eq (tgt := 67) dX11_isWord_25 rfl rfl (fun c3 => ?_) (fun c3 => ?_)
    · refine pn_iload_n dX11_isWord_67 rfl rfl rfl ?_
      exact pn_iretb dX11_isWord_68 rfl rfl
    · refine pn_iload_n dX11_isWord_28 rfl rfl rfl ?_
      refine pn_aload_n dX11_isWord_29 rfl rfl rfl ?_
      refine pn_cp (fun r9 h9 => pn_LKT dX11_isWord_30 lm_X11_90 (ct_J0_length_8abf5 Γ j0 hj0 σ r9 h9) (by decide) hj0 rfl rfl (Nat.le_of_ble_eq_true rfl)) rfl (fun x4 => ?_)
      refine pn_icmp_ge (tgt := 67) dX11_isWord_33 rfl rfl (fun c5 => ?_) (fun c5 => ?_)
      · refine pn_iload_n dX11_isWord_67 rfl rfl rfl ?_
        exact pn_iretb dX11_isWord_68 rfl rfl
      · refine pn_aload_n dX11_isWord_36 rfl rfl rfl ?_
        refine pn_geta dX11_isWord_37 rfl lf_X11_29_10 qt_85 qk_85 qr_85_8 qt_91 ?_
        refine pn_aload_n dX11_isWord_40 rfl rfl rfl ?_
        refine pn_geti dX11_isWord_41 rfl lf_X11_84_10 qt_85 qk_85 qr_85_12 ?_
        refine pn_iload_n dX11_isWord_44 rfl rfl rfl ?_
        refine pn_iadd dX11_isWord_45 rfl ?_
        refine pn_bald dX11_isWord_46 rfl qt_91 qk_91 ql_91 ?_
        refine pn_aload_n dX11_isWord_47 rfl rfl rfl ?_
        refine pn_iload_n dX11_isWord_48 rfl rfl rfl ?_
        refine pn_cp (fun r9 h9 => pn_LKT dX11_isWord_49 lm_X11_95 (ct_J0_charAt_5068e Γ j0 hj0 l3 σ r9 h9) (by decide) hj0 rfl rfl (Nat.le_of_ble_eq_true rfl)) rfl (fun x6 => ?_)
        refine pn_icmp_ne (tgt := 59) dX11_isWord_52 rfl rfl (fun c7 => ?_) (fun c7 => ?_)
        · refine pn_iconst dX11_isWord_55 rfl ic_1 ?_
          refine pn_goto (pc' := 60) dX11_isWord_56 rfl ?_
          refine pn_istore_n (ls' := [.ref 85, .ref (6000 + j0), .int (1 : Int32), .int l3]) dX11_isWord_60 rfl rfl (Nat.le_of_ble_eq_true rfl) rfl ?_
          refine pn_iinc (ls' := [.ref 85, .ref (6000 + j0), .int (1 : Int32), .int (l3 + (1 : Int32))]) dX11_isWord_61 rfl (Nat.le_of_ble_eq_true rfl) rfl (congrArg (fun z => l3 + z) ic_1) rfl ?_
          refine pn_goto (pc' := 24) dX11_isWord_64 rfl ?_
          exact ih (1 : Int32) (l3 + (1 : Int32))
        · refine pn_iconst dX11_isWord_59 rfl ic_0 ?_
          refine pn_istore_n (ls' := [.ref 85, .ref (6000 + j0), .int (0 : Int32), .int l3]) dX11_isWord_60 rfl rfl (Nat.le_of_ble_eq_true rfl) rfl ?_
          refine pn_iinc (ls' := [.ref 85, .ref (6000 + j0), .int (0 : Int32), .int (l3 + (1 : Int32))]) dX11_isWord_61 rfl (Nat.le_of_ble_eq_true rfl) rfl (congrArg (fun z => l3 + z) ic_1) rfl ?_
          refine pn_goto (pc' := 24) dX11_isWord_64 rfl ?_
          exact ih (0 : Int32) (l3 + (1 : Int32))

set_option maxRecDepth 20000 in
set_option maxHeartbeats 4000000 in
theorem ct_X11_isWord (Γ : pn_G) (j0 : Nat) (hj0 : j0 < 28) (σ : pn_S) : ∀ r, fX11_isWord j0 σ = some r → pn_C Γ 6 mX11_isWord [.ref 85, .ref (6000 + j0)] σ ((pn_p σ) r) := by
  refine pn_of (ls := [.ref 85, .ref (6000 + j0), .null, .null]) (by decide) rfl (pn_cat rfl) rfl (Nat.le_of_ble_eq_true rfl) ?_
  rw [fX11_isWord]
  refine pn_aload_n dX11_isWord_0 rfl rfl rfl ?_
  refine pn_geti dX11_isWord_1 rfl lf_X11_74_10 qt_85 qk_85 qr_85_10 ?_
  refine pn_aload_n dX11_isWord_4 rfl rfl rfl ?_
  refine pn_geti dX11_isWord_5 rfl lf_X11_84_10 qt_85 qk_85 qr_85_12 ?_
  refine pn_isub dX11_isWord_8 rfl ?_
  refine pn_aload_n dX11_isWord_9 rfl rfl rfl ?_
  refine pn_cp (fun r9 h9 => pn_LKT dX11_isWord_10 lm_X11_90 (ct_J0_length_8abf5 Γ j0 hj0 σ r9 h9) (by decide) hj0 rfl rfl (Nat.le_of_ble_eq_true rfl)) rfl (fun x1 => ?_)
  refine pn_icmp_ne (tgt := 20) dX11_isWord_13 rfl rfl (fun c2 => ?_) (fun c2 => ?_)
  · refine pn_iconst dX11_isWord_16 rfl ic_1 ?_
    refine pn_goto (pc' := 21) dX11_isWord_17 rfl ?_
    refine pn_istore_n (ls' := [.ref 85, .ref (6000 + j0), .int (1 : Int32), .null]) dX11_isWord_21 rfl rfl (Nat.le_of_ble_eq_true rfl) rfl ?_
    refine pn_iconst dX11_isWord_22 rfl ic_0 ?_
    refine pn_istore_n (ls' := [.ref 85, .ref (6000 + j0), .int (1 : Int32), .int (0 : Int32)]) dX11_isWord_23 rfl rfl (Nat.le_of_ble_eq_true rfl) rfl ?_
    exact wX11_isWord_24 Γ j0 hj0 σ 5000 (1 : Int32) (0 : Int32)
  · refine pn_iconst dX11_isWord_20 rfl ic_0 ?_
    refine pn_istore_n (ls' := [.ref 85, .ref (6000 + j0), .int (0 : Int32), .null]) dX11_isWord_21 rfl rfl (Nat.le_of_ble_eq_true rfl) rfl ?_
    refine pn_iconst dX11_isWord_22 rfl ic_0 ?_
    refine pn_istore_n (ls' := [.ref 85, .ref (6000 + j0), .int (0 : Int32), .int (0 : Int32)]) dX11_isWord_23 rfl rfl (Nat.le_of_ble_eq_true rfl) rfl ?_
    exact wX11_isWord_24 Γ j0 hj0 σ 5000 (0 : Int32) (0 : Int32)

set_option maxRecDepth 20000 in
set_option maxHeartbeats 4000000 in
theorem ct_X11_passes (Γ : pn_G) (j0 : Nat) (hj0 : j0 < 28) (σ : pn_S) : ∀ r, fX11_passes j0 σ = some r → pn_C Γ 7 mX11_passes [.ref 85, .ref (6000 + j0)] σ (pn_i r) := by
  refine pn_of (ls := [.ref 85, .ref (6000 + j0)]) (by decide) rfl (pn_cat rfl) rfl (Nat.le_of_ble_eq_true rfl) ?_
  rw [fX11_passes]
  refine pn_aload_n dX11_passes_0 rfl rfl rfl ?_
  refine pn_cv (fun r9 h9 => pn_LKV dX11_passes_1 lm_X11_99 (ct_X11_letters Γ σ r9 h9) (by decide) qt_85 qk_85 rfl rfl (Nat.le_of_ble_eq_true rfl)) rfl (fun σ1 => ?_)
  refine pn_aload_n dX11_passes_4 rfl rfl rfl ?_
  refine pn_aload_n dX11_passes_5 rfl rfl rfl ?_
  refine pn_cp (fun r9 h9 => pn_LKV dX11_passes_6 lm_X11_102 (ct_X11_isWord Γ j0 hj0 σ1 r9 h9) (by decide) qt_85 qk_85 rfl rfl (Nat.le_of_ble_eq_true rfl)) rfl (fun x2 => ?_)
  refine pn_if_eq (tgt := 14) dX11_passes_9 rfl rfl (fun c3 => ?_) (fun c3 => ?_)
  · refine pn_aload_n dX11_passes_14 rfl rfl rfl ?_
    refine pn_aload_n dX11_passes_15 rfl rfl rfl ?_
    refine pn_geti dX11_passes_16 rfl lf_X11_84_10 qt_85 qk_85 qr_85_12 ?_
    refine pn_puti dX11_passes_19 rfl lf_X11_74_10 (fpi_10_10 (σ1 85 12)) qt_85 qk_85 qr_85_10 ?_
    refine pn_iconst dX11_passes_22 rfl ic_0 ?_
    exact pn_iretv dX11_passes_23 rfl rfl rfl
  · refine pn_iconst dX11_passes_12 rfl ic_1 ?_
    exact pn_iretv dX11_passes_13 rfl rfl rfl

set_option maxRecDepth 20000 in
set_option maxHeartbeats 4000000 in
theorem ct_X11_sign (Γ : pn_G) (a1 : Int32) (σ : pn_S) : ∀ r, fX11_sign a1 σ = some r → pn_C Γ 3 mX11_sign [.ref 85, .int a1] σ (pn_i r) := by
  refine pn_of (ls := [.ref 85, .int a1]) (by decide) rfl (pn_cat rfl) rfl (Nat.le_of_ble_eq_true rfl) ?_
  rw [fX11_sign]
  refine pn_aload_n dX11_sign_0 rfl rfl rfl ?_
  refine pn_cv (fun r9 h9 => pn_LKV dX11_sign_1 lm_X11_87 (ct_X11_blanks Γ σ r9 h9) (by decide) qt_85 qk_85 rfl rfl (Nat.le_of_ble_eq_true rfl)) rfl (fun σ1 => ?_)
  refine pn_aload_n dX11_sign_4 rfl rfl rfl ?_
  refine pn_iload_n dX11_sign_5 rfl rfl rfl ?_
  refine pn_iload_n dX11_sign_6 rfl rfl rfl ?_
  refine pn_cp (fun r9 h9 => pn_LKV dX11_sign_7 lm_X11_80 (ct_X11_isAt Γ a1 a1 σ1 r9 h9) (by decide) qt_85 qk_85 rfl rfl (Nat.le_of_ble_eq_true rfl)) rfl (fun x2 => ?_)
  refine pn_if_ne (tgt := 15) dX11_sign_10 rfl rfl (fun c3 => ?_) (fun c3 => ?_)
  · refine pn_iconst dX11_sign_13 rfl ic_0 ?_
    exact pn_iretv dX11_sign_14 rfl rfl rfl
  · refine pn_aload_n dX11_sign_15 rfl rfl rfl ?_
    refine pn_dupa dX11_sign_16 rfl ?_
    refine pn_geti dX11_sign_17 rfl lf_X11_74_10 qt_85 qk_85 qr_85_10 ?_
    refine pn_iconst dX11_sign_20 rfl ic_1 ?_
    refine pn_iadd dX11_sign_21 rfl ?_
    refine pn_puti dX11_sign_22 rfl lf_X11_74_10 (fpi_10_10 ((σ1 85 10) + (1 : Int32))) qt_85 qk_85 qr_85_10 ?_
    refine pn_iconst dX11_sign_25 rfl ic_1 ?_
    exact pn_iretv dX11_sign_26 rfl rfl rfl

set_option maxRecDepth 20000 in
set_option maxHeartbeats 4000000 in
theorem wX11_number_51 (Γ : pn_G)  (rec6 : Int32 → Int32 → Int32 → pn_S → Option (Int32 × pn_S)) (hrec6 : ∀ (l1 : Int32) (l2 : Int32) (l3 : Int32) (σ : pn_S), pn_W9 Γ 3 mX11_number pn_i 6 [.ref 85, .int l1, .int l2, .int l3] [] σ (rec6 l1 l2 l3 σ)) (l1 : Int32) (l2 : Int32) (s0 : Int32) (σ : pn_S) : pn_W9 Γ 3 mX11_number pn_i 51 [.ref 85, .int l1, .int l2, .null] [.int s0] σ (fX11_number_51 rec6 l1 l2 s0 σ) := by
  rw [fX11_number_51]
  refine pn_istore_n (ls' := [.ref 85, .int l1, .int l2, .int s0]) dX11_number_51 rfl rfl (Nat.le_of_ble_eq_true rfl) rfl ?_
  refine pn_aload_n dX11_number_52 rfl rfl rfl ?_
  refine pn_dupa dX11_number_53 rfl ?_
  refine pn_geti dX11_number_54 rfl lf_X11_74_10 qt_85 qk_85 qr_85_10 ?_
  refine pn_iconst dX11_number_57 rfl ic_1 ?_
  refine pn_iadd dX11_number_58 rfl ?_
  refine pn_puti dX11_number_59 rfl lf_X11_74_10 (fpi_10_10 ((σ 85 10) + (1 : Int32))) qt_85 qk_85 qr_85_10 ?_
  refine pn_goto (pc' := 6) dX11_number_62 rfl ?_
  exact hrec6 l1 l2 s0 (pn_up σ 85 10 ((σ 85 10) + (1 : Int32)))

set_option maxRecDepth 20000 in
set_option maxHeartbeats 4000000 in
theorem wX11_number_6 (Γ : pn_G)  : ∀ (n9 : Nat) (l1 : Int32) (l2 : Int32) (l3 : Int32) (σ : pn_S), pn_W9 Γ 3 mX11_number pn_i 6 [.ref 85, .int l1, .int l2, .int l3] [] σ (fX11_number_6 n9 l1 l2 l3 σ) := by
  intro n9
  induction n9 with
  | zero => intro l1 l2 l3 σ; exact pn_none
  | succ n9 ih =>
    intro l1 l2 l3 σ
    rw [fX11_number_6]
    refine pn_aload_n dX11_number_6 rfl rfl rfl ?_
    refine pn_bipush dX11_number_7 rfl bc_48 ?_
    refine pn_bipush dX11_number_9 rfl bc_57 ?_
    refine pn_cp (fun r9 h9 => pn_LKV dX11_number_11 lm_X11_80 (ct_X11_isAt Γ (48 : Int32) (57 : Int32) σ r9 h9) (by decide) qt_85 qk_85 rfl rfl (Nat.le_of_ble_eq_true rfl)) rfl (fun x2 => ?_)
    refine pn_if_eq (tgt := 65) dX11_number_14 rfl rfl (fun c3 => ?_) (fun c3 => ?_)
    · refine pn_aload_n dX11_number_65 rfl rfl rfl ?_
      refine pn_geti dX11_number_66 rfl lf_X11_74_10 qt_85 qk_85 qr_85_10 ?_
      refine pn_aload_n dX11_number_69 rfl rfl rfl ?_
      refine pn_geti dX11_number_70 rfl lf_X11_84_10 qt_85 qk_85 qr_85_12 ?_
      refine pn_icmp_eq (tgt := 99) dX11_number_73 rfl rfl (fun c4 => ?_) (fun c4 => ?_)
      · refine pn_iconst dX11_number_99 rfl ic_m1 ?_
        refine pn_goto (pc' := 104) dX11_number_100 rfl ?_
        exact pn_iretv dX11_number_104 rfl rfl rfl
      · refine pn_aload_n dX11_number_76 rfl rfl rfl ?_
        refine pn_geti dX11_number_77 rfl lf_X11_74_10 qt_85 qk_85 qr_85_10 ?_
        refine pn_aload_n dX11_number_80 rfl rfl rfl ?_
        refine pn_geti dX11_number_81 rfl lf_X11_84_10 qt_85 qk_85 qr_85_12 ?_
        refine pn_isub dX11_number_84 rfl ?_
        refine pn_iconst dX11_number_85 rfl ic_3 ?_
        refine pn_icmp_gt (tgt := 99) dX11_number_86 rfl rfl (fun c5 => ?_) (fun c5 => ?_)
        · refine pn_iconst dX11_number_99 rfl ic_m1 ?_
          refine pn_goto (pc' := 104) dX11_number_100 rfl ?_
          exact pn_iretv dX11_number_104 rfl rfl rfl
        · refine pn_iload_n dX11_number_89 rfl rfl rfl ?_
          refine pn_iload_n dX11_number_90 rfl rfl rfl ?_
          refine pn_icmp_lt (tgt := 99) dX11_number_91 rfl rfl (fun c6 => ?_) (fun c6 => ?_)
          · refine pn_iconst dX11_number_99 rfl ic_m1 ?_
            refine pn_goto (pc' := 104) dX11_number_100 rfl ?_
            exact pn_iretv dX11_number_104 rfl rfl rfl
          · refine pn_iload_n dX11_number_94 rfl rfl rfl ?_
            refine pn_iload_n dX11_number_95 rfl rfl rfl ?_
            refine pn_icmp_le (tgt := 103) dX11_number_96 rfl rfl (fun c7 => ?_) (fun c7 => ?_)
            · refine pn_iload_n dX11_number_103 rfl rfl rfl ?_
              exact pn_iretv dX11_number_104 rfl rfl rfl
            · refine pn_iconst dX11_number_99 rfl ic_m1 ?_
              refine pn_goto (pc' := 104) dX11_number_100 rfl ?_
              exact pn_iretv dX11_number_104 rfl rfl rfl
    · refine pn_aload_n dX11_number_17 rfl rfl rfl ?_
      refine pn_geti dX11_number_18 rfl lf_X11_74_10 qt_85 qk_85 qr_85_10 ?_
      refine pn_aload_n dX11_number_21 rfl rfl rfl ?_
      refine pn_geti dX11_number_22 rfl lf_X11_84_10 qt_85 qk_85 qr_85_12 ?_
      refine pn_isub dX11_number_25 rfl ?_
      refine pn_iconst dX11_number_26 rfl ic_3 ?_
      refine pn_icmp_ge (tgt := 50) dX11_number_27 rfl rfl (fun c8 => ?_) (fun c8 => ?_)
      · refine pn_iload_n dX11_number_50 rfl rfl rfl ?_
        exact pn_wk (pn_leC rfl (pn_leC rfl (pn_leC rfl (pn_leN pn_le0)))) (wX11_number_51 Γ (fX11_number_6 n9) (ih) l1 l2 l3 σ)
      · refine pn_bipush dX11_number_30 rfl bc_10 ?_
        refine pn_iload_n dX11_number_32 rfl rfl rfl ?_
        refine pn_imul dX11_number_33 rfl ?_
        refine pn_aload_n dX11_number_34 rfl rfl rfl ?_
        refine pn_geta dX11_number_35 rfl lf_X11_29_10 qt_85 qk_85 qr_85_8 qt_91 ?_
        refine pn_aload_n dX11_number_38 rfl rfl rfl ?_
        refine pn_geti dX11_number_39 rfl lf_X11_74_10 qt_85 qk_85 qr_85_10 ?_
        refine pn_bald dX11_number_42 rfl qt_91 qk_91 ql_91 ?_
        refine pn_iadd dX11_number_43 rfl ?_
        refine pn_bipush dX11_number_44 rfl bc_48 ?_
        refine pn_isub dX11_number_46 rfl ?_
        refine pn_goto (pc' := 51) dX11_number_47 rfl ?_
        exact pn_wk (pn_leC rfl (pn_leC rfl (pn_leC rfl (pn_leN pn_le0)))) (wX11_number_51 Γ (fX11_number_6 n9) (ih) l1 l2 ((((10 : Int32) * l3) + (σ 91 (Int32.toNatClampNeg (σ 85 10)))) - (48 : Int32)) σ)

set_option maxRecDepth 20000 in
set_option maxHeartbeats 4000000 in
theorem ct_X11_number (Γ : pn_G) (a1 : Int32) (a2 : Int32) (σ : pn_S) : ∀ r, fX11_number a1 a2 σ = some r → pn_C Γ 3 mX11_number [.ref 85, .int a1, .int a2] σ (pn_i r) := by
  refine pn_of (ls := [.ref 85, .int a1, .int a2, .null]) (by decide) rfl (pn_cat rfl) rfl (Nat.le_of_ble_eq_true rfl) ?_
  rw [fX11_number]
  refine pn_aload_n dX11_number_0 rfl rfl rfl ?_
  refine pn_cv (fun r9 h9 => pn_LKV dX11_number_1 lm_X11_87 (ct_X11_blanks Γ σ r9 h9) (by decide) qt_85 qk_85 rfl rfl (Nat.le_of_ble_eq_true rfl)) rfl (fun σ1 => ?_)
  refine pn_iconst dX11_number_4 rfl ic_0 ?_
  refine pn_istore_n (ls' := [.ref 85, .int a1, .int a2, .int (0 : Int32)]) dX11_number_5 rfl rfl (Nat.le_of_ble_eq_true rfl) rfl ?_
  exact wX11_number_6 Γ 5000 a1 a2 (0 : Int32) σ1

