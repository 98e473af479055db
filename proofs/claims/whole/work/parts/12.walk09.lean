set_option maxRecDepth 20000 in
set_option maxHeartbeats 4000000 in
theorem wX11_tips_88 (Γ : pn_G)  (rec36 : Int32 → Int32 → Int32 → Int32 → Int32 → pn_S → Option (Int32 × pn_S)) (hrec36 : ∀ (l1 : Int32) (l2 : Int32) (l3 : Int32) (l4 : Int32) (l5 : Int32) (σ : pn_S), pn_W9 Γ 9 mX11_tips pn_i 36 [.ref 85, .int l1, .int l2, .int l3, .int l4, .int l5, .null] [] σ (rec36 l1 l2 l3 l4 l5 σ)) (l1 : Int32) (l2 : Int32) (l4 : Int32) (l5 : Int32) (l6 : Int32) (s0 : Int32) (σ : pn_S) : pn_W9 Γ 9 mX11_tips pn_i 88 [.ref 85, .int l1, .int l2, .null, .int l4, .int l5, .int l6] [.int s0] σ (fX11_tips_88 rec36 l1 l2 l4 l5 l6 s0 σ) := by
  rw [fX11_tips_88]
  refine pn_istore_n (ls' := [.ref 85, .int l1, .int l2, .int s0, .int l4, .int l5, .int l6]) dX11_tips_88 rfl rfl (Nat.le_of_ble_eq_true rfl) rfl ?_
  refine pn_iload dX11_tips_89 rfl rfl ?_
  refine pn_iload dX11_tips_91 rfl rfl ?_
  refine pn_cp (fun r9 h9 => pn_LKS dX11_tips_93 lm_X11_317 (ct_J9_min_7cf53 Γ l4 l6 σ r9 h9) (by decide) rfl rfl (Nat.le_of_ble_eq_true rfl)) rfl (fun x13 => ?_)
  refine pn_istore (ls' := [.ref 85, .int l1, .int l2, .int s0, .int x13, .int l5, .int l6]) dX11_tips_96 rfl (Nat.le_of_ble_eq_true rfl) rfl ?_
  refine pn_iinc (ls' := [.ref 85, .int l1, .int l2, .int s0, .int x13, .int (l5 + (1 : Int32)), .int l6]) dX11_tips_98 rfl (Nat.le_of_ble_eq_true rfl) rfl (congrArg (fun z => l5 + z) ic_1) rfl ?_
  refine pn_goto (pc' := 36) dX11_tips_101 rfl ?_
  exact pn_wk (pn_leC rfl (pn_leC rfl (pn_leC rfl (pn_leC rfl (pn_leC rfl (pn_leC rfl (pn_leN pn_le0))))))) (hrec36 l1 l2 s0 x13 (l5 + (1 : Int32)) σ)

set_option maxRecDepth 20000 in
set_option maxHeartbeats 4000000 in
theorem wX11_tips_36 (Γ : pn_G)  : ∀ (n9 : Nat) (l1 : Int32) (l2 : Int32) (l3 : Int32) (l4 : Int32) (l5 : Int32) (σ : pn_S), pn_W9 Γ 9 mX11_tips pn_i 36 [.ref 85, .int l1, .int l2, .int l3, .int l4, .int l5, .null] [] σ (fX11_tips_36 n9 l1 l2 l3 l4 l5 σ) := by
  intro n9
  induction n9 with
  | zero => intro l1 l2 l3 l4 l5 σ; exact pn_none
  | succ n9 ih =>
    intro l1 l2 l3 l4 l5 σ
    rw [fX11_tips_36]
    refine pn_iload dX11_tips_36 rfl rfl ?_
    refine pn_aload_n dX11_tips_38 rfl rfl rfl ?_
    refine pn_cp (fun r9 h9 => pn_LKV dX11_tips_39 lm_X11_55 (ct_X11_people Γ σ r9 h9) (by decide) qt_85 qk_85 rfl rfl (Nat.le_of_ble_eq_true rfl)) rfl (fun x5 => ?_)
    refine pn_icmp_ge (tgt := 104) dX11_tips_42 rfl rfl (fun c6 => ?_) (fun c6 => ?_)
    · refine pn_iload_n dX11_tips_104 rfl rfl rfl ?_
      exact pn_iretv dX11_tips_105 rfl rfl rfl
    · refine pn_iload_n dX11_tips_45 rfl rfl rfl ?_
      refine pn_iload dX11_tips_46 rfl rfl ?_
      refine pn_cp (fun r9 h9 => pn_LKS dX11_tips_48 lm_X11_274 (ct_X11_has Γ l2 l5 σ r9 h9) (by decide) rfl rfl (Nat.le_of_ble_eq_true rfl)) rfl (fun x7 => ?_)
      refine pn_if_ne (tgt := 57) dX11_tips_51 rfl rfl (fun c8 => ?_) (fun c8 => ?_)
      · refine pn_goto (pc' := 98) dX11_tips_54 rfl ?_
        refine pn_iinc (ls' := [.ref 85, .int l1, .int l2, .int l3, .int l4, .int (l5 + (1 : Int32)), .null]) dX11_tips_98 rfl (Nat.le_of_ble_eq_true rfl) rfl (congrArg (fun z => l5 + z) ic_1) rfl ?_
        refine pn_goto (pc' := 36) dX11_tips_101 rfl ?_
        exact ih l1 l2 l3 l4 (l5 + (1 : Int32)) σ
      · refine pn_aload_n dX11_tips_57 rfl rfl rfl ?_
        refine pn_iload_n dX11_tips_58 rfl rfl rfl ?_
        refine pn_aload_n dX11_tips_59 rfl rfl rfl ?_
        refine pn_cp (fun r9 h9 => pn_LKV dX11_tips_60 lm_X11_287 (ct_X11_beginners Γ σ r9 h9) (by decide) qt_85 qk_85 rfl rfl (Nat.le_of_ble_eq_true rfl)) rfl (fun x9 => ?_)
        refine pn_iconst dX11_tips_63 rfl ic_1 ?_
        refine pn_iload dX11_tips_64 rfl rfl ?_
        refine pn_ishl dX11_tips_66 rfl ?_
        refine pn_ci (fun r9 h9 => pn_LKV dX11_tips_67 lm_X11_290 (ct_X11_gathers Γ l1 x9 ((1 : Int32) <<< (l5 &&& 31)) σ r9 h9) (by decide) qt_85 qk_85 rfl rfl (Nat.le_of_ble_eq_true rfl)) rfl (fun x10 σ10 => ?_)
        refine pn_cp (fun r9 h9 => pn_LKS dX11_tips_70 lm_X11_277 (ct_J6_bitCount_0f7a4 Γ x10 σ10 r9 h9) (by decide) rfl rfl (Nat.le_of_ble_eq_true rfl)) rfl (fun x11 => ?_)
        refine pn_istore (ls' := [.ref 85, .int l1, .int l2, .int l3, .int l4, .int l5, .int x11]) dX11_tips_73 rfl (Nat.le_of_ble_eq_true rfl) rfl ?_
        refine pn_iload dX11_tips_75 rfl rfl ?_
        refine pn_iload dX11_tips_77 rfl rfl ?_
        refine pn_icmp_ge (tgt := 87) dX11_tips_79 rfl rfl (fun c12 => ?_) (fun c12 => ?_)
        · refine pn_iload_n dX11_tips_87 rfl rfl rfl ?_
          exact pn_wk (pn_leC rfl (pn_leC rfl (pn_leC rfl (pn_leN (pn_leC rfl (pn_leC rfl (pn_leC rfl pn_le0))))))) (wX11_tips_88 Γ (fX11_tips_36 n9) (ih) l1 l2 l4 l5 x11 l3 σ10)
        · refine pn_iload dX11_tips_82 rfl rfl ?_
          refine pn_goto (pc' := 88) dX11_tips_84 rfl ?_
          exact pn_wk (pn_leC rfl (pn_leC rfl (pn_leC rfl (pn_leN (pn_leC rfl (pn_leC rfl (pn_leC rfl pn_le0))))))) (wX11_tips_88 Γ (fX11_tips_36 n9) (ih) l1 l2 l4 l5 x11 l5 σ10)

set_option maxRecDepth 20000 in
set_option maxHeartbeats 4000000 in
theorem ct_X11_tips (Γ : pn_G) (a1 : Int32) (σ : pn_S) : ∀ r, fX11_tips a1 σ = some r → pn_C Γ 9 mX11_tips [.ref 85, .int a1] σ (pn_i r) := by
  refine pn_of (ls := [.ref 85, .int a1, .null, .null, .null, .null, .null]) (by decide) rfl (pn_cat rfl) rfl (Nat.le_of_ble_eq_true rfl) ?_
  rw [fX11_tips]
  refine pn_aload_n dX11_tips_0 rfl rfl rfl ?_
  refine pn_iconst dX11_tips_1 rfl ic_0 ?_
  refine pn_puti dX11_tips_2 rfl lf_X11_3_10 (fpi_10_0 (0 : Int32)) qt_85 qk_85 qr_85_0 ?_
  refine pn_aload_n dX11_tips_5 rfl rfl rfl ?_
  refine pn_aload_n dX11_tips_6 rfl rfl rfl ?_
  refine pn_iload_n dX11_tips_7 rfl rfl rfl ?_
  refine pn_cp (fun r9 h9 => pn_LKV dX11_tips_8 lm_X11_259 (ct_X11_nobody Γ a1 (pn_up σ 85 0 (0 : Int32)) r9 h9) (by decide) qt_85 qk_85 rfl rfl (Nat.le_of_ble_eq_true rfl)) rfl (fun x1 => ?_)
  refine pn_iconst dX11_tips_11 rfl ic_1 ?_
  refine pn_ci (fun r9 h9 => pn_LKV dX11_tips_12 lm_X11_240 (ct_X11_throwsIf Γ x1 (1 : Int32) (pn_up σ 85 0 (0 : Int32)) r9 h9) (by decide) qt_85 qk_85 rfl rfl (Nat.le_of_ble_eq_true rfl)) rfl (fun x2 σ2 => ?_)
  refine pn_if_eq (tgt := 20) dX11_tips_15 rfl rfl (fun c3 => ?_) (fun c3 => ?_)
  · refine pn_aload_n dX11_tips_20 rfl rfl rfl ?_
    refine pn_iload_n dX11_tips_21 rfl rfl rfl ?_
    refine pn_ci (fun r9 h9 => pn_LKV dX11_tips_22 lm_X11_293 (ct_X11_crowdOf Γ a1 σ2 r9 h9) (by decide) qt_85 qk_85 rfl rfl (Nat.le_of_ble_eq_true rfl)) rfl (fun x4 σ4 => ?_)
    refine pn_istore_n (ls' := [.ref 85, .int a1, .int x4, .null, .null, .null, .null]) dX11_tips_25 rfl rfl (Nat.le_of_ble_eq_true rfl) rfl ?_
    refine pn_iconst dX11_tips_26 rfl ic_m1 ?_
    refine pn_istore_n (ls' := [.ref 85, .int a1, .int x4, .int (-1 : Int32), .null, .null, .null]) dX11_tips_27 rfl rfl (Nat.le_of_ble_eq_true rfl) rfl ?_
    refine pn_ldcw dX11_tips_28 rfl lc_X11_358 ?_
    refine pn_istore (ls' := [.ref 85, .int a1, .int x4, .int (-1 : Int32), .int (1000000 : Int32), .null, .null]) dX11_tips_31 rfl (Nat.le_of_ble_eq_true rfl) rfl ?_
    refine pn_iconst dX11_tips_33 rfl ic_0 ?_
    refine pn_istore (ls' := [.ref 85, .int a1, .int x4, .int (-1 : Int32), .int (1000000 : Int32), .int (0 : Int32), .null]) dX11_tips_34 rfl (Nat.le_of_ble_eq_true rfl) rfl ?_
    exact wX11_tips_36 Γ 5000 a1 x4 (-1 : Int32) (1000000 : Int32) (0 : Int32) σ4
  · refine pn_iconst dX11_tips_18 rfl ic_0 ?_
    exact pn_iretv dX11_tips_19 rfl rfl rfl

set_option maxRecDepth 20000 in
set_option maxHeartbeats 4000000 in
theorem ct_X11_price (Γ : pn_G) (a1 : Int32) (σ : pn_S) : ∀ r, fX11_price a1 σ = some r → pn_C Γ 9 mX11_price [.ref 85, .int a1] σ (pn_i r) := by
  refine pn_of (ls := [.ref 85, .int a1]) (by decide) rfl (pn_cat rfl) rfl (Nat.le_of_ble_eq_true rfl) ?_
  rw [fX11_price]
  refine pn_aload_n dX11_price_0 rfl rfl rfl ?_
  refine pn_iconst dX11_price_1 rfl ic_0 ?_
  refine pn_puti dX11_price_2 rfl lf_X11_3_10 (fpi_10_0 (0 : Int32)) qt_85 qk_85 qr_85_0 ?_
  refine pn_aload_n dX11_price_5 rfl rfl rfl ?_
  refine pn_aload_n dX11_price_6 rfl rfl rfl ?_
  refine pn_iload_n dX11_price_7 rfl rfl rfl ?_
  refine pn_cp (fun r9 h9 => pn_LKV dX11_price_8 lm_X11_259 (ct_X11_nobody Γ a1 (pn_up σ 85 0 (0 : Int32)) r9 h9) (by decide) qt_85 qk_85 rfl rfl (Nat.le_of_ble_eq_true rfl)) rfl (fun x1 => ?_)
  refine pn_iconst dX11_price_11 rfl ic_1 ?_
  refine pn_ci (fun r9 h9 => pn_LKV dX11_price_12 lm_X11_240 (ct_X11_throwsIf Γ x1 (1 : Int32) (pn_up σ 85 0 (0 : Int32)) r9 h9) (by decide) qt_85 qk_85 rfl rfl (Nat.le_of_ble_eq_true rfl)) rfl (fun x2 σ2 => ?_)
  refine pn_if_eq (tgt := 22) dX11_price_15 rfl rfl (fun c3 => ?_) (fun c3 => ?_)
  · refine pn_aload_n dX11_price_22 rfl rfl rfl ?_
    refine pn_aload_n dX11_price_23 rfl rfl rfl ?_
    refine pn_iload_n dX11_price_24 rfl rfl rfl ?_
    refine pn_ci (fun r9 h9 => pn_LKV dX11_price_25 lm_X11_293 (ct_X11_crowdOf Γ a1 σ2 r9 h9) (by decide) qt_85 qk_85 rfl rfl (Nat.le_of_ble_eq_true rfl)) rfl (fun x4 σ4 => ?_)
    refine pn_aload_n dX11_price_28 rfl rfl rfl ?_
    refine pn_geta dX11_price_29 rfl lf_X11_13_10 qt_85 qk_85 qr_85_1 qt_86 ?_
    refine pn_bipush dX11_price_32 rfl bc_10 ?_
    refine pn_ialdc dX11_price_34 rfl qt_86 qk_86 ql_86 (by decide) qn_10 ?_
    refine pn_cp (fun r9 h9 => pn_LKV dX11_price_35 lm_X11_305 (ct_X11_priceBy Γ x4 (σ4 86 10) σ4 r9 h9) (by decide) qt_85 qk_85 rfl rfl (Nat.le_of_ble_eq_true rfl)) rfl (fun x5 => ?_)
    exact pn_iretv dX11_price_38 rfl rfl rfl
  · refine pn_iconst dX11_price_18 rfl ic_0 ?_
    refine pn_goto (pc' := 38) dX11_price_19 rfl ?_
    exact pn_iretv dX11_price_38 rfl rfl rfl

set_option maxRecDepth 20000 in
set_option maxHeartbeats 4000000 in
theorem ct_X11_can (Γ : pn_G) (a1 : Int32) (σ : pn_S) : ∀ r, fX11_can a1 σ = some r → pn_C Γ 9 mX11_can [.ref 85, .int a1] σ (pn_i r) := by
  refine pn_of (ls := [.ref 85, .int a1]) (by decide) rfl (pn_cat rfl) rfl (Nat.le_of_ble_eq_true rfl) ?_
  rw [fX11_can]
  refine pn_aload_n dX11_can_0 rfl rfl rfl ?_
  refine pn_iconst dX11_can_1 rfl ic_0 ?_
  refine pn_puti dX11_can_2 rfl lf_X11_3_10 (fpi_10_0 (0 : Int32)) qt_85 qk_85 qr_85_0 ?_
  refine pn_aload_n dX11_can_5 rfl rfl rfl ?_
  refine pn_aload_n dX11_can_6 rfl rfl rfl ?_
  refine pn_iload_n dX11_can_7 rfl rfl rfl ?_
  refine pn_cp (fun r9 h9 => pn_LKV dX11_can_8 lm_X11_259 (ct_X11_nobody Γ a1 (pn_up σ 85 0 (0 : Int32)) r9 h9) (by decide) qt_85 qk_85 rfl rfl (Nat.le_of_ble_eq_true rfl)) rfl (fun x1 => ?_)
  refine pn_iconst dX11_can_11 rfl ic_1 ?_
  refine pn_ci (fun r9 h9 => pn_LKV dX11_can_12 lm_X11_240 (ct_X11_throwsIf Γ x1 (1 : Int32) (pn_up σ 85 0 (0 : Int32)) r9 h9) (by decide) qt_85 qk_85 rfl rfl (Nat.le_of_ble_eq_true rfl)) rfl (fun x2 σ2 => ?_)
  refine pn_if_ne (tgt := 47) dX11_can_15 rfl rfl (fun c3 => ?_) (fun c3 => ?_)
  · refine pn_aload_n dX11_can_18 rfl rfl rfl ?_
    refine pn_iload_n dX11_can_19 rfl rfl rfl ?_
    refine pn_iconst dX11_can_20 rfl ic_3 ?_
    refine pn_cp (fun r9 h9 => pn_LKV dX11_can_21 lm_X11_67 (ct_X11_of Γ a1 (3 : Int32) σ2 r9 h9) (by decide) qt_85 qk_85 rfl rfl (Nat.le_of_ble_eq_true rfl)) rfl (fun x4 => ?_)
    refine pn_aload_n dX11_can_24 rfl rfl rfl ?_
    refine pn_aload_n dX11_can_25 rfl rfl rfl ?_
    refine pn_iload_n dX11_can_26 rfl rfl rfl ?_
    refine pn_ci (fun r9 h9 => pn_LKV dX11_can_27 lm_X11_293 (ct_X11_crowdOf Γ a1 σ2 r9 h9) (by decide) qt_85 qk_85 rfl rfl (Nat.le_of_ble_eq_true rfl)) rfl (fun x5 σ5 => ?_)
    refine pn_aload_n dX11_can_30 rfl rfl rfl ?_
    refine pn_geta dX11_can_31 rfl lf_X11_13_10 qt_85 qk_85 qr_85_1 qt_86 ?_
    refine pn_bipush dX11_can_34 rfl bc_10 ?_
    refine pn_ialdc dX11_can_36 rfl qt_86 qk_86 ql_86 (by decide) qn_10 ?_
    refine pn_cp (fun r9 h9 => pn_LKV dX11_can_37 lm_X11_305 (ct_X11_priceBy Γ x5 (σ5 86 10) σ5 r9 h9) (by decide) qt_85 qk_85 rfl rfl (Nat.le_of_ble_eq_true rfl)) rfl (fun x6 => ?_)
    refine pn_icmp_lt (tgt := 47) dX11_can_40 rfl rfl (fun c7 => ?_) (fun c7 => ?_)
    · refine pn_iconst dX11_can_47 rfl ic_0 ?_
      exact pn_iretv dX11_can_48 rfl rfl rfl
    · refine pn_iconst dX11_can_43 rfl ic_1 ?_
      refine pn_goto (pc' := 48) dX11_can_44 rfl ?_
      exact pn_iretv dX11_can_48 rfl rfl rfl
  · refine pn_iconst dX11_can_47 rfl ic_0 ?_
    exact pn_iretv dX11_can_48 rfl rfl rfl

set_option maxRecDepth 20000 in
set_option maxHeartbeats 4000000 in
theorem ct_X11_paidBy (Γ : pn_G) (a1 : Int32) (a2 : Int32) (σ : pn_S) : ∀ r, fX11_paidBy a1 a2 σ = some r → pn_C Γ 9 mX11_paidBy [.ref 85, .int a1, .int a2] σ (pn_i r) := by
  refine pn_of (ls := [.ref 85, .int a1, .int a2, .null, .null]) (by decide) rfl (pn_cat rfl) rfl (Nat.le_of_ble_eq_true rfl) ?_
  rw [fX11_paidBy]
  refine pn_aload_n dX11_paidBy_0 rfl rfl rfl ?_
  refine pn_iload_n dX11_paidBy_1 rfl rfl rfl ?_
  refine pn_ci (fun r9 h9 => pn_LKV dX11_paidBy_2 lm_X11_293 (ct_X11_crowdOf Γ a1 σ r9 h9) (by decide) qt_85 qk_85 rfl rfl (Nat.le_of_ble_eq_true rfl)) rfl (fun x1 σ1 => ?_)
  refine pn_istore_n (ls' := [.ref 85, .int a1, .int a2, .int x1, .null]) dX11_paidBy_5 rfl rfl (Nat.le_of_ble_eq_true rfl) rfl ?_
  refine pn_aload_n dX11_paidBy_6 rfl rfl rfl ?_
  refine pn_iload_n dX11_paidBy_7 rfl rfl rfl ?_
  refine pn_iload_n dX11_paidBy_8 rfl rfl rfl ?_
  refine pn_cp (fun r9 h9 => pn_LKV dX11_paidBy_9 lm_X11_305 (ct_X11_priceBy Γ x1 a2 σ1 r9 h9) (by decide) qt_85 qk_85 rfl rfl (Nat.le_of_ble_eq_true rfl)) rfl (fun x2 => ?_)
  refine pn_istore (ls' := [.ref 85, .int a1, .int a2, .int x1, .int x2]) dX11_paidBy_12 rfl (Nat.le_of_ble_eq_true rfl) rfl ?_
  refine pn_aload_n dX11_paidBy_14 rfl rfl rfl ?_
  refine pn_iload_n dX11_paidBy_15 rfl rfl rfl ?_
  refine pn_iload_n dX11_paidBy_16 rfl rfl rfl ?_
  refine pn_ci (fun r9 h9 => pn_LKV dX11_paidBy_17 lm_X11_296 (ct_X11_noiseOf Γ x1 a1 σ1 r9 h9) (by decide) qt_85 qk_85 rfl rfl (Nat.le_of_ble_eq_true rfl)) rfl (fun x3 σ3 => ?_)
  refine pn_aload_n dX11_paidBy_20 rfl rfl rfl ?_
  refine pn_iload_n dX11_paidBy_21 rfl rfl rfl ?_
  refine pn_iconst dX11_paidBy_22 rfl ic_2 ?_
  refine pn_cp (fun r9 h9 => pn_LKV dX11_paidBy_23 lm_X11_67 (ct_X11_of Γ a1 (2 : Int32) σ3 r9 h9) (by decide) qt_85 qk_85 rfl rfl (Nat.le_of_ble_eq_true rfl)) rfl (fun x4 => ?_)
  refine pn_icmp_lt (tgt := 45) dX11_paidBy_26 rfl rfl (fun c5 => ?_) (fun c5 => ?_)
  · refine pn_iconst dX11_paidBy_45 rfl ic_m1 ?_
    exact pn_iretv dX11_paidBy_46 rfl rfl rfl
  · refine pn_aload_n dX11_paidBy_29 rfl rfl rfl ?_
    refine pn_iload_n dX11_paidBy_30 rfl rfl rfl ?_
    refine pn_iconst dX11_paidBy_31 rfl ic_3 ?_
    refine pn_cp (fun r9 h9 => pn_LKV dX11_paidBy_32 lm_X11_67 (ct_X11_of Γ a1 (3 : Int32) σ3 r9 h9) (by decide) qt_85 qk_85 rfl rfl (Nat.le_of_ble_eq_true rfl)) rfl (fun x6 => ?_)
    refine pn_iload dX11_paidBy_35 rfl rfl ?_
    refine pn_icmp_lt (tgt := 45) dX11_paidBy_37 rfl rfl (fun c7 => ?_) (fun c7 => ?_)
    · refine pn_iconst dX11_paidBy_45 rfl ic_m1 ?_
      exact pn_iretv dX11_paidBy_46 rfl rfl rfl
    · refine pn_iload dX11_paidBy_40 rfl rfl ?_
      refine pn_goto (pc' := 46) dX11_paidBy_42 rfl ?_
      exact pn_iretv dX11_paidBy_46 rfl rfl rfl

set_option maxRecDepth 20000 in
set_option maxHeartbeats 4000000 in
theorem wX11_dearest_56 (Γ : pn_G)  (rec11 : Int32 → Int32 → Int32 → pn_S → Option (Int32 × pn_S)) (hrec11 : ∀ (l1 : Int32) (l2 : Int32) (l3 : Int32) (σ : pn_S), pn_W9 Γ 10 mX11_dearest pn_i 11 [.ref 85, .int l1, .int l2, .int l3, .null] [] σ (rec11 l1 l2 l3 σ)) (l2 : Int32) (l3 : Int32) (l4 : Int32) (s0 : Int32) (σ : pn_S) : pn_W9 Γ 10 mX11_dearest pn_i 56 [.ref 85, .null, .int l2, .int l3, .int l4] [.int s0] σ (fX11_dearest_56 rec11 l2 l3 l4 s0 σ) := by
  rw [fX11_dearest_56]
  refine pn_istore_n (ls' := [.ref 85, .int s0, .int l2, .int l3, .int l4]) dX11_dearest_56 rfl rfl (Nat.le_of_ble_eq_true rfl) rfl ?_
  refine pn_iload_n dX11_dearest_57 rfl rfl rfl ?_
  refine pn_iload dX11_dearest_58 rfl rfl ?_
  refine pn_cp (fun r9 h9 => pn_LKS dX11_dearest_60 lm_X11_254 (ct_J9_max_7cf53 Γ l2 l4 σ r9 h9) (by decide) rfl rfl (Nat.le_of_ble_eq_true rfl)) rfl (fun x6 => ?_)
  refine pn_istore_n (ls' := [.ref 85, .int s0, .int x6, .int l3, .int l4]) dX11_dearest_63 rfl rfl (Nat.le_of_ble_eq_true rfl) rfl ?_
  refine pn_iinc (ls' := [.ref 85, .int s0, .int x6, .int (l3 + (1 : Int32)), .int l4]) dX11_dearest_64 rfl (Nat.le_of_ble_eq_true rfl) rfl (congrArg (fun z => l3 + z) ic_1) rfl ?_
  refine pn_goto (pc' := 11) dX11_dearest_67 rfl ?_
  exact pn_wk (pn_leC rfl (pn_leC rfl (pn_leC rfl (pn_leC rfl (pn_leN pn_le0))))) (hrec11 s0 x6 (l3 + (1 : Int32)) σ)

set_option maxRecDepth 20000 in
set_option maxHeartbeats 4000000 in
theorem wX11_dearest_43 (Γ : pn_G)  (rec11 : Int32 → Int32 → Int32 → pn_S → Option (Int32 × pn_S)) (hrec11 : ∀ (l1 : Int32) (l2 : Int32) (l3 : Int32) (σ : pn_S), pn_W9 Γ 10 mX11_dearest pn_i 11 [.ref 85, .int l1, .int l2, .int l3, .null] [] σ (rec11 l1 l2 l3 σ)) (l1 : Int32) (l2 : Int32) (l3 : Int32) (s0 : Int32) (σ : pn_S) : pn_W9 Γ 10 mX11_dearest pn_i 43 [.ref 85, .int l1, .int l2, .int l3, .null] [.int s0] σ (fX11_dearest_43 rec11 l1 l2 l3 s0 σ) := by
  rw [fX11_dearest_43]
  refine pn_istore (ls' := [.ref 85, .int l1, .int l2, .int l3, .int s0]) dX11_dearest_43 rfl (Nat.le_of_ble_eq_true rfl) rfl ?_
  refine pn_iload dX11_dearest_45 rfl rfl ?_
  refine pn_iload_n dX11_dearest_47 rfl rfl rfl ?_
  refine pn_icmp_le (tgt := 55) dX11_dearest_48 rfl rfl (fun c5 => ?_) (fun c5 => ?_)
  · refine pn_iload_n dX11_dearest_55 rfl rfl rfl ?_
    exact pn_wk (pn_leC rfl (pn_leN (pn_leC rfl (pn_leC rfl (pn_leC rfl pn_le0))))) (wX11_dearest_56 Γ (rec11) (hrec11) l2 l3 s0 l1 σ)
  · refine pn_iload_n dX11_dearest_51 rfl rfl rfl ?_
    refine pn_goto (pc' := 56) dX11_dearest_52 rfl ?_
    exact pn_wk (pn_leC rfl (pn_leN (pn_leC rfl (pn_leC rfl (pn_leC rfl pn_le0))))) (wX11_dearest_56 Γ (rec11) (hrec11) l2 l3 s0 l3 σ)

set_option maxRecDepth 20000 in
set_option maxHeartbeats 4000000 in
theorem wX11_dearest_11 (Γ : pn_G)  : ∀ (n9 : Nat) (l1 : Int32) (l2 : Int32) (l3 : Int32) (σ : pn_S), pn_W9 Γ 10 mX11_dearest pn_i 11 [.ref 85, .int l1, .int l2, .int l3, .null] [] σ (fX11_dearest_11 n9 l1 l2 l3 σ) := by
  intro n9
  induction n9 with
  | zero => intro l1 l2 l3 σ; exact pn_none
  | succ n9 ih =>
    intro l1 l2 l3 σ
    rw [fX11_dearest_11]
    refine pn_iload_n dX11_dearest_11 rfl rfl rfl ?_
    refine pn_aload_n dX11_dearest_12 rfl rfl rfl ?_
    refine pn_cp (fun r9 h9 => pn_LKV dX11_dearest_13 lm_X11_55 (ct_X11_people Γ σ r9 h9) (by decide) qt_85 qk_85 rfl rfl (Nat.le_of_ble_eq_true rfl)) rfl (fun x1 => ?_)
    refine pn_icmp_ge (tgt := 70) dX11_dearest_16 rfl rfl (fun c2 => ?_) (fun c2 => ?_)
    · refine pn_iload_n dX11_dearest_70 rfl rfl rfl ?_
      exact pn_iretv dX11_dearest_71 rfl rfl rfl
    · refine pn_aload_n dX11_dearest_19 rfl rfl rfl ?_
      refine pn_iload_n dX11_dearest_20 rfl rfl rfl ?_
      refine pn_ci (fun r9 h9 => pn_LKV dX11_dearest_21 lm_X11_293 (ct_X11_crowdOf Γ l3 σ r9 h9) (by decide) qt_85 qk_85 rfl rfl (Nat.le_of_ble_eq_true rfl)) rfl (fun x3 σ3 => ?_)
      refine pn_if_ne (tgt := 31) dX11_dearest_24 rfl rfl (fun c4 => ?_) (fun c4 => ?_)
      · refine pn_iconst dX11_dearest_27 rfl ic_m1 ?_
        refine pn_goto (pc' := 43) dX11_dearest_28 rfl ?_
        exact wX11_dearest_43 Γ (fX11_dearest_11 n9) (ih) l1 l2 l3 (-1 : Int32) σ3
      · refine pn_aload_n dX11_dearest_31 rfl rfl rfl ?_
        refine pn_iload_n dX11_dearest_32 rfl rfl rfl ?_
        refine pn_aload_n dX11_dearest_33 rfl rfl rfl ?_
        refine pn_geta dX11_dearest_34 rfl lf_X11_13_10 qt_85 qk_85 qr_85_1 qt_86 ?_
        refine pn_bipush dX11_dearest_37 rfl bc_10 ?_
        refine pn_ialdc dX11_dearest_39 rfl qt_86 qk_86 ql_86 (by decide) qn_10 ?_
        refine pn_ci (fun r9 h9 => pn_LKV dX11_dearest_40 lm_X11_359 (ct_X11_paidBy Γ l3 (σ3 86 10) σ3 r9 h9) (by decide) qt_85 qk_85 rfl rfl (Nat.le_of_ble_eq_true rfl)) rfl (fun x7 σ7 => ?_)
        exact wX11_dearest_43 Γ (fX11_dearest_11 n9) (ih) l1 l2 l3 x7 σ7

set_option maxRecDepth 20000 in
set_option maxHeartbeats 4000000 in
theorem ct_X11_dearest (Γ : pn_G)  (σ : pn_S) : ∀ r, fX11_dearest  σ = some r → pn_C Γ 10 mX11_dearest [.ref 85] σ (pn_i r) := by
  refine pn_of (ls := [.ref 85, .null, .null, .null, .null]) (by decide) rfl (pn_cat rfl) rfl (Nat.le_of_ble_eq_true rfl) ?_
  rw [fX11_dearest]
  refine pn_aload_n dX11_dearest_0 rfl rfl rfl ?_
  refine pn_iconst dX11_dearest_1 rfl ic_0 ?_
  refine pn_puti dX11_dearest_2 rfl lf_X11_3_10 (fpi_10_0 (0 : Int32)) qt_85 qk_85 qr_85_0 ?_
  refine pn_iconst dX11_dearest_5 rfl ic_m1 ?_
  refine pn_istore_n (ls' := [.ref 85, .int (-1 : Int32), .null, .null, .null]) dX11_dearest_6 rfl rfl (Nat.le_of_ble_eq_true rfl) rfl ?_
  refine pn_iconst dX11_dearest_7 rfl ic_m1 ?_
  refine pn_istore_n (ls' := [.ref 85, .int (-1 : Int32), .int (-1 : Int32), .null, .null]) dX11_dearest_8 rfl rfl (Nat.le_of_ble_eq_true rfl) rfl ?_
  refine pn_iconst dX11_dearest_9 rfl ic_0 ?_
  refine pn_istore_n (ls' := [.ref 85, .int (-1 : Int32), .int (-1 : Int32), .int (0 : Int32), .null]) dX11_dearest_10 rfl rfl (Nat.le_of_ble_eq_true rfl) rfl ?_
  exact wX11_dearest_11 Γ 5000 (-1 : Int32) (-1 : Int32) (0 : Int32) (pn_up σ 85 0 (0 : Int32))

set_option maxRecDepth 20000 in
set_option maxHeartbeats 4000000 in
theorem wX11_broughtBy_4 (Γ : pn_G)  : ∀ (n9 : Nat) (l1 : Int32) (l2 : Int32) (l3 : Int32) (σ : pn_S), pn_W9 Γ 10 mX11_broughtBy pn_i 4 [.ref 85, .int l1, .int l2, .int l3] [] σ (fX11_broughtBy_4 n9 l1 l2 l3 σ) := by
  intro n9
  induction n9 with
  | zero => intro l1 l2 l3 σ; exact pn_none
  | succ n9 ih =>
    intro l1 l2 l3 σ
    rw [fX11_broughtBy_4]
    refine pn_iload_n dX11_broughtBy_4 rfl rfl rfl ?_
    refine pn_aload_n dX11_broughtBy_5 rfl rfl rfl ?_
    refine pn_cp (fun r9 h9 => pn_LKV dX11_broughtBy_6 lm_X11_55 (ct_X11_people Γ σ r9 h9) (by decide) qt_85 qk_85 rfl rfl (Nat.le_of_ble_eq_true rfl)) rfl (fun x1 => ?_)
    refine pn_icmp_ge (tgt := 31) dX11_broughtBy_9 rfl rfl (fun c2 => ?_) (fun c2 => ?_)
    · refine pn_iload_n dX11_broughtBy_31 rfl rfl rfl ?_
      exact pn_iretv dX11_broughtBy_32 rfl rfl rfl
    · refine pn_iload_n dX11_broughtBy_12 rfl rfl rfl ?_
      refine pn_iconst dX11_broughtBy_13 rfl ic_0 ?_
      refine pn_aload_n dX11_broughtBy_14 rfl rfl rfl ?_
      refine pn_iload_n dX11_broughtBy_15 rfl rfl rfl ?_
      refine pn_iload_n dX11_broughtBy_16 rfl rfl rfl ?_
      refine pn_ci (fun r9 h9 => pn_LKV dX11_broughtBy_17 lm_X11_359 (ct_X11_paidBy Γ l3 l1 σ r9 h9) (by decide) qt_85 qk_85 rfl rfl (Nat.le_of_ble_eq_true rfl)) rfl (fun x3 σ3 => ?_)
      refine pn_cp (fun r9 h9 => pn_LKS dX11_broughtBy_20 lm_X11_254 (ct_J9_max_7cf53 Γ (0 : Int32) x3 σ3 r9 h9) (by decide) rfl rfl (Nat.le_of_ble_eq_true rfl)) rfl (fun x4 => ?_)
      refine pn_iadd dX11_broughtBy_23 rfl ?_
      refine pn_istore_n (ls' := [.ref 85, .int l1, .int (l2 + x4), .int l3]) dX11_broughtBy_24 rfl rfl (Nat.le_of_ble_eq_true rfl) rfl ?_
      refine pn_iinc (ls' := [.ref 85, .int l1, .int (l2 + x4), .int (l3 + (1 : Int32))]) dX11_broughtBy_25 rfl (Nat.le_of_ble_eq_true rfl) rfl (congrArg (fun z => l3 + z) ic_1) rfl ?_
      refine pn_goto (pc' := 4) dX11_broughtBy_28 rfl ?_
      exact ih l1 (l2 + x4) (l3 + (1 : Int32)) σ3

set_option maxRecDepth 20000 in
set_option maxHeartbeats 4000000 in
theorem ct_X11_broughtBy (Γ : pn_G) (a1 : Int32) (σ : pn_S) : ∀ r, fX11_broughtBy a1 σ = some r → pn_C Γ 10 mX11_broughtBy [.ref 85, .int a1] σ (pn_i r) := by
  refine pn_of (ls := [.ref 85, .int a1, .null, .null]) (by decide) rfl (pn_cat rfl) rfl (Nat.le_of_ble_eq_true rfl) ?_
  rw [fX11_broughtBy]
  refine pn_iconst dX11_broughtBy_0 rfl ic_0 ?_
  refine pn_istore_n (ls' := [.ref 85, .int a1, .int (0 : Int32), .null]) dX11_broughtBy_1 rfl rfl (Nat.le_of_ble_eq_true rfl) rfl ?_
  refine pn_iconst dX11_broughtBy_2 rfl ic_0 ?_
  refine pn_istore_n (ls' := [.ref 85, .int a1, .int (0 : Int32), .int (0 : Int32)]) dX11_broughtBy_3 rfl rfl (Nat.le_of_ble_eq_true rfl) rfl ?_
  exact wX11_broughtBy_4 Γ 5000 a1 (0 : Int32) (0 : Int32) σ

set_option maxRecDepth 20000 in
set_option maxHeartbeats 4000000 in
theorem wX11_brings_21 (Γ : pn_G)  (l1 : Int32) (s1 : Int32) (σ : pn_S) : pn_W9 Γ 11 mX11_brings pn_i 21 [.ref 85, .int l1] [.int s1, .ref 85] σ (fX11_brings_21 l1 s1 σ) := by
  rw [fX11_brings_21]
  refine pn_iconst dX11_brings_21 rfl ic_1 ?_
  refine pn_ci (fun r9 h9 => pn_LKV dX11_brings_22 lm_X11_240 (ct_X11_throwsIf Γ s1 (1 : Int32) σ r9 h9) (by decide) qt_85 qk_85 rfl rfl (Nat.le_of_ble_eq_true rfl)) rfl (fun x3 σ3 => ?_)
  refine pn_if_eq (tgt := 32) dX11_brings_25 rfl rfl (fun c4 => ?_) (fun c4 => ?_)
  · refine pn_aload_n dX11_brings_32 rfl rfl rfl ?_
    refine pn_iload_n dX11_brings_33 rfl rfl rfl ?_
    refine pn_ci (fun r9 h9 => pn_LKV dX11_brings_34 lm_X11_362 (ct_X11_broughtBy Γ l1 σ3 r9 h9) (by decide) qt_85 qk_85 rfl rfl (Nat.le_of_ble_eq_true rfl)) rfl (fun x5 σ5 => ?_)
    exact pn_iretv dX11_brings_37 rfl rfl rfl
  · refine pn_iconst dX11_brings_28 rfl ic_0 ?_
    refine pn_goto (pc' := 37) dX11_brings_29 rfl ?_
    exact pn_iretv dX11_brings_37 rfl rfl rfl

set_option maxRecDepth 20000 in
set_option maxHeartbeats 4000000 in
theorem ct_X11_brings (Γ : pn_G) (a1 : Int32) (σ : pn_S) : ∀ r, fX11_brings a1 σ = some r → pn_C Γ 11 mX11_brings [.ref 85, .int a1] σ (pn_i r) := by
  refine pn_of (ls := [.ref 85, .int a1]) (by decide) rfl (pn_cat rfl) rfl (Nat.le_of_ble_eq_true rfl) ?_
  rw [fX11_brings]
  refine pn_aload_n dX11_brings_0 rfl rfl rfl ?_
  refine pn_iconst dX11_brings_1 rfl ic_0 ?_
  refine pn_puti dX11_brings_2 rfl lf_X11_3_10 (fpi_10_0 (0 : Int32)) qt_85 qk_85 qr_85_0 ?_
  refine pn_aload_n dX11_brings_5 rfl rfl rfl ?_
  refine pn_iload_n dX11_brings_6 rfl rfl rfl ?_
  refine pn_iconst dX11_brings_7 rfl ic_0 ?_
  refine pn_bipush dX11_brings_8 rfl bc_20 ?_
  refine pn_cp (fun r9 h9 => pn_LKS dX11_brings_10 lm_X11_63 (ct_X11_in Γ a1 (0 : Int32) (20 : Int32) (pn_up σ 85 0 (0 : Int32)) r9 h9) (by decide) rfl rfl (Nat.le_of_ble_eq_true rfl)) rfl (fun x1 => ?_)
  refine pn_if_ne (tgt := 20) dX11_brings_13 rfl rfl (fun c2 => ?_) (fun c2 => ?_)
  · refine pn_iconst dX11_brings_16 rfl ic_1 ?_
    refine pn_goto (pc' := 21) dX11_brings_17 rfl ?_
    exact wX11_brings_21 Γ a1 (1 : Int32) (pn_up σ 85 0 (0 : Int32))
  · refine pn_iconst dX11_brings_20 rfl ic_0 ?_
    exact wX11_brings_21 Γ a1 (0 : Int32) (pn_up σ 85 0 (0 : Int32))

set_option maxRecDepth 20000 in
set_option maxHeartbeats 4000000 in
theorem wX11_best_35 (Γ : pn_G)  (rec11 : Int32 → Int32 → Int32 → pn_S → Option (Int32 × pn_S)) (hrec11 : ∀ (l1 : Int32) (l2 : Int32) (l3 : Int32) (σ : pn_S), pn_W9 Γ 11 mX11_best pn_i 11 [.ref 85, .int l1, .int l2, .int l3, .null] [] σ (rec11 l1 l2 l3 σ)) (l2 : Int32) (l3 : Int32) (l4 : Int32) (s0 : Int32) (σ : pn_S) : pn_W9 Γ 11 mX11_best pn_i 35 [.ref 85, .null, .int l2, .int l3, .int l4] [.int s0] σ (fX11_best_35 rec11 l2 l3 l4 s0 σ) := by
  rw [fX11_best_35]
  refine pn_istore_n (ls' := [.ref 85, .int s0, .int l2, .int l3, .int l4]) dX11_best_35 rfl rfl (Nat.le_of_ble_eq_true rfl) rfl ?_
  refine pn_iload_n dX11_best_36 rfl rfl rfl ?_
  refine pn_iload dX11_best_37 rfl rfl ?_
  refine pn_cp (fun r9 h9 => pn_LKS dX11_best_39 lm_X11_254 (ct_J9_max_7cf53 Γ l2 l4 σ r9 h9) (by decide) rfl rfl (Nat.le_of_ble_eq_true rfl)) rfl (fun x4 => ?_)
  refine pn_istore_n (ls' := [.ref 85, .int s0, .int x4, .int l3, .int l4]) dX11_best_42 rfl rfl (Nat.le_of_ble_eq_true rfl) rfl ?_
  refine pn_iinc (ls' := [.ref 85, .int s0, .int x4, .int (l3 + (1 : Int32)), .int l4]) dX11_best_43 rfl (Nat.le_of_ble_eq_true rfl) rfl (congrArg (fun z => l3 + z) ic_1) rfl ?_
  refine pn_goto (pc' := 11) dX11_best_46 rfl ?_
  exact pn_wk (pn_leC rfl (pn_leC rfl (pn_leC rfl (pn_leC rfl (pn_leN pn_le0))))) (hrec11 s0 x4 (l3 + (1 : Int32)) σ)

set_option maxRecDepth 20000 in
set_option maxHeartbeats 4000000 in
theorem wX11_best_11 (Γ : pn_G)  : ∀ (n9 : Nat) (l1 : Int32) (l2 : Int32) (l3 : Int32) (σ : pn_S), pn_W9 Γ 11 mX11_best pn_i 11 [.ref 85, .int l1, .int l2, .int l3, .null] [] σ (fX11_best_11 n9 l1 l2 l3 σ) := by
  intro n9
  induction n9 with
  | zero => intro l1 l2 l3 σ; exact pn_none
  | succ n9 ih =>
    intro l1 l2 l3 σ
    rw [fX11_best_11]
    refine pn_iload_n dX11_best_11 rfl rfl rfl ?_
    refine pn_bipush dX11_best_12 rfl bc_20 ?_
    refine pn_icmp_gt (tgt := 49) dX11_best_14 rfl rfl (fun c1 => ?_) (fun c1 => ?_)
    · refine pn_iload_n dX11_best_49 rfl rfl rfl ?_
      exact pn_iretv dX11_best_50 rfl rfl rfl
    · refine pn_aload_n dX11_best_17 rfl rfl rfl ?_
      refine pn_iload_n dX11_best_18 rfl rfl rfl ?_
      refine pn_ci (fun r9 h9 => pn_LKV dX11_best_19 lm_X11_362 (ct_X11_broughtBy Γ l3 σ r9 h9) (by decide) qt_85 qk_85 rfl rfl (Nat.le_of_ble_eq_true rfl)) rfl (fun x2 σ2 => ?_)
      refine pn_istore (ls' := [.ref 85, .int l1, .int l2, .int l3, .int x2]) dX11_best_22 rfl (Nat.le_of_ble_eq_true rfl) rfl ?_
      refine pn_iload dX11_best_24 rfl rfl ?_
      refine pn_iload_n dX11_best_26 rfl rfl rfl ?_
      refine pn_icmp_le (tgt := 34) dX11_best_27 rfl rfl (fun c3 => ?_) (fun c3 => ?_)
      · refine pn_iload_n dX11_best_34 rfl rfl rfl ?_
        exact pn_wk (pn_leC rfl (pn_leN (pn_leC rfl (pn_leC rfl (pn_leC rfl pn_le0))))) (wX11_best_35 Γ (fX11_best_11 n9) (ih) l2 l3 x2 l1 σ2)
      · refine pn_iload_n dX11_best_30 rfl rfl rfl ?_
        refine pn_goto (pc' := 35) dX11_best_31 rfl ?_
        exact pn_wk (pn_leC rfl (pn_leN (pn_leC rfl (pn_leC rfl (pn_leC rfl pn_le0))))) (wX11_best_35 Γ (fX11_best_11 n9) (ih) l2 l3 x2 l3 σ2)

set_option maxRecDepth 20000 in
set_option maxHeartbeats 4000000 in
theorem ct_X11_best (Γ : pn_G)  (σ : pn_S) : ∀ r, fX11_best  σ = some r → pn_C Γ 11 mX11_best [.ref 85] σ (pn_i r) := by
  refine pn_of (ls := [.ref 85, .null, .null, .null, .null]) (by decide) rfl (pn_cat rfl) rfl (Nat.le_of_ble_eq_true rfl) ?_
  rw [fX11_best]
  refine pn_aload_n dX11_best_0 rfl rfl rfl ?_
  refine pn_iconst dX11_best_1 rfl ic_0 ?_
  refine pn_puti dX11_best_2 rfl lf_X11_3_10 (fpi_10_0 (0 : Int32)) qt_85 qk_85 qr_85_0 ?_
  refine pn_iconst dX11_best_5 rfl ic_0 ?_
  refine pn_istore_n (ls' := [.ref 85, .int (0 : Int32), .null, .null, .null]) dX11_best_6 rfl rfl (Nat.le_of_ble_eq_true rfl) rfl ?_
  refine pn_iconst dX11_best_7 rfl ic_m1 ?_
  refine pn_istore_n (ls' := [.ref 85, .int (0 : Int32), .int (-1 : Int32), .null, .null]) dX11_best_8 rfl rfl (Nat.le_of_ble_eq_true rfl) rfl ?_
  refine pn_iconst dX11_best_9 rfl ic_0 ?_
  refine pn_istore_n (ls' := [.ref 85, .int (0 : Int32), .int (-1 : Int32), .int (0 : Int32), .null]) dX11_best_10 rfl rfl (Nat.le_of_ble_eq_true rfl) rfl ?_
  exact wX11_best_11 Γ 5000 (0 : Int32) (-1 : Int32) (0 : Int32) (pn_up σ 85 0 (0 : Int32))

set_option maxRecDepth 20000 in
set_option maxHeartbeats 4000000 in
theorem wX11_thirstOf_4 (Γ : pn_G)  (σ : pn_S) : ∀ (n9 : Nat) (l1 : Int32) (l2 : Int32) (l3 : Int32), pn_W9 Γ 3 mX11_thirstOf (pn_p σ) 4 [.ref 85, .int l1, .int l2, .int l3] [] σ (fX11_thirstOf_4 n9 l1 l2 l3 σ) := by
  intro n9
  induction n9 with
  | zero => intro l1 l2 l3; exact pn_none
  | succ n9 ih =>
    intro l1 l2 l3
    rw [fX11_thirstOf_4]
    refine pn_iload_n dX11_thirstOf_4 rfl rfl rfl ?_
    refine pn_aload_n dX11_thirstOf_5 rfl rfl rfl ?_
    refine pn_cp (fun r9 h9 => pn_LKV dX11_thirstOf_6 lm_X11_55 (ct_X11_people Γ σ r9 h9) (by decide) qt_85 qk_85 rfl rfl (Nat.le_of_ble_eq_true rfl)) rfl (fun x1 => ?_)
    refine pn_icmp_ge (tgt := 39) dX11_thirstOf_9 rfl rfl (fun c2 => ?_) (fun c2 => ?_)
    · refine pn_iload_n dX11_thirstOf_39 rfl rfl rfl ?_
      exact pn_iretv dX11_thirstOf_40 rfl rfl rfl
    · refine pn_iload_n dX11_thirstOf_12 rfl rfl rfl ?_
      refine pn_iload_n dX11_thirstOf_13 rfl rfl rfl ?_
      refine pn_iload_n dX11_thirstOf_14 rfl rfl rfl ?_
      refine pn_cp (fun r9 h9 => pn_LKS dX11_thirstOf_15 lm_X11_274 (ct_X11_has Γ l1 l3 σ r9 h9) (by decide) rfl rfl (Nat.le_of_ble_eq_true rfl)) rfl (fun x3 => ?_)
      refine pn_if_eq (tgt := 30) dX11_thirstOf_18 rfl rfl (fun c4 => ?_) (fun c4 => ?_)
      · refine pn_iconst dX11_thirstOf_30 rfl ic_0 ?_
        refine pn_iadd dX11_thirstOf_31 rfl ?_
        refine pn_istore_n (ls' := [.ref 85, .int l1, .int (l2 + (0 : Int32)), .int l3]) dX11_thirstOf_32 rfl rfl (Nat.le_of_ble_eq_true rfl) rfl ?_
        refine pn_iinc (ls' := [.ref 85, .int l1, .int (l2 + (0 : Int32)), .int (l3 + (1 : Int32))]) dX11_thirstOf_33 rfl (Nat.le_of_ble_eq_true rfl) rfl (congrArg (fun z => l3 + z) ic_1) rfl ?_
        refine pn_goto (pc' := 4) dX11_thirstOf_36 rfl ?_
        exact ih l1 (l2 + (0 : Int32)) (l3 + (1 : Int32))
      · refine pn_aload_n dX11_thirstOf_21 rfl rfl rfl ?_
        refine pn_iload_n dX11_thirstOf_22 rfl rfl rfl ?_
        refine pn_iconst dX11_thirstOf_23 rfl ic_1 ?_
        refine pn_cp (fun r9 h9 => pn_LKV dX11_thirstOf_24 lm_X11_67 (ct_X11_of Γ l3 (1 : Int32) σ r9 h9) (by decide) qt_85 qk_85 rfl rfl (Nat.le_of_ble_eq_true rfl)) rfl (fun x5 => ?_)
        refine pn_goto (pc' := 31) dX11_thirstOf_27 rfl ?_
        refine pn_iadd dX11_thirstOf_31 rfl ?_
        refine pn_istore_n (ls' := [.ref 85, .int l1, .int (l2 + x5), .int l3]) dX11_thirstOf_32 rfl rfl (Nat.le_of_ble_eq_true rfl) rfl ?_
        refine pn_iinc (ls' := [.ref 85, .int l1, .int (l2 + x5), .int (l3 + (1 : Int32))]) dX11_thirstOf_33 rfl (Nat.le_of_ble_eq_true rfl) rfl (congrArg (fun z => l3 + z) ic_1) rfl ?_
        refine pn_goto (pc' := 4) dX11_thirstOf_36 rfl ?_
        exact ih l1 (l2 + x5) (l3 + (1 : Int32))

set_option maxRecDepth 20000 in
set_option maxHeartbeats 4000000 in
theorem ct_X11_thirstOf (Γ : pn_G) (a1 : Int32) (σ : pn_S) : ∀ r, fX11_thirstOf a1 σ = some r → pn_C Γ 3 mX11_thirstOf [.ref 85, .int a1] σ ((pn_p σ) r) := by
  refine pn_of (ls := [.ref 85, .int a1, .null, .null]) (by decide) rfl (pn_cat rfl) rfl (Nat.le_of_ble_eq_true rfl) ?_
  rw [fX11_thirstOf]
  refine pn_iconst dX11_thirstOf_0 rfl ic_0 ?_
  refine pn_istore_n (ls' := [.ref 85, .int a1, .int (0 : Int32), .null]) dX11_thirstOf_1 rfl rfl (Nat.le_of_ble_eq_true rfl) rfl ?_
  refine pn_iconst dX11_thirstOf_2 rfl ic_0 ?_
  refine pn_istore_n (ls' := [.ref 85, .int a1, .int (0 : Int32), .int (0 : Int32)]) dX11_thirstOf_3 rfl rfl (Nat.le_of_ble_eq_true rfl) rfl ?_
  exact wX11_thirstOf_4 Γ σ 5000 a1 (0 : Int32) (0 : Int32)

set_option maxRecDepth 20000 in
set_option maxHeartbeats 4000000 in
theorem ct_X11_oneHas (Γ : pn_G) (a1 : Int32) (a2 : Int32) (a3 : Int32) (σ : pn_S) : ∀ r, fX11_oneHas a1 a2 a3 σ = some r → pn_C Γ 10 mX11_oneHas [.ref 85, .int a1, .int a2, .int a3] σ (pn_i r) := by
  refine pn_of (ls := [.ref 85, .int a1, .int a2, .int a3]) (by decide) rfl (pn_cat rfl) rfl (Nat.le_of_ble_eq_true rfl) ?_
  rw [fX11_oneHas]
  refine pn_iload_n dX11_oneHas_0 rfl rfl rfl ?_
  refine pn_iconst dX11_oneHas_1 rfl ic_1 ?_
  refine pn_icmp_ne (tgt := 15) dX11_oneHas_2 rfl rfl (fun c1 => ?_) (fun c1 => ?_)
  · refine pn_iload_n dX11_oneHas_5 rfl rfl rfl ?_
    refine pn_if_ne (tgt := 13) dX11_oneHas_6 rfl rfl (fun c2 => ?_) (fun c2 => ?_)
    · refine pn_iconst dX11_oneHas_9 rfl ic_m1 ?_
      refine pn_goto (pc' := 14) dX11_oneHas_10 rfl ?_
      exact pn_iretv dX11_oneHas_14 rfl rfl rfl
    · refine pn_iconst dX11_oneHas_13 rfl ic_0 ?_
      exact pn_iretv dX11_oneHas_14 rfl rfl rfl
  · refine pn_iload_n dX11_oneHas_15 rfl rfl rfl ?_
    refine pn_if_ne (tgt := 37) dX11_oneHas_16 rfl rfl (fun c3 => ?_) (fun c3 => ?_)
    · refine pn_aload_n dX11_oneHas_19 rfl rfl rfl ?_
      refine pn_aload_n dX11_oneHas_20 rfl rfl rfl ?_
      refine pn_iload_n dX11_oneHas_21 rfl rfl rfl ?_
      refine pn_ci (fun r9 h9 => pn_LKV dX11_oneHas_22 lm_X11_293 (ct_X11_crowdOf Γ a1 σ r9 h9) (by decide) qt_85 qk_85 rfl rfl (Nat.le_of_ble_eq_true rfl)) rfl (fun x4 σ4 => ?_)
      refine pn_aload_n dX11_oneHas_25 rfl rfl rfl ?_
      refine pn_geta dX11_oneHas_26 rfl lf_X11_13_10 qt_85 qk_85 qr_85_1 qt_86 ?_
      refine pn_bipush dX11_oneHas_29 rfl bc_10 ?_
      refine pn_ialdc dX11_oneHas_31 rfl qt_86 qk_86 ql_86 (by decide) qn_10 ?_
      refine pn_cp (fun r9 h9 => pn_LKV dX11_oneHas_32 lm_X11_305 (ct_X11_priceBy Γ x4 (σ4 86 10) σ4 r9 h9) (by decide) qt_85 qk_85 rfl rfl (Nat.le_of_ble_eq_true rfl)) rfl (fun x5 => ?_)
      refine pn_ineg dX11_oneHas_35 rfl ?_
      exact pn_iretv dX11_oneHas_36 rfl rfl rfl
    · refine pn_iload_n dX11_oneHas_37 rfl rfl rfl ?_
      refine pn_iconst dX11_oneHas_38 rfl ic_1 ?_
      refine pn_icmp_ne (tgt := 51) dX11_oneHas_39 rfl rfl (fun c6 => ?_) (fun c6 => ?_)
      · refine pn_aload_n dX11_oneHas_42 rfl rfl rfl ?_
        refine pn_iload_n dX11_oneHas_43 rfl rfl rfl ?_
        refine pn_ci (fun r9 h9 => pn_LKV dX11_oneHas_44 lm_X11_299 (ct_X11_loudTo Γ a1 σ r9 h9) (by decide) qt_85 qk_85 rfl rfl (Nat.le_of_ble_eq_true rfl)) rfl (fun x7 σ7 => ?_)
        refine pn_ineg dX11_oneHas_47 rfl ?_
        refine pn_goto (pc' := 58) dX11_oneHas_48 rfl ?_
        exact pn_iretv dX11_oneHas_58 rfl rfl rfl
      · refine pn_aload_n dX11_oneHas_51 rfl rfl rfl ?_
        refine pn_iload_n dX11_oneHas_52 rfl rfl rfl ?_
        refine pn_iconst dX11_oneHas_53 rfl ic_4 ?_
        refine pn_cp (fun r9 h9 => pn_LKV dX11_oneHas_54 lm_X11_67 (ct_X11_of Γ a1 (4 : Int32) σ r9 h9) (by decide) qt_85 qk_85 rfl rfl (Nat.le_of_ble_eq_true rfl)) rfl (fun x8 => ?_)
        refine pn_ineg dX11_oneHas_57 rfl ?_
        exact pn_iretv dX11_oneHas_58 rfl rfl rfl

set_option maxRecDepth 20000 in
set_option maxHeartbeats 4000000 in
theorem ct_X11_villageHas (Γ : pn_G) (a1 : Int32) (a2 : Int32) (a3 : Int32) (σ : pn_S) : ∀ r, fX11_villageHas a1 a2 a3 σ = some r → pn_C Γ 10 mX11_villageHas [.ref 85, .int a1, .int a2, .int a3] σ (pn_i r) := by
  refine pn_of (ls := [.ref 85, .int a1, .int a2, .int a3]) (by decide) rfl (pn_cat rfl) rfl (Nat.le_of_ble_eq_true rfl) ?_
  rw [fX11_villageHas]
  refine pn_iload_n dX11_villageHas_0 rfl rfl rfl ?_
  refine pn_iconst dX11_villageHas_1 rfl ic_1 ?_
  refine pn_icmp_ne (tgt := 7) dX11_villageHas_2 rfl rfl (fun c1 => ?_) (fun c1 => ?_)
  · refine pn_iconst dX11_villageHas_5 rfl ic_0 ?_
    exact pn_iretv dX11_villageHas_6 rfl rfl rfl
  · refine pn_iload_n dX11_villageHas_7 rfl rfl rfl ?_
    refine pn_if_ne (tgt := 21) dX11_villageHas_8 rfl rfl (fun c2 => ?_) (fun c2 => ?_)
    · refine pn_aload_n dX11_villageHas_11 rfl rfl rfl ?_
      refine pn_aload_n dX11_villageHas_12 rfl rfl rfl ?_
      refine pn_iload_n dX11_villageHas_13 rfl rfl rfl ?_
      refine pn_ci (fun r9 h9 => pn_LKV dX11_villageHas_14 lm_X11_293 (ct_X11_crowdOf Γ a1 σ r9 h9) (by decide) qt_85 qk_85 rfl rfl (Nat.le_of_ble_eq_true rfl)) rfl (fun x3 σ3 => ?_)
      refine pn_cp (fun r9 h9 => pn_LKV dX11_villageHas_17 lm_X11_365 (ct_X11_thirstOf Γ x3 σ3 r9 h9) (by decide) qt_85 qk_85 rfl rfl (Nat.le_of_ble_eq_true rfl)) rfl (fun x4 => ?_)
      exact pn_iretv dX11_villageHas_20 rfl rfl rfl
    · refine pn_iload_n dX11_villageHas_21 rfl rfl rfl ?_
      refine pn_iconst dX11_villageHas_22 rfl ic_1 ?_
      refine pn_icmp_ne (tgt := 34) dX11_villageHas_23 rfl rfl (fun c5 => ?_) (fun c5 => ?_)
      · refine pn_aload_n dX11_villageHas_26 rfl rfl rfl ?_
        refine pn_iload_n dX11_villageHas_27 rfl rfl rfl ?_
        refine pn_ci (fun r9 h9 => pn_LKV dX11_villageHas_28 lm_X11_299 (ct_X11_loudTo Γ a1 σ r9 h9) (by decide) qt_85 qk_85 rfl rfl (Nat.le_of_ble_eq_true rfl)) rfl (fun x6 σ6 => ?_)
        refine pn_goto (pc' := 35) dX11_villageHas_31 rfl ?_
        exact pn_iretv dX11_villageHas_35 rfl rfl rfl
      · refine pn_iconst dX11_villageHas_34 rfl ic_m1 ?_
        exact pn_iretv dX11_villageHas_35 rfl rfl rfl

set_option maxRecDepth 20000 in
set_option maxHeartbeats 4000000 in
theorem wX11_doRest_29 (Γ : pn_G)  : ∀ (n9 : Nat) (l1 : Int32) (l2 : Int32) (l3 : Int32) (l4 : Int32) (l5 : Int32) (σ : pn_S), pn_W9 Γ 11 mX11_doRest pn_i 29 [.ref 85, .int l1, .int l2, .int l3, .int l4, .int l5] [] σ (fX11_doRest_29 n9 l1 l2 l3 l4 l5 σ) := by
  intro n9
  induction n9 with
  | zero => intro l1 l2 l3 l4 l5 σ; exact pn_none
  | succ n9 ih =>
    intro l1 l2 l3 l4 l5 σ
    rw [fX11_doRest_29]
    refine pn_iload dX11_doRest_29 rfl rfl ?_
    refine pn_iconst dX11_doRest_31 rfl ic_3 ?_
    refine pn_icmp_ge (tgt := 71) dX11_doRest_32 rfl rfl (fun c4 => ?_) (fun c4 => ?_)
    · refine pn_iload dX11_doRest_71 rfl rfl ?_
      exact pn_iretb dX11_doRest_73 rfl rfl
    · refine pn_iload dX11_doRest_35 rfl rfl ?_
      refine pn_if_eq (tgt := 62) dX11_doRest_37 rfl rfl (fun c5 => ?_) (fun c5 => ?_)
      · refine pn_iconst dX11_doRest_62 rfl ic_0 ?_
        refine pn_istore (ls' := [.ref 85, .int l1, .int l2, .int l3, .int (0 : Int32), .int l5]) dX11_doRest_63 rfl (Nat.le_of_ble_eq_true rfl) rfl ?_
        refine pn_iinc (ls' := [.ref 85, .int l1, .int l2, .int l3, .int (0 : Int32), .int (l5 + (1 : Int32))]) dX11_doRest_65 rfl (Nat.le_of_ble_eq_true rfl) rfl (congrArg (fun z => l5 + z) ic_1) rfl ?_
        refine pn_goto (pc' := 29) dX11_doRest_68 rfl ?_
        exact ih l1 l2 l3 (0 : Int32) (l5 + (1 : Int32)) σ
      · refine pn_aload_n dX11_doRest_40 rfl rfl rfl ?_
        refine pn_iload_n dX11_doRest_41 rfl rfl rfl ?_
        refine pn_iload_n dX11_doRest_42 rfl rfl rfl ?_
        refine pn_iload_n dX11_doRest_43 rfl rfl rfl ?_
        refine pn_ci (fun r9 h9 => pn_LKV dX11_doRest_44 lm_X11_371 (ct_X11_oneHas Γ l1 l2 l3 σ r9 h9) (by decide) qt_85 qk_85 rfl rfl (Nat.le_of_ble_eq_true rfl)) rfl (fun x6 σ6 => ?_)
        refine pn_aload_n dX11_doRest_47 rfl rfl rfl ?_
        refine pn_iload_n dX11_doRest_48 rfl rfl rfl ?_
        refine pn_iload dX11_doRest_49 rfl rfl ?_
        refine pn_iload_n dX11_doRest_51 rfl rfl rfl ?_
        refine pn_ci (fun r9 h9 => pn_LKV dX11_doRest_52 lm_X11_371 (ct_X11_oneHas Γ l1 l5 l3 σ6 r9 h9) (by decide) qt_85 qk_85 rfl rfl (Nat.le_of_ble_eq_true rfl)) rfl (fun x7 σ7 => ?_)
        refine pn_icmp_lt (tgt := 62) dX11_doRest_55 rfl rfl (fun c8 => ?_) (fun c8 => ?_)
        · refine pn_iconst dX11_doRest_62 rfl ic_0 ?_
          refine pn_istore (ls' := [.ref 85, .int l1, .int l2, .int l3, .int (0 : Int32), .int l5]) dX11_doRest_63 rfl (Nat.le_of_ble_eq_true rfl) rfl ?_
          refine pn_iinc (ls' := [.ref 85, .int l1, .int l2, .int l3, .int (0 : Int32), .int (l5 + (1 : Int32))]) dX11_doRest_65 rfl (Nat.le_of_ble_eq_true rfl) rfl (congrArg (fun z => l5 + z) ic_1) rfl ?_
          refine pn_goto (pc' := 29) dX11_doRest_68 rfl ?_
          exact ih l1 l2 l3 (0 : Int32) (l5 + (1 : Int32)) σ7
        · refine pn_iconst dX11_doRest_58 rfl ic_1 ?_
          refine pn_goto (pc' := 63) dX11_doRest_59 rfl ?_
          refine pn_istore (ls' := [.ref 85, .int l1, .int l2, .int l3, .int (1 : Int32), .int l5]) dX11_doRest_63 rfl (Nat.le_of_ble_eq_true rfl) rfl ?_
          refine pn_iinc (ls' := [.ref 85, .int l1, .int l2, .int l3, .int (1 : Int32), .int (l5 + (1 : Int32))]) dX11_doRest_65 rfl (Nat.le_of_ble_eq_true rfl) rfl (congrArg (fun z => l5 + z) ic_1) rfl ?_
          refine pn_goto (pc' := 29) dX11_doRest_68 rfl ?_
          exact ih l1 l2 l3 (1 : Int32) (l5 + (1 : Int32)) σ7

set_option maxRecDepth 20000 in
set_option maxHeartbeats 4000000 in
theorem ct_X11_doRest (Γ : pn_G) (a1 : Int32) (a2 : Int32) (a3 : Int32) (σ : pn_S) : ∀ r, fX11_doRest a1 a2 a3 σ = some r → pn_C Γ 11 mX11_doRest [.ref 85, .int a1, .int a2, .int a3] σ (pn_i r) := by
  refine pn_of (ls := [.ref 85, .int a1, .int a2, .int a3, .null, .null]) (by decide) rfl (pn_cat rfl) rfl (Nat.le_of_ble_eq_true rfl) ?_
  rw [fX11_doRest]
  refine pn_aload_n dX11_doRest_0 rfl rfl rfl ?_
  refine pn_iload_n dX11_doRest_1 rfl rfl rfl ?_
  refine pn_iload_n dX11_doRest_2 rfl rfl rfl ?_
  refine pn_iload_n dX11_doRest_3 rfl rfl rfl ?_
  refine pn_ci (fun r9 h9 => pn_LKV dX11_doRest_4 lm_X11_368 (ct_X11_villageHas Γ a1 a2 a3 σ r9 h9) (by decide) qt_85 qk_85 rfl rfl (Nat.le_of_ble_eq_true rfl)) rfl (fun x1 σ1 => ?_)
  refine pn_aload_n dX11_doRest_7 rfl rfl rfl ?_
  refine pn_iload_n dX11_doRest_8 rfl rfl rfl ?_
  refine pn_iload_n dX11_doRest_9 rfl rfl rfl ?_
  refine pn_iconst dX11_doRest_10 rfl ic_1 ?_
  refine pn_iload_n dX11_doRest_11 rfl rfl rfl ?_
  refine pn_isub dX11_doRest_12 rfl ?_
  refine pn_ci (fun r9 h9 => pn_LKV dX11_doRest_13 lm_X11_368 (ct_X11_villageHas Γ a1 a2 ((1 : Int32) - a3) σ1 r9 h9) (by decide) qt_85 qk_85 rfl rfl (Nat.le_of_ble_eq_true rfl)) rfl (fun x2 σ2 => ?_)
  refine pn_icmp_lt (tgt := 23) dX11_doRest_16 rfl rfl (fun c3 => ?_) (fun c3 => ?_)
  · refine pn_iconst dX11_doRest_23 rfl ic_0 ?_
    refine pn_istore (ls' := [.ref 85, .int a1, .int a2, .int a3, .int (0 : Int32), .null]) dX11_doRest_24 rfl (Nat.le_of_ble_eq_true rfl) rfl ?_
    refine pn_iconst dX11_doRest_26 rfl ic_0 ?_
    refine pn_istore (ls' := [.ref 85, .int a1, .int a2, .int a3, .int (0 : Int32), .int (0 : Int32)]) dX11_doRest_27 rfl (Nat.le_of_ble_eq_true rfl) rfl ?_
    exact wX11_doRest_29 Γ 5000 a1 a2 a3 (0 : Int32) (0 : Int32) σ2
  · refine pn_iconst dX11_doRest_19 rfl ic_1 ?_
    refine pn_goto (pc' := 24) dX11_doRest_20 rfl ?_
    refine pn_istore (ls' := [.ref 85, .int a1, .int a2, .int a3, .int (1 : Int32), .null]) dX11_doRest_24 rfl (Nat.le_of_ble_eq_true rfl) rfl ?_
    refine pn_iconst dX11_doRest_26 rfl ic_0 ?_
    refine pn_istore (ls' := [.ref 85, .int a1, .int a2, .int a3, .int (1 : Int32), .int (0 : Int32)]) dX11_doRest_27 rfl (Nat.le_of_ble_eq_true rfl) rfl ?_
    exact wX11_doRest_29 Γ 5000 a1 a2 a3 (1 : Int32) (0 : Int32) σ2

set_option maxRecDepth 20000 in
set_option maxHeartbeats 4000000 in
theorem wX11_rests_32 (Γ : pn_G)  (rec24 : Int32 → Int32 → Int32 → pn_S → Option (Int32 × pn_S)) (hrec24 : ∀ (l1 : Int32) (l2 : Int32) (l3 : Int32) (σ : pn_S), pn_W9 Γ 12 mX11_rests pn_i 24 [.ref 85, .int l1, .int l2, .int l3, .null] [] σ (rec24 l1 l2 l3 σ)) : ∀ (n9 : Nat) (l1 : Int32) (l2 : Int32) (l3 : Int32) (l4 : Int32) (σ : pn_S), pn_W9 Γ 12 mX11_rests pn_i 32 [.ref 85, .int l1, .int l2, .int l3, .int l4] [] σ (fX11_rests_32 rec24 n9 l1 l2 l3 l4 σ) := by
  intro n9
  induction n9 with
  | zero => intro l1 l2 l3 l4 σ; exact pn_none
  | succ n9 ih =>
    intro l1 l2 l3 l4 σ
    rw [fX11_rests_32]
    refine pn_iload dX11_rests_32 rfl rfl ?_
    refine pn_iconst dX11_rests_34 rfl ic_2 ?_
    refine pn_icmp_ge (tgt := 70) dX11_rests_35 rfl rfl (fun c5 => ?_) (fun c5 => ?_)
    · refine pn_iinc (ls' := [.ref 85, .int l1, .int l2, .int (l3 + (1 : Int32)), .int l4]) dX11_rests_70 rfl (Nat.le_of_ble_eq_true rfl) rfl (congrArg (fun z => l3 + z) ic_1) rfl ?_
      refine pn_goto (pc' := 24) dX11_rests_73 rfl ?_
      exact pn_wk (pn_leC rfl (pn_leC rfl (pn_leC rfl (pn_leC rfl (pn_leN pn_le0))))) (hrec24 l1 l2 (l3 + (1 : Int32)) σ)
    · refine pn_iload_n dX11_rests_38 rfl rfl rfl ?_
      refine pn_aload_n dX11_rests_39 rfl rfl rfl ?_
      refine pn_iload_n dX11_rests_40 rfl rfl rfl ?_
      refine pn_iload_n dX11_rests_41 rfl rfl rfl ?_
      refine pn_iload dX11_rests_42 rfl rfl ?_
      refine pn_ci (fun r9 h9 => pn_LKV dX11_rests_44 lm_X11_374 (ct_X11_doRest Γ l1 l3 l4 σ r9 h9) (by decide) qt_85 qk_85 rfl rfl (Nat.le_of_ble_eq_true rfl)) rfl (fun x6 σ6 => ?_)
      refine pn_if_eq (tgt := 61) dX11_rests_47 rfl rfl (fun c7 => ?_) (fun c7 => ?_)
      · refine pn_iconst dX11_rests_61 rfl ic_0 ?_
        refine pn_ior dX11_rests_62 rfl ?_
        refine pn_istore_n (ls' := [.ref 85, .int l1, .int (l2 ||| (0 : Int32)), .int l3, .int l4]) dX11_rests_63 rfl rfl (Nat.le_of_ble_eq_true rfl) rfl ?_
        refine pn_iinc (ls' := [.ref 85, .int l1, .int (l2 ||| (0 : Int32)), .int l3, .int (l4 + (1 : Int32))]) dX11_rests_64 rfl (Nat.le_of_ble_eq_true rfl) rfl (congrArg (fun z => l4 + z) ic_1) rfl ?_
        refine pn_goto (pc' := 32) dX11_rests_67 rfl ?_
        exact ih l1 (l2 ||| (0 : Int32)) l3 (l4 + (1 : Int32)) σ6
      · refine pn_iconst dX11_rests_50 rfl ic_1 ?_
        refine pn_iconst dX11_rests_51 rfl ic_2 ?_
        refine pn_iload_n dX11_rests_52 rfl rfl rfl ?_
        refine pn_imul dX11_rests_53 rfl ?_
        refine pn_iload dX11_rests_54 rfl rfl ?_
        refine pn_iadd dX11_rests_56 rfl ?_
        refine pn_ishl dX11_rests_57 rfl ?_
        refine pn_goto (pc' := 62) dX11_rests_58 rfl ?_
        refine pn_ior dX11_rests_62 rfl ?_
        refine pn_istore_n (ls' := [.ref 85, .int l1, .int (l2 ||| ((1 : Int32) <<< ((((2 : Int32) * l3) + l4) &&& 31))), .int l3, .int l4]) dX11_rests_63 rfl rfl (Nat.le_of_ble_eq_true rfl) rfl ?_
        refine pn_iinc (ls' := [.ref 85, .int l1, .int (l2 ||| ((1 : Int32) <<< ((((2 : Int32) * l3) + l4) &&& 31))), .int l3, .int (l4 + (1 : Int32))]) dX11_rests_64 rfl (Nat.le_of_ble_eq_true rfl) rfl (congrArg (fun z => l4 + z) ic_1) rfl ?_
        refine pn_goto (pc' := 32) dX11_rests_67 rfl ?_
        exact ih l1 (l2 ||| ((1 : Int32) <<< ((((2 : Int32) * l3) + l4) &&& 31))) l3 (l4 + (1 : Int32)) σ6

set_option maxRecDepth 20000 in
set_option maxHeartbeats 4000000 in
theorem wX11_rests_24 (Γ : pn_G)  : ∀ (n9 : Nat) (l1 : Int32) (l2 : Int32) (l3 : Int32) (σ : pn_S), pn_W9 Γ 12 mX11_rests pn_i 24 [.ref 85, .int l1, .int l2, .int l3, .null] [] σ (fX11_rests_24 n9 l1 l2 l3 σ) := by
  intro n9
  induction n9 with
  | zero => intro l1 l2 l3 σ; exact pn_none
  | succ n9 ih =>
    intro l1 l2 l3 σ
    rw [fX11_rests_24]
    refine pn_iload_n dX11_rests_24 rfl rfl rfl ?_
    refine pn_iconst dX11_rests_25 rfl ic_3 ?_
    refine pn_icmp_ge (tgt := 76) dX11_rests_26 rfl rfl (fun c4 => ?_) (fun c4 => ?_)
    · refine pn_iload_n dX11_rests_76 rfl rfl rfl ?_
      exact pn_iretv dX11_rests_77 rfl rfl rfl
    · refine pn_iconst dX11_rests_29 rfl ic_0 ?_
      refine pn_istore (ls' := [.ref 85, .int l1, .int l2, .int l3, .int (0 : Int32)]) dX11_rests_30 rfl (Nat.le_of_ble_eq_true rfl) rfl ?_
      exact wX11_rests_32 Γ (fX11_rests_24 n9) (ih) 5000 l1 l2 l3 (0 : Int32) σ

set_option maxRecDepth 20000 in
set_option maxHeartbeats 4000000 in
theorem ct_X11_rests (Γ : pn_G) (a1 : Int32) (σ : pn_S) : ∀ r, fX11_rests a1 σ = some r → pn_C Γ 12 mX11_rests [.ref 85, .int a1] σ (pn_i r) := by
  refine pn_of (ls := [.ref 85, .int a1, .null, .null, .null]) (by decide) rfl (pn_cat rfl) rfl (Nat.le_of_ble_eq_true rfl) ?_
  rw [fX11_rests]
  refine pn_aload_n dX11_rests_0 rfl rfl rfl ?_
  refine pn_iconst dX11_rests_1 rfl ic_0 ?_
  refine pn_puti dX11_rests_2 rfl lf_X11_3_10 (fpi_10_0 (0 : Int32)) qt_85 qk_85 qr_85_0 ?_
  refine pn_aload_n dX11_rests_5 rfl rfl rfl ?_
  refine pn_aload_n dX11_rests_6 rfl rfl rfl ?_
  refine pn_iload_n dX11_rests_7 rfl rfl rfl ?_
  refine pn_cp (fun r9 h9 => pn_LKV dX11_rests_8 lm_X11_259 (ct_X11_nobody Γ a1 (pn_up σ 85 0 (0 : Int32)) r9 h9) (by decide) qt_85 qk_85 rfl rfl (Nat.le_of_ble_eq_true rfl)) rfl (fun x1 => ?_)
  refine pn_iconst dX11_rests_11 rfl ic_1 ?_
  refine pn_ci (fun r9 h9 => pn_LKV dX11_rests_12 lm_X11_240 (ct_X11_throwsIf Γ x1 (1 : Int32) (pn_up σ 85 0 (0 : Int32)) r9 h9) (by decide) qt_85 qk_85 rfl rfl (Nat.le_of_ble_eq_true rfl)) rfl (fun x2 σ2 => ?_)
  refine pn_if_eq (tgt := 20) dX11_rests_15 rfl rfl (fun c3 => ?_) (fun c3 => ?_)
  · refine pn_iconst dX11_rests_20 rfl ic_0 ?_
    refine pn_istore_n (ls' := [.ref 85, .int a1, .int (0 : Int32), .null, .null]) dX11_rests_21 rfl rfl (Nat.le_of_ble_eq_true rfl) rfl ?_
    refine pn_iconst dX11_rests_22 rfl ic_0 ?_
    refine pn_istore_n (ls' := [.ref 85, .int a1, .int (0 : Int32), .int (0 : Int32), .null]) dX11_rests_23 rfl rfl (Nat.le_of_ble_eq_true rfl) rfl ?_
    exact wX11_rests_24 Γ 5000 a1 (0 : Int32) (0 : Int32) σ2
  · refine pn_iconst dX11_rests_18 rfl ic_0 ?_
    exact pn_iretv dX11_rests_19 rfl rfl rfl

set_option maxRecDepth 20000 in
set_option maxHeartbeats 4000000 in
theorem wX11_isTold_26 (Γ : pn_G)  (σ : pn_S) : ∀ (n9 : Nat) (l1 : Int32) (l2 : Int32) (l3 : Int32), pn_W9 Γ 3 mX11_isTold (pn_p σ) 26 [.ref 85, .int l1, .int l2, .int l3] [] σ (fX11_isTold_26 n9 l1 l2 l3 σ) := by
  intro n9
  induction n9 with
  | zero => intro l1 l2 l3; exact pn_none
  | succ n9 ih =>
    intro l1 l2 l3
    rw [fX11_isTold_26]
    refine pn_iload_n dX11_isTold_26 rfl rfl rfl ?_
    refine pn_aload_n dX11_isTold_27 rfl rfl rfl ?_
    refine pn_geti dX11_isTold_28 rfl lf_X11_77_10 qt_85 qk_85 qr_85_11 ?_
    refine pn_icmp_ge (tgt := 117) dX11_isTold_31 rfl rfl (fun c3 => ?_) (fun c3 => ?_)
    · refine pn_iload_n dX11_isTold_117 rfl rfl rfl ?_
      exact pn_iretb dX11_isTold_118 rfl rfl
    · refine pn_iload_n dX11_isTold_34 rfl rfl rfl ?_
      refine pn_if_eq (tgt := 117) dX11_isTold_35 rfl rfl (fun c4 => ?_) (fun c4 => ?_)
      · refine pn_iload_n dX11_isTold_117 rfl rfl rfl ?_
        exact pn_iretb dX11_isTold_118 rfl rfl
      · refine pn_aload_n dX11_isTold_38 rfl rfl rfl ?_
        refine pn_aload_n dX11_isTold_39 rfl rfl rfl ?_
        refine pn_geta dX11_isTold_40 rfl lf_X11_29_10 qt_85 qk_85 qr_85_8 qt_91 ?_
        refine pn_iload_n dX11_isTold_43 rfl rfl rfl ?_
        refine pn_bald dX11_isTold_44 rfl qt_91 qk_91 ql_91 ?_
        refine pn_cp (fun r9 h9 => pn_LKV dX11_isTold_45 lm_X11_259 (ct_X11_nobody Γ (σ 91 (Int32.toNatClampNeg l3)) σ r9 h9) (by decide) qt_85 qk_85 rfl rfl (Nat.le_of_ble_eq_true rfl)) rfl (fun x5 => ?_)
        refine pn_if_ne (tgt := 109) dX11_isTold_48 rfl rfl (fun c6 => ?_) (fun c6 => ?_)
        · refine pn_aload_n dX11_isTold_51 rfl rfl rfl ?_
          refine pn_aload_n dX11_isTold_52 rfl rfl rfl ?_
          refine pn_geta dX11_isTold_53 rfl lf_X11_29_10 qt_85 qk_85 qr_85_8 qt_91 ?_
          refine pn_iload_n dX11_isTold_56 rfl rfl rfl ?_
          refine pn_iconst dX11_isTold_57 rfl ic_1 ?_
          refine pn_iadd dX11_isTold_58 rfl ?_
          refine pn_bald dX11_isTold_59 rfl qt_91 qk_91 ql_91 ?_
          refine pn_cp (fun r9 h9 => pn_LKV dX11_isTold_60 lm_X11_259 (ct_X11_nobody Γ (σ 91 (Int32.toNatClampNeg (l3 + (1 : Int32)))) σ r9 h9) (by decide) qt_85 qk_85 rfl rfl (Nat.le_of_ble_eq_true rfl)) rfl (fun x7 => ?_)
          refine pn_if_ne (tgt := 109) dX11_isTold_63 rfl rfl (fun c8 => ?_) (fun c8 => ?_)
          · refine pn_aload_n dX11_isTold_66 rfl rfl rfl ?_
            refine pn_geta dX11_isTold_67 rfl lf_X11_29_10 qt_85 qk_85 qr_85_8 qt_91 ?_
            refine pn_iload_n dX11_isTold_70 rfl rfl rfl ?_
            refine pn_bald dX11_isTold_71 rfl qt_91 qk_91 ql_91 ?_
            refine pn_iload_n dX11_isTold_72 rfl rfl rfl ?_
            refine pn_icmp_eq (tgt := 109) dX11_isTold_73 rfl rfl (fun c9 => ?_) (fun c9 => ?_)
            · refine pn_iconst dX11_isTold_109 rfl ic_0 ?_
              refine pn_istore_n (ls' := [.ref 85, .int l1, .int (0 : Int32), .int l3]) dX11_isTold_110 rfl rfl (Nat.le_of_ble_eq_true rfl) rfl ?_
              refine pn_iinc (ls' := [.ref 85, .int l1, .int (0 : Int32), .int (l3 + (2 : Int32))]) dX11_isTold_111 rfl (Nat.le_of_ble_eq_true rfl) rfl (congrArg (fun z => l3 + z) ic_2) rfl ?_
              refine pn_goto (pc' := 26) dX11_isTold_114 rfl ?_
              exact ih l1 (0 : Int32) (l3 + (2 : Int32))
            · refine pn_aload_n dX11_isTold_76 rfl rfl rfl ?_
              refine pn_geta dX11_isTold_77 rfl lf_X11_29_10 qt_85 qk_85 qr_85_8 qt_91 ?_
              refine pn_iload_n dX11_isTold_80 rfl rfl rfl ?_
              refine pn_iconst dX11_isTold_81 rfl ic_1 ?_
              refine pn_iadd dX11_isTold_82 rfl ?_
              refine pn_bald dX11_isTold_83 rfl qt_91 qk_91 ql_91 ?_
              refine pn_iload_n dX11_isTold_84 rfl rfl rfl ?_
              refine pn_icmp_eq (tgt := 109) dX11_isTold_85 rfl rfl (fun c10 => ?_) (fun c10 => ?_)
              · refine pn_iconst dX11_isTold_109 rfl ic_0 ?_
                refine pn_istore_n (ls' := [.ref 85, .int l1, .int (0 : Int32), .int l3]) dX11_isTold_110 rfl rfl (Nat.le_of_ble_eq_true rfl) rfl ?_
                refine pn_iinc (ls' := [.ref 85, .int l1, .int (0 : Int32), .int (l3 + (2 : Int32))]) dX11_isTold_111 rfl (Nat.le_of_ble_eq_true rfl) rfl (congrArg (fun z => l3 + z) ic_2) rfl ?_
                refine pn_goto (pc' := 26) dX11_isTold_114 rfl ?_
                exact ih l1 (0 : Int32) (l3 + (2 : Int32))
              · refine pn_aload_n dX11_isTold_88 rfl rfl rfl ?_
                refine pn_geta dX11_isTold_89 rfl lf_X11_29_10 qt_85 qk_85 qr_85_8 qt_91 ?_
                refine pn_iload_n dX11_isTold_92 rfl rfl rfl ?_
                refine pn_bald dX11_isTold_93 rfl qt_91 qk_91 ql_91 ?_
                refine pn_aload_n dX11_isTold_94 rfl rfl rfl ?_
                refine pn_geta dX11_isTold_95 rfl lf_X11_29_10 qt_85 qk_85 qr_85_8 qt_91 ?_
                refine pn_iload_n dX11_isTold_98 rfl rfl rfl ?_
                refine pn_iconst dX11_isTold_99 rfl ic_1 ?_
                refine pn_iadd dX11_isTold_100 rfl ?_
                refine pn_bald dX11_isTold_101 rfl qt_91 qk_91 ql_91 ?_
                refine pn_icmp_eq (tgt := 109) dX11_isTold_102 rfl rfl (fun c11 => ?_) (fun c11 => ?_)
                · refine pn_iconst dX11_isTold_109 rfl ic_0 ?_
                  refine pn_istore_n (ls' := [.ref 85, .int l1, .int (0 : Int32), .int l3]) dX11_isTold_110 rfl rfl (Nat.le_of_ble_eq_true rfl) rfl ?_
                  refine pn_iinc (ls' := [.ref 85, .int l1, .int (0 : Int32), .int (l3 + (2 : Int32))]) dX11_isTold_111 rfl (Nat.le_of_ble_eq_true rfl) rfl (congrArg (fun z => l3 + z) ic_2) rfl ?_
                  refine pn_goto (pc' := 26) dX11_isTold_114 rfl ?_
                  exact ih l1 (0 : Int32) (l3 + (2 : Int32))
                · refine pn_iconst dX11_isTold_105 rfl ic_1 ?_
                  refine pn_goto (pc' := 110) dX11_isTold_106 rfl ?_
                  refine pn_istore_n (ls' := [.ref 85, .int l1, .int (1 : Int32), .int l3]) dX11_isTold_110 rfl rfl (Nat.le_of_ble_eq_true rfl) rfl ?_
                  refine pn_iinc (ls' := [.ref 85, .int l1, .int (1 : Int32), .int (l3 + (2 : Int32))]) dX11_isTold_111 rfl (Nat.le_of_ble_eq_true rfl) rfl (congrArg (fun z => l3 + z) ic_2) rfl ?_
                  refine pn_goto (pc' := 26) dX11_isTold_114 rfl ?_
                  exact ih l1 (1 : Int32) (l3 + (2 : Int32))
          · refine pn_iconst dX11_isTold_109 rfl ic_0 ?_
            refine pn_istore_n (ls' := [.ref 85, .int l1, .int (0 : Int32), .int l3]) dX11_isTold_110 rfl rfl (Nat.le_of_ble_eq_true rfl) rfl ?_
            refine pn_iinc (ls' := [.ref 85, .int l1, .int (0 : Int32), .int (l3 + (2 : Int32))]) dX11_isTold_111 rfl (Nat.le_of_ble_eq_true rfl) rfl (congrArg (fun z => l3 + z) ic_2) rfl ?_
            refine pn_goto (pc' := 26) dX11_isTold_114 rfl ?_
            exact ih l1 (0 : Int32) (l3 + (2 : Int32))
        · refine pn_iconst dX11_isTold_109 rfl ic_0 ?_
          refine pn_istore_n (ls' := [.ref 85, .int l1, .int (0 : Int32), .int l3]) dX11_isTold_110 rfl rfl (Nat.le_of_ble_eq_true rfl) rfl ?_
          refine pn_iinc (ls' := [.ref 85, .int l1, .int (0 : Int32), .int (l3 + (2 : Int32))]) dX11_isTold_111 rfl (Nat.le_of_ble_eq_true rfl) rfl (congrArg (fun z => l3 + z) ic_2) rfl ?_
          refine pn_goto (pc' := 26) dX11_isTold_114 rfl ?_
          exact ih l1 (0 : Int32) (l3 + (2 : Int32))

set_option maxRecDepth 20000 in
set_option maxHeartbeats 4000000 in
theorem ct_X11_isTold (Γ : pn_G) (a1 : Int32) (σ : pn_S) : ∀ r, fX11_isTold a1 σ = some r → pn_C Γ 3 mX11_isTold [.ref 85, .int a1] σ ((pn_p σ) r) := by
  refine pn_of (ls := [.ref 85, .int a1, .null, .null]) (by decide) rfl (pn_cat rfl) rfl (Nat.le_of_ble_eq_true rfl) ?_
  rw [fX11_isTold]
  refine pn_aload_n dX11_isTold_0 rfl rfl rfl ?_
  refine pn_geti dX11_isTold_1 rfl lf_X11_77_10 qt_85 qk_85 qr_85_11 ?_
  refine pn_iconst dX11_isTold_4 rfl ic_2 ?_
  refine pn_iremc dX11_isTold_5 rfl (by decide) ?_
  refine pn_if_ne (tgt := 22) dX11_isTold_6 rfl rfl (fun c1 => ?_) (fun c1 => ?_)
  · refine pn_aload_n dX11_isTold_9 rfl rfl rfl ?_
    refine pn_geti dX11_isTold_10 rfl lf_X11_77_10 qt_85 qk_85 qr_85_11 ?_
    refine pn_bipush dX11_isTold_13 rfl bc_40 ?_
    refine pn_icmp_gt (tgt := 22) dX11_isTold_15 rfl rfl (fun c2 => ?_) (fun c2 => ?_)
    · refine pn_iconst dX11_isTold_22 rfl ic_0 ?_
      refine pn_istore_n (ls' := [.ref 85, .int a1, .int (0 : Int32), .null]) dX11_isTold_23 rfl rfl (Nat.le_of_ble_eq_true rfl) rfl ?_
      refine pn_iconst dX11_isTold_24 rfl ic_0 ?_
      refine pn_istore_n (ls' := [.ref 85, .int a1, .int (0 : Int32), .int (0 : Int32)]) dX11_isTold_25 rfl rfl (Nat.le_of_ble_eq_true rfl) rfl ?_
      exact wX11_isTold_26 Γ σ 5000 a1 (0 : Int32) (0 : Int32)
    · refine pn_iconst dX11_isTold_18 rfl ic_1 ?_
      refine pn_goto (pc' := 23) dX11_isTold_19 rfl ?_
      refine pn_istore_n (ls' := [.ref 85, .int a1, .int (1 : Int32), .null]) dX11_isTold_23 rfl rfl (Nat.le_of_ble_eq_true rfl) rfl ?_
      refine pn_iconst dX11_isTold_24 rfl ic_0 ?_
      refine pn_istore_n (ls' := [.ref 85, .int a1, .int (1 : Int32), .int (0 : Int32)]) dX11_isTold_25 rfl rfl (Nat.le_of_ble_eq_true rfl) rfl ?_
      exact wX11_isTold_26 Γ σ 5000 a1 (1 : Int32) (0 : Int32)
  · refine pn_iconst dX11_isTold_22 rfl ic_0 ?_
    refine pn_istore_n (ls' := [.ref 85, .int a1, .int (0 : Int32), .null]) dX11_isTold_23 rfl rfl (Nat.le_of_ble_eq_true rfl) rfl ?_
    refine pn_iconst dX11_isTold_24 rfl ic_0 ?_
    refine pn_istore_n (ls' := [.ref 85, .int a1, .int (0 : Int32), .int (0 : Int32)]) dX11_isTold_25 rfl rfl (Nat.le_of_ble_eq_true rfl) rfl ?_
    exact wX11_isTold_26 Γ σ 5000 a1 (0 : Int32) (0 : Int32)

set_option maxRecDepth 20000 in
set_option maxHeartbeats 4000000 in
theorem wX11_fits_23 (Γ : pn_G)  : ∀ (n9 : Nat) (l3 : Int32) (l4 : Int32) (σ : pn_S), pn_W9 Γ 4 mX11_fits pn_i 23 [.ref 85, .null, .null, .int l3, .int l4] [] σ (fX11_fits_23 n9 l3 l4 σ) := by
  intro n9
  induction n9 with
  | zero => intro l3 l4 σ; exact pn_none
  | succ n9 ih =>
    intro l3 l4 σ
    rw [fX11_fits_23]
    refine pn_iload dX11_fits_23 rfl rfl ?_
    refine pn_aload_n dX11_fits_25 rfl rfl rfl ?_
    refine pn_geti dX11_fits_26 rfl lf_X11_77_10 qt_85 qk_85 qr_85_11 ?_
    refine pn_icmp_ge (tgt := 93) dX11_fits_29 rfl rfl (fun c4 => ?_) (fun c4 => ?_)
    · refine pn_iload_n dX11_fits_93 rfl rfl rfl ?_
      exact pn_iretb dX11_fits_94 rfl rfl
    · refine pn_iload_n dX11_fits_32 rfl rfl rfl ?_
      refine pn_if_eq (tgt := 85) dX11_fits_33 rfl rfl (fun c5 => ?_) (fun c5 => ?_)
      · refine pn_iconst dX11_fits_85 rfl ic_0 ?_
        refine pn_istore_n (ls' := [.ref 85, .null, .null, .int (0 : Int32), .int l4]) dX11_fits_86 rfl rfl (Nat.le_of_ble_eq_true rfl) rfl ?_
        refine pn_iinc (ls' := [.ref 85, .null, .null, .int (0 : Int32), .int (l4 + (2 : Int32))]) dX11_fits_87 rfl (Nat.le_of_ble_eq_true rfl) rfl (congrArg (fun z => l4 + z) ic_2) rfl ?_
        refine pn_goto (pc' := 23) dX11_fits_90 rfl ?_
        exact ih (0 : Int32) (l4 + (2 : Int32)) σ
      · refine pn_aload_n dX11_fits_36 rfl rfl rfl ?_
        refine pn_geta dX11_fits_37 rfl lf_X11_45_10 qt_85 qk_85 qr_85_19 qt_95 ?_
        refine pn_aload_n dX11_fits_40 rfl rfl rfl ?_
        refine pn_geta dX11_fits_41 rfl lf_X11_29_10 qt_85 qk_85 qr_85_8 qt_91 ?_
        refine pn_iload dX11_fits_44 rfl rfl ?_
        refine pn_bald dX11_fits_46 rfl qt_91 qk_91 ql_91 ?_
        refine pn_iald dX11_fits_47 rfl qt_95 qk_95 ql_95 ?_
        refine pn_iconst dX11_fits_48 rfl ic_m1 ?_
        refine pn_icmp_eq (tgt := 85) dX11_fits_49 rfl rfl (fun c6 => ?_) (fun c6 => ?_)
        · refine pn_iconst dX11_fits_85 rfl ic_0 ?_
          refine pn_istore_n (ls' := [.ref 85, .null, .null, .int (0 : Int32), .int l4]) dX11_fits_86 rfl rfl (Nat.le_of_ble_eq_true rfl) rfl ?_
          refine pn_iinc (ls' := [.ref 85, .null, .null, .int (0 : Int32), .int (l4 + (2 : Int32))]) dX11_fits_87 rfl (Nat.le_of_ble_eq_true rfl) rfl (congrArg (fun z => l4 + z) ic_2) rfl ?_
          refine pn_goto (pc' := 23) dX11_fits_90 rfl ?_
          exact ih (0 : Int32) (l4 + (2 : Int32)) σ
        · refine pn_aload_n dX11_fits_52 rfl rfl rfl ?_
          refine pn_geta dX11_fits_53 rfl lf_X11_45_10 qt_85 qk_85 qr_85_19 qt_95 ?_
          refine pn_aload_n dX11_fits_56 rfl rfl rfl ?_
          refine pn_geta dX11_fits_57 rfl lf_X11_29_10 qt_85 qk_85 qr_85_8 qt_91 ?_
          refine pn_iload dX11_fits_60 rfl rfl ?_
          refine pn_iconst dX11_fits_62 rfl ic_1 ?_
          refine pn_iadd dX11_fits_63 rfl ?_
          refine pn_bald dX11_fits_64 rfl qt_91 qk_91 ql_91 ?_
          refine pn_iald dX11_fits_65 rfl qt_95 qk_95 ql_95 ?_
          refine pn_aload_n dX11_fits_66 rfl rfl rfl ?_
          refine pn_geta dX11_fits_67 rfl lf_X11_45_10 qt_85 qk_85 qr_85_19 qt_95 ?_
          refine pn_aload_n dX11_fits_70 rfl rfl rfl ?_
          refine pn_geta dX11_fits_71 rfl lf_X11_29_10 qt_85 qk_85 qr_85_8 qt_91 ?_
          refine pn_iload dX11_fits_74 rfl rfl ?_
          refine pn_bald dX11_fits_76 rfl qt_91 qk_91 ql_91 ?_
          refine pn_iald dX11_fits_77 rfl qt_95 qk_95 ql_95 ?_
          refine pn_icmp_le (tgt := 85) dX11_fits_78 rfl rfl (fun c7 => ?_) (fun c7 => ?_)
          · refine pn_iconst dX11_fits_85 rfl ic_0 ?_
            refine pn_istore_n (ls' := [.ref 85, .null, .null, .int (0 : Int32), .int l4]) dX11_fits_86 rfl rfl (Nat.le_of_ble_eq_true rfl) rfl ?_
            refine pn_iinc (ls' := [.ref 85, .null, .null, .int (0 : Int32), .int (l4 + (2 : Int32))]) dX11_fits_87 rfl (Nat.le_of_ble_eq_true rfl) rfl (congrArg (fun z => l4 + z) ic_2) rfl ?_
            refine pn_goto (pc' := 23) dX11_fits_90 rfl ?_
            exact ih (0 : Int32) (l4 + (2 : Int32)) σ
          · refine pn_iconst dX11_fits_81 rfl ic_1 ?_
            refine pn_goto (pc' := 86) dX11_fits_82 rfl ?_
            refine pn_istore_n (ls' := [.ref 85, .null, .null, .int (1 : Int32), .int l4]) dX11_fits_86 rfl rfl (Nat.le_of_ble_eq_true rfl) rfl ?_
            refine pn_iinc (ls' := [.ref 85, .null, .null, .int (1 : Int32), .int (l4 + (2 : Int32))]) dX11_fits_87 rfl (Nat.le_of_ble_eq_true rfl) rfl (congrArg (fun z => l4 + z) ic_2) rfl ?_
            refine pn_goto (pc' := 23) dX11_fits_90 rfl ?_
            exact ih (1 : Int32) (l4 + (2 : Int32)) σ

set_option maxRecDepth 20000 in
set_option maxHeartbeats 4000000 in
theorem ct_X11_fits (Γ : pn_G) (a1 : Int32) (a2 : Int32) (σ : pn_S) : ∀ r, fX11_fits a1 a2 σ = some r → pn_C Γ 4 mX11_fits [.ref 85, .int a1, .int a2] σ (pn_i r) := by
  refine pn_of (ls := [.ref 85, .int a1, .int a2, .null, .null]) (by decide) rfl (pn_cat rfl) rfl (Nat.le_of_ble_eq_true rfl) ?_
  rw [fX11_fits]
  refine pn_iload_n dX11_fits_0 rfl rfl rfl ?_
  refine pn_iload_n dX11_fits_1 rfl rfl rfl ?_
  refine pn_cp (fun r9 h9 => pn_LKS dX11_fits_2 lm_X11_274 (ct_X11_has Γ a2 a1 σ r9 h9) (by decide) rfl rfl (Nat.le_of_ble_eq_true rfl)) rfl (fun x1 => ?_)
  refine pn_if_eq (tgt := 10) dX11_fits_5 rfl rfl (fun c2 => ?_) (fun c2 => ?_)
  · refine pn_aload_n dX11_fits_10 rfl rfl rfl ?_
    refine pn_iload_n dX11_fits_11 rfl rfl rfl ?_
    refine pn_iload_n dX11_fits_12 rfl rfl rfl ?_
    refine pn_iconst dX11_fits_13 rfl ic_0 ?_
    refine pn_ci (fun r9 h9 => pn_LKV dX11_fits_14 lm_X11_290 (ct_X11_gathers Γ a1 a2 (0 : Int32) σ r9 h9) (by decide) qt_85 qk_85 rfl rfl (Nat.le_of_ble_eq_true rfl)) rfl (fun x3 σ3 => ?_)
    refine pn_popi dX11_fits_17 rfl ?_
    refine pn_iconst dX11_fits_18 rfl ic_1 ?_
    refine pn_istore_n (ls' := [.ref 85, .int a1, .int a2, .int (1 : Int32), .null]) dX11_fits_19 rfl rfl (Nat.le_of_ble_eq_true rfl) rfl ?_
    refine pn_iconst dX11_fits_20 rfl ic_0 ?_
    refine pn_istore (ls' := [.ref 85, .int a1, .int a2, .int (1 : Int32), .int (0 : Int32)]) dX11_fits_21 rfl (Nat.le_of_ble_eq_true rfl) rfl ?_
    exact pn_wk (pn_leC rfl (pn_leN (pn_leN (pn_leC rfl (pn_leC rfl pn_le0))))) (wX11_fits_23 Γ 5000 (1 : Int32) (0 : Int32) σ3)
  · refine pn_iconst dX11_fits_8 rfl ic_0 ?_
    exact pn_iretv dX11_fits_9 rfl rfl rfl

set_option maxRecDepth 20000 in
set_option maxHeartbeats 4000000 in
theorem wX11_howManyFit_43 (Γ : pn_G)  (rec5 : Int32 → Int32 → Int32 → Int32 → pn_S → Option (Int32 × pn_S)) (hrec5 : ∀ (l1 : Int32) (l2 : Int32) (l3 : Int32) (l4 : Int32) (σ : pn_S), pn_W9 Γ 5 mX11_howManyFit pn_i 5 [.ref 85, .int l1, .int l2, .int l3, .int l4] [] σ (rec5 l1 l2 l3 l4 σ)) (l1 : Int32) (l2 : Int32) (l4 : Int32) (s0 : Int32) (σ : pn_S) : pn_W9 Γ 5 mX11_howManyFit pn_i 43 [.ref 85, .int l1, .int l2, .null, .int l4] [.int s0] σ (fX11_howManyFit_43 rec5 l1 l2 l4 s0 σ) := by
  rw [fX11_howManyFit_43]
  refine pn_iconst dX11_howManyFit_43 rfl ic_0 ?_
  refine pn_iadd dX11_howManyFit_44 rfl ?_
  refine pn_istore_n (ls' := [.ref 85, .int l1, .int l2, .int (s0 + (0 : Int32)), .int l4]) dX11_howManyFit_45 rfl rfl (Nat.le_of_ble_eq_true rfl) rfl ?_
  refine pn_iinc (ls' := [.ref 85, .int l1, .int l2, .int (s0 + (0 : Int32)), .int (l4 + (1 : Int32))]) dX11_howManyFit_46 rfl (Nat.le_of_ble_eq_true rfl) rfl (congrArg (fun z => l4 + z) ic_1) rfl ?_
  refine pn_goto (pc' := 5) dX11_howManyFit_49 rfl ?_
  exact hrec5 l1 l2 (s0 + (0 : Int32)) (l4 + (1 : Int32)) σ

set_option maxRecDepth 20000 in
set_option maxHeartbeats 4000000 in
theorem wX11_howManyFit_29 (Γ : pn_G)  (rec5 : Int32 → Int32 → Int32 → Int32 → pn_S → Option (Int32 × pn_S)) (hrec5 : ∀ (l1 : Int32) (l2 : Int32) (l3 : Int32) (l4 : Int32) (σ : pn_S), pn_W9 Γ 5 mX11_howManyFit pn_i 5 [.ref 85, .int l1, .int l2, .int l3, .int l4] [] σ (rec5 l1 l2 l3 l4 σ)) (l1 : Int32) (l2 : Int32) (l4 : Int32) (s0 : Int32) (σ : pn_S) : pn_W9 Γ 5 mX11_howManyFit pn_i 29 [.ref 85, .int l1, .int l2, .null, .int l4] [.int s0] σ (fX11_howManyFit_29 rec5 l1 l2 l4 s0 σ) := by
  rw [fX11_howManyFit_29]
  refine pn_aload_n dX11_howManyFit_29 rfl rfl rfl ?_
  refine pn_iload_n dX11_howManyFit_30 rfl rfl rfl ?_
  refine pn_iload dX11_howManyFit_31 rfl rfl ?_
  refine pn_ci (fun r9 h9 => pn_LKV dX11_howManyFit_33 lm_X11_377 (ct_X11_fits Γ l1 l4 σ r9 h9) (by decide) qt_85 qk_85 rfl rfl (Nat.le_of_ble_eq_true rfl)) rfl (fun x4 σ4 => ?_)
  refine pn_if_eq (tgt := 43) dX11_howManyFit_36 rfl rfl (fun c5 => ?_) (fun c5 => ?_)
  · exact wX11_howManyFit_43 Γ (rec5) (hrec5) l1 l2 l4 s0 σ4
  · refine pn_iconst dX11_howManyFit_39 rfl ic_1 ?_
    refine pn_goto (pc' := 44) dX11_howManyFit_40 rfl ?_
    refine pn_iadd dX11_howManyFit_44 rfl ?_
    refine pn_istore_n (ls' := [.ref 85, .int l1, .int l2, .int (s0 + (1 : Int32)), .int l4]) dX11_howManyFit_45 rfl rfl (Nat.le_of_ble_eq_true rfl) rfl ?_
    refine pn_iinc (ls' := [.ref 85, .int l1, .int l2, .int (s0 + (1 : Int32)), .int (l4 + (1 : Int32))]) dX11_howManyFit_46 rfl (Nat.le_of_ble_eq_true rfl) rfl (congrArg (fun z => l4 + z) ic_1) rfl ?_
    refine pn_goto (pc' := 5) dX11_howManyFit_49 rfl ?_
    exact hrec5 l1 l2 (s0 + (1 : Int32)) (l4 + (1 : Int32)) σ4

set_option maxRecDepth 20000 in
set_option maxHeartbeats 4000000 in
theorem wX11_howManyFit_5 (Γ : pn_G)  : ∀ (n9 : Nat) (l1 : Int32) (l2 : Int32) (l3 : Int32) (l4 : Int32) (σ : pn_S), pn_W9 Γ 5 mX11_howManyFit pn_i 5 [.ref 85, .int l1, .int l2, .int l3, .int l4] [] σ (fX11_howManyFit_5 n9 l1 l2 l3 l4 σ) := by
  intro n9
  induction n9 with
  | zero => intro l1 l2 l3 l4 σ; exact pn_none
  | succ n9 ih =>
    intro l1 l2 l3 l4 σ
    rw [fX11_howManyFit_5]
    refine pn_iload dX11_howManyFit_5 rfl rfl ?_
    refine pn_aload_n dX11_howManyFit_7 rfl rfl rfl ?_
    refine pn_cp (fun r9 h9 => pn_LKV dX11_howManyFit_8 lm_X11_268 (ct_X11_everybody Γ σ r9 h9) (by decide) qt_85 qk_85 rfl rfl (Nat.le_of_ble_eq_true rfl)) rfl (fun x1 => ?_)
    refine pn_icmp_gt (tgt := 52) dX11_howManyFit_11 rfl rfl (fun c2 => ?_) (fun c2 => ?_)
    · refine pn_iload_n dX11_howManyFit_52 rfl rfl rfl ?_
      exact pn_iretv dX11_howManyFit_53 rfl rfl rfl
    · refine pn_iload_n dX11_howManyFit_14 rfl rfl rfl ?_
      refine pn_iload_n dX11_howManyFit_15 rfl rfl rfl ?_
      refine pn_iconst dX11_howManyFit_16 rfl ic_m1 ?_
      refine pn_icmp_eq (tgt := 29) dX11_howManyFit_17 rfl rfl (fun c3 => ?_) (fun c3 => ?_)
      · exact pn_wk (pn_leC rfl (pn_leC rfl (pn_leC rfl (pn_leN (pn_leC rfl pn_le0))))) (wX11_howManyFit_29 Γ (fX11_howManyFit_5 n9) (ih) l1 l2 l4 l3 σ)
      · refine pn_iload dX11_howManyFit_20 rfl rfl ?_
        refine pn_iload_n dX11_howManyFit_22 rfl rfl rfl ?_
        refine pn_cp (fun r9 h9 => pn_LKS dX11_howManyFit_23 lm_X11_274 (ct_X11_has Γ l4 l2 σ r9 h9) (by decide) rfl rfl (Nat.le_of_ble_eq_true rfl)) rfl (fun x6 => ?_)
        refine pn_if_eq (tgt := 43) dX11_howManyFit_26 rfl rfl (fun c7 => ?_) (fun c7 => ?_)
        · exact pn_wk (pn_leC rfl (pn_leC rfl (pn_leC rfl (pn_leN (pn_leC rfl pn_le0))))) (wX11_howManyFit_43 Γ (fX11_howManyFit_5 n9) (ih) l1 l2 l4 l3 σ)
        · exact pn_wk (pn_leC rfl (pn_leC rfl (pn_leC rfl (pn_leN (pn_leC rfl pn_le0))))) (wX11_howManyFit_29 Γ (fX11_howManyFit_5 n9) (ih) l1 l2 l4 l3 σ)

set_option maxRecDepth 20000 in
set_option maxHeartbeats 4000000 in
theorem ct_X11_howManyFit (Γ : pn_G) (a1 : Int32) (a2 : Int32) (σ : pn_S) : ∀ r, fX11_howManyFit a1 a2 σ = some r → pn_C Γ 5 mX11_howManyFit [.ref 85, .int a1, .int a2] σ (pn_i r) := by
  refine pn_of (ls := [.ref 85, .int a1, .int a2, .null, .null]) (by decide) rfl (pn_cat rfl) rfl (Nat.le_of_ble_eq_true rfl) ?_
  rw [fX11_howManyFit]
  refine pn_iconst dX11_howManyFit_0 rfl ic_0 ?_
  refine pn_istore_n (ls' := [.ref 85, .int a1, .int a2, .int (0 : Int32), .null]) dX11_howManyFit_1 rfl rfl (Nat.le_of_ble_eq_true rfl) rfl ?_
  refine pn_iconst dX11_howManyFit_2 rfl ic_0 ?_
  refine pn_istore (ls' := [.ref 85, .int a1, .int a2, .int (0 : Int32), .int (0 : Int32)]) dX11_howManyFit_3 rfl (Nat.le_of_ble_eq_true rfl) rfl ?_
  exact wX11_howManyFit_5 Γ 5000 a1 a2 (0 : Int32) (0 : Int32) σ

set_option maxRecDepth 20000 in
set_option maxHeartbeats 4000000 in
theorem wX11_heard_97 (Γ : pn_G)  (rec64 : Int32 → Int32 → Int32 → Int32 → pn_S → Option (Int32 × pn_S)) (hrec64 : ∀ (l1 : Int32) (l3 : Int32) (l4 : Int32) (l5 : Int32) (σ : pn_S), pn_W9 Γ 8 mX11_heard pn_i 64 [.ref 85, .int l1, .null, .int l3, .int l4, .int l5] [] σ (rec64 l1 l3 l4 l5 σ)) (l1 : Int32) (l3 : Int32) (l5 : Int32) (s0 : Int32) (σ : pn_S) : pn_W9 Γ 8 mX11_heard pn_i 97 [.ref 85, .int l1, .null, .int l3, .null, .int l5] [.int s0] σ (fX11_heard_97 rec64 l1 l3 l5 s0 σ) := by
  rw [fX11_heard_97]
  refine pn_iconst dX11_heard_97 rfl ic_0 ?_
  refine pn_ior dX11_heard_98 rfl ?_
  refine pn_istore (ls' := [.ref 85, .int l1, .null, .int l3, .int (s0 ||| (0 : Int32)), .int l5]) dX11_heard_99 rfl (Nat.le_of_ble_eq_true rfl) rfl ?_
  refine pn_iinc (ls' := [.ref 85, .int l1, .null, .int l3, .int (s0 ||| (0 : Int32)), .int (l5 + (1 : Int32))]) dX11_heard_101 rfl (Nat.le_of_ble_eq_true rfl) rfl (congrArg (fun z => l5 + z) ic_1) rfl ?_
  refine pn_goto (pc' := 64) dX11_heard_104 rfl ?_
  exact hrec64 l1 l3 (s0 ||| (0 : Int32)) (l5 + (1 : Int32)) σ

set_option maxRecDepth 20000 in
set_option maxHeartbeats 4000000 in
theorem wX11_heard_64 (Γ : pn_G)  : ∀ (n9 : Nat) (l1 : Int32) (l3 : Int32) (l4 : Int32) (l5 : Int32) (σ : pn_S), pn_W9 Γ 8 mX11_heard pn_i 64 [.ref 85, .int l1, .null, .int l3, .int l4, .int l5] [] σ (fX11_heard_64 n9 l1 l3 l4 l5 σ) := by
  intro n9
  induction n9 with
  | zero => intro l1 l3 l4 l5 σ; exact pn_none
  | succ n9 ih =>
    intro l1 l3 l4 l5 σ
    rw [fX11_heard_64]
    refine pn_iload dX11_heard_64 rfl rfl ?_
    refine pn_aload_n dX11_heard_66 rfl rfl rfl ?_
    refine pn_cp (fun r9 h9 => pn_LKV dX11_heard_67 lm_X11_55 (ct_X11_people Γ σ r9 h9) (by decide) qt_85 qk_85 rfl rfl (Nat.le_of_ble_eq_true rfl)) rfl (fun x12 => ?_)
    refine pn_icmp_ge (tgt := 107) dX11_heard_70 rfl rfl (fun c13 => ?_) (fun c13 => ?_)
    · refine pn_iload dX11_heard_107 rfl rfl ?_
      exact pn_iretv dX11_heard_109 rfl rfl rfl
    · refine pn_iload dX11_heard_73 rfl rfl ?_
      refine pn_iload_n dX11_heard_75 rfl rfl rfl ?_
      refine pn_if_le (tgt := 97) dX11_heard_76 rfl rfl (fun c14 => ?_) (fun c14 => ?_)
      · exact pn_wk (pn_leC rfl (pn_leC rfl (pn_leN (pn_leC rfl (pn_leN (pn_leC rfl pn_le0)))))) (wX11_heard_97 Γ (fX11_heard_64 n9) (ih) l1 l3 l5 l4 σ)
      · refine pn_aload_n dX11_heard_79 rfl rfl rfl ?_
        refine pn_iload_n dX11_heard_80 rfl rfl rfl ?_
        refine pn_iload dX11_heard_81 rfl rfl ?_
        refine pn_ci (fun r9 h9 => pn_LKV dX11_heard_83 lm_X11_383 (ct_X11_howManyFit Γ l1 l5 σ r9 h9) (by decide) qt_85 qk_85 rfl rfl (Nat.le_of_ble_eq_true rfl)) rfl (fun x15 σ15 => ?_)
        refine pn_iload_n dX11_heard_86 rfl rfl rfl ?_
        refine pn_icmp_ne (tgt := 97) dX11_heard_87 rfl rfl (fun c16 => ?_) (fun c16 => ?_)
        · refine pn_iconst dX11_heard_90 rfl ic_1 ?_
          refine pn_iload dX11_heard_91 rfl rfl ?_
          refine pn_ishl dX11_heard_93 rfl ?_
          refine pn_goto (pc' := 98) dX11_heard_94 rfl ?_
          refine pn_ior dX11_heard_98 rfl ?_
          refine pn_istore (ls' := [.ref 85, .int l1, .null, .int l3, .int (l4 ||| ((1 : Int32) <<< (l5 &&& 31))), .int l5]) dX11_heard_99 rfl (Nat.le_of_ble_eq_true rfl) rfl ?_
          refine pn_iinc (ls' := [.ref 85, .int l1, .null, .int l3, .int (l4 ||| ((1 : Int32) <<< (l5 &&& 31))), .int (l5 + (1 : Int32))]) dX11_heard_101 rfl (Nat.le_of_ble_eq_true rfl) rfl (congrArg (fun z => l5 + z) ic_1) rfl ?_
          refine pn_goto (pc' := 64) dX11_heard_104 rfl ?_
          exact ih l1 l3 (l4 ||| ((1 : Int32) <<< (l5 &&& 31))) (l5 + (1 : Int32)) σ15
        · exact pn_wk (pn_leC rfl (pn_leC rfl (pn_leN (pn_leC rfl (pn_leN (pn_leC rfl pn_le0)))))) (wX11_heard_97 Γ (fX11_heard_64 n9) (ih) l1 l3 l5 l4 σ15)

set_option maxRecDepth 20000 in
set_option maxHeartbeats 4000000 in
theorem wX11_heard_31 (Γ : pn_G)  (l1 : Int32) (l2 : Int32) (s1 : Int32) (σ : pn_S) : pn_W9 Γ 8 mX11_heard pn_i 31 [.ref 85, .int l1, .int l2, .null, .null, .null] [.int s1, .ref 85] σ (fX11_heard_31 l1 l2 s1 σ) := by
  rw [fX11_heard_31]
  refine pn_iconst dX11_heard_31 rfl ic_2 ?_
  refine pn_ci (fun r9 h9 => pn_LKV dX11_heard_32 lm_X11_240 (ct_X11_throwsIf Γ s1 (2 : Int32) σ r9 h9) (by decide) qt_85 qk_85 rfl rfl (Nat.le_of_ble_eq_true rfl)) rfl (fun x7 σ7 => ?_)
  refine pn_if_eq (tgt := 40) dX11_heard_35 rfl rfl (fun c8 => ?_) (fun c8 => ?_)
  · refine pn_aload_n dX11_heard_40 rfl rfl rfl ?_
    refine pn_iload_n dX11_heard_41 rfl rfl rfl ?_
    refine pn_cv (fun r9 h9 => pn_LKV dX11_heard_42 lm_X11_283 (ct_X11_laysNeeds Γ l1 σ7 r9 h9) (by decide) qt_85 qk_85 rfl rfl (Nat.le_of_ble_eq_true rfl)) rfl (fun σ9 => ?_)
    refine pn_aload_n dX11_heard_45 rfl rfl rfl ?_
    refine pn_iload_n dX11_heard_46 rfl rfl rfl ?_
    refine pn_iconst dX11_heard_47 rfl ic_m1 ?_
    refine pn_ci (fun r9 h9 => pn_LKV dX11_heard_48 lm_X11_383 (ct_X11_howManyFit Γ l1 (-1 : Int32) σ9 r9 h9) (by decide) qt_85 qk_85 rfl rfl (Nat.le_of_ble_eq_true rfl)) rfl (fun x10 σ10 => ?_)
    refine pn_istore_n (ls' := [.ref 85, .int l1, .int l2, .int x10, .null, .null]) dX11_heard_51 rfl rfl (Nat.le_of_ble_eq_true rfl) rfl ?_
    refine pn_iload_n dX11_heard_52 rfl rfl rfl ?_
    refine pn_if_ne (tgt := 58) dX11_heard_53 rfl rfl (fun c11 => ?_) (fun c11 => ?_)
    · refine pn_iload_n dX11_heard_56 rfl rfl rfl ?_
      exact pn_iretv dX11_heard_57 rfl rfl rfl
    · refine pn_iconst dX11_heard_58 rfl ic_0 ?_
      refine pn_istore (ls' := [.ref 85, .int l1, .int l2, .int x10, .int (0 : Int32), .null]) dX11_heard_59 rfl (Nat.le_of_ble_eq_true rfl) rfl ?_
      refine pn_iconst dX11_heard_61 rfl ic_0 ?_
      refine pn_istore (ls' := [.ref 85, .int l1, .int l2, .int x10, .int (0 : Int32), .int (0 : Int32)]) dX11_heard_62 rfl (Nat.le_of_ble_eq_true rfl) rfl ?_
      exact pn_wk (pn_leC rfl (pn_leC rfl (pn_leN (pn_leC rfl (pn_leC rfl (pn_leC rfl pn_le0)))))) (wX11_heard_64 Γ 5000 l1 x10 (0 : Int32) (0 : Int32) σ10)
  · refine pn_iconst dX11_heard_38 rfl ic_0 ?_
    exact pn_iretv dX11_heard_39 rfl rfl rfl

set_option maxRecDepth 20000 in
set_option maxHeartbeats 4000000 in
theorem ct_X11_heard (Γ : pn_G) (a1 : Int32) (a2 : Int32) (σ : pn_S) : ∀ r, fX11_heard a1 a2 σ = some r → pn_C Γ 8 mX11_heard [.ref 85, .int a1, .int a2] σ (pn_i r) := by
  refine pn_of (ls := [.ref 85, .int a1, .int a2, .null, .null, .null]) (by decide) rfl (pn_cat rfl) rfl (Nat.le_of_ble_eq_true rfl) ?_
  rw [fX11_heard]
  refine pn_aload_n dX11_heard_0 rfl rfl rfl ?_
  refine pn_cv (fun r9 h9 => pn_LKV dX11_heard_1 lm_X11_229 (ct_X11_uses Γ σ r9 h9) (by decide) qt_85 qk_85 rfl rfl (Nat.le_of_ble_eq_true rfl)) rfl (fun σ1 => ?_)
  refine pn_aload_n dX11_heard_4 rfl rfl rfl ?_
  refine pn_aload_n dX11_heard_5 rfl rfl rfl ?_
  refine pn_iload_n dX11_heard_6 rfl rfl rfl ?_
  refine pn_cp (fun r9 h9 => pn_LKV dX11_heard_7 lm_X11_259 (ct_X11_nobody Γ a1 σ1 r9 h9) (by decide) qt_85 qk_85 rfl rfl (Nat.le_of_ble_eq_true rfl)) rfl (fun x2 => ?_)
  refine pn_iconst dX11_heard_10 rfl ic_1 ?_
  refine pn_ci (fun r9 h9 => pn_LKV dX11_heard_11 lm_X11_240 (ct_X11_throwsIf Γ x2 (1 : Int32) σ1 r9 h9) (by decide) qt_85 qk_85 rfl rfl (Nat.le_of_ble_eq_true rfl)) rfl (fun x3 σ3 => ?_)
  refine pn_if_ne (tgt := 38) dX11_heard_14 rfl rfl (fun c4 => ?_) (fun c4 => ?_)
  · refine pn_aload_n dX11_heard_17 rfl rfl rfl ?_
    refine pn_aload_n dX11_heard_18 rfl rfl rfl ?_
    refine pn_iload_n dX11_heard_19 rfl rfl rfl ?_
    refine pn_cp (fun r9 h9 => pn_LKV dX11_heard_20 lm_X11_380 (ct_X11_isTold Γ a1 σ3 r9 h9) (by decide) qt_85 qk_85 rfl rfl (Nat.le_of_ble_eq_true rfl)) rfl (fun x5 => ?_)
    refine pn_if_ne (tgt := 30) dX11_heard_23 rfl rfl (fun c6 => ?_) (fun c6 => ?_)
    · refine pn_iconst dX11_heard_26 rfl ic_1 ?_
      refine pn_goto (pc' := 31) dX11_heard_27 rfl ?_
      exact wX11_heard_31 Γ a1 a2 (1 : Int32) σ3
    · refine pn_iconst dX11_heard_30 rfl ic_0 ?_
      exact wX11_heard_31 Γ a1 a2 (0 : Int32) σ3
  · refine pn_iconst dX11_heard_38 rfl ic_0 ?_
    exact pn_iretv dX11_heard_39 rfl rfl rfl

set_option maxRecDepth 20000 in
set_option maxHeartbeats 4000000 in
theorem wX11_ask_118 (Γ : pn_G)  (rec62 : Int32 → Int32 → Int32 → Int32 → Int32 → pn_S → Option (Int32 × pn_S)) (hrec62 : ∀ (l1 : Int32) (l2 : Int32) (l3 : Int32) (l4 : Int32) (l5 : Int32) (σ : pn_S), pn_W9 Γ 8 mX11_ask pn_i 62 [.ref 85, .int l1, .int l2, .int l3, .int l4, .int l5, .null, .null] [] σ (rec62 l1 l2 l3 l4 l5 σ)) (l1 : Int32) (l2 : Int32) (l4 : Int32) (l5 : Int32) (l7 : Int32) (s0 : Int32) (σ : pn_S) : pn_W9 Γ 8 mX11_ask pn_i 118 [.ref 85, .int l1, .int l2, .null, .int l4, .int l5, .null, .int l7] [.int s0] σ (fX11_ask_118 rec62 l1 l2 l4 l5 l7 s0 σ) := by
  rw [fX11_ask_118]
  refine pn_istore_n (ls' := [.ref 85, .int l1, .int l2, .int s0, .int l4, .int l5, .null, .int l7]) dX11_ask_118 rfl rfl (Nat.le_of_ble_eq_true rfl) rfl ?_
  refine pn_iload dX11_ask_119 rfl rfl ?_
  refine pn_iload dX11_ask_121 rfl rfl ?_
  refine pn_cp (fun r9 h9 => pn_LKS dX11_ask_123 lm_X11_317 (ct_J9_min_7cf53 Γ l4 l7 σ r9 h9) (by decide) rfl rfl (Nat.le_of_ble_eq_true rfl)) rfl (fun x18 => ?_)
  refine pn_istore (ls' := [.ref 85, .int l1, .int l2, .int s0, .int x18, .int l5, .null, .int l7]) dX11_ask_126 rfl (Nat.le_of_ble_eq_true rfl) rfl ?_
  refine pn_iinc (ls' := [.ref 85, .int l1, .int l2, .int s0, .int x18, .int (l5 + (1 : Int32)), .null, .int l7]) dX11_ask_128 rfl (Nat.le_of_ble_eq_true rfl) rfl (congrArg (fun z => l5 + z) ic_1) rfl ?_
  refine pn_goto (pc' := 62) dX11_ask_131 rfl ?_
  exact pn_wk (pn_leC rfl (pn_leC rfl (pn_leC rfl (pn_leC rfl (pn_leC rfl (pn_leC rfl (pn_leN (pn_leN pn_le0)))))))) (hrec62 l1 l2 s0 x18 (l5 + (1 : Int32)) σ)

set_option maxRecDepth 20000 in
set_option maxHeartbeats 4000000 in
theorem wX11_ask_62 (Γ : pn_G)  : ∀ (n9 : Nat) (l1 : Int32) (l2 : Int32) (l3 : Int32) (l4 : Int32) (l5 : Int32) (σ : pn_S), pn_W9 Γ 8 mX11_ask pn_i 62 [.ref 85, .int l1, .int l2, .int l3, .int l4, .int l5, .null, .null] [] σ (fX11_ask_62 n9 l1 l2 l3 l4 l5 σ) := by
  intro n9
  induction n9 with
  | zero => intro l1 l2 l3 l4 l5 σ; exact pn_none
  | succ n9 ih =>
    intro l1 l2 l3 l4 l5 σ
    rw [fX11_ask_62]
    refine pn_iload dX11_ask_62 rfl rfl ?_
    refine pn_aload_n dX11_ask_64 rfl rfl rfl ?_
    refine pn_cp (fun r9 h9 => pn_LKV dX11_ask_65 lm_X11_55 (ct_X11_people Γ σ r9 h9) (by decide) qt_85 qk_85 rfl rfl (Nat.le_of_ble_eq_true rfl)) rfl (fun x11 => ?_)
    refine pn_icmp_ge (tgt := 134) dX11_ask_68 rfl rfl (fun c12 => ?_) (fun c12 => ?_)
    · refine pn_iload_n dX11_ask_134 rfl rfl rfl ?_
      exact pn_iretv dX11_ask_135 rfl rfl rfl
    · refine pn_iload_n dX11_ask_71 rfl rfl rfl ?_
      refine pn_iconst dX11_ask_72 rfl ic_1 ?_
      refine pn_icmp_le (tgt := 134) dX11_ask_73 rfl rfl (fun c13 => ?_) (fun c13 => ?_)
      · refine pn_iload_n dX11_ask_134 rfl rfl rfl ?_
        exact pn_iretv dX11_ask_135 rfl rfl rfl
      · refine pn_iload dX11_ask_76 rfl rfl ?_
        refine pn_iload_n dX11_ask_78 rfl rfl rfl ?_
        refine pn_icmp_ne (tgt := 85) dX11_ask_79 rfl rfl (fun c14 => ?_) (fun c14 => ?_)
        · refine pn_goto (pc' := 128) dX11_ask_82 rfl ?_
          refine pn_iinc (ls' := [.ref 85, .int l1, .int l2, .int l3, .int l4, .int (l5 + (1 : Int32)), .null, .null]) dX11_ask_128 rfl (Nat.le_of_ble_eq_true rfl) rfl (congrArg (fun z => l5 + z) ic_1) rfl ?_
          refine pn_goto (pc' := 62) dX11_ask_131 rfl ?_
          exact ih l1 l2 l3 l4 (l5 + (1 : Int32)) σ
        · refine pn_aload_n dX11_ask_85 rfl rfl rfl ?_
          refine pn_iload_n dX11_ask_86 rfl rfl rfl ?_
          refine pn_iload dX11_ask_87 rfl rfl ?_
          refine pn_ci (fun r9 h9 => pn_LKV dX11_ask_89 lm_X11_383 (ct_X11_howManyFit Γ l1 l5 σ r9 h9) (by decide) qt_85 qk_85 rfl rfl (Nat.le_of_ble_eq_true rfl)) rfl (fun x15 σ15 => ?_)
          refine pn_istore (ls' := [.ref 85, .int l1, .int l2, .int l3, .int l4, .int l5, .int x15, .null]) dX11_ask_92 rfl (Nat.le_of_ble_eq_true rfl) rfl ?_
          refine pn_iload dX11_ask_94 rfl rfl ?_
          refine pn_iload_n dX11_ask_96 rfl rfl rfl ?_
          refine pn_iload dX11_ask_97 rfl rfl ?_
          refine pn_isub dX11_ask_99 rfl ?_
          refine pn_cp (fun r9 h9 => pn_LKS dX11_ask_100 lm_X11_254 (ct_J9_max_7cf53 Γ x15 (l2 - x15) σ15 r9 h9) (by decide) rfl rfl (Nat.le_of_ble_eq_true rfl)) rfl (fun x16 => ?_)
          refine pn_istore (ls' := [.ref 85, .int l1, .int l2, .int l3, .int l4, .int l5, .int x15, .int x16]) dX11_ask_103 rfl (Nat.le_of_ble_eq_true rfl) rfl ?_
          refine pn_iload dX11_ask_105 rfl rfl ?_
          refine pn_iload dX11_ask_107 rfl rfl ?_
          refine pn_icmp_ge (tgt := 117) dX11_ask_109 rfl rfl (fun c17 => ?_) (fun c17 => ?_)
          · refine pn_iload_n dX11_ask_117 rfl rfl rfl ?_
            exact pn_wk (pn_leC rfl (pn_leC rfl (pn_leC rfl (pn_leN (pn_leC rfl (pn_leC rfl (pn_leN (pn_leC rfl pn_le0)))))))) (wX11_ask_118 Γ (fX11_ask_62 n9) (ih) l1 l2 l4 l5 x16 l3 σ15)
          · refine pn_iload dX11_ask_112 rfl rfl ?_
            refine pn_goto (pc' := 118) dX11_ask_114 rfl ?_
            exact pn_wk (pn_leC rfl (pn_leC rfl (pn_leC rfl (pn_leN (pn_leC rfl (pn_leC rfl (pn_leN (pn_leC rfl pn_le0)))))))) (wX11_ask_118 Γ (fX11_ask_62 n9) (ih) l1 l2 l4 l5 x16 l5 σ15)

set_option maxRecDepth 20000 in
set_option maxHeartbeats 4000000 in
theorem wX11_ask_31 (Γ : pn_G)  (l1 : Int32) (s1 : Int32) (σ : pn_S) : pn_W9 Γ 8 mX11_ask pn_i 31 [.ref 85, .int l1, .null, .null, .null, .null, .null, .null] [.int s1, .ref 85] σ (fX11_ask_31 l1 s1 σ) := by
  rw [fX11_ask_31]
  refine pn_iconst dX11_ask_31 rfl ic_2 ?_
  refine pn_ci (fun r9 h9 => pn_LKV dX11_ask_32 lm_X11_240 (ct_X11_throwsIf Γ s1 (2 : Int32) σ r9 h9) (by decide) qt_85 qk_85 rfl rfl (Nat.le_of_ble_eq_true rfl)) rfl (fun x7 σ7 => ?_)
  refine pn_if_eq (tgt := 40) dX11_ask_35 rfl rfl (fun c8 => ?_) (fun c8 => ?_)
  · refine pn_aload_n dX11_ask_40 rfl rfl rfl ?_
    refine pn_iload_n dX11_ask_41 rfl rfl rfl ?_
    refine pn_cv (fun r9 h9 => pn_LKV dX11_ask_42 lm_X11_283 (ct_X11_laysNeeds Γ l1 σ7 r9 h9) (by decide) qt_85 qk_85 rfl rfl (Nat.le_of_ble_eq_true rfl)) rfl (fun σ9 => ?_)
    refine pn_aload_n dX11_ask_45 rfl rfl rfl ?_
    refine pn_iload_n dX11_ask_46 rfl rfl rfl ?_
    refine pn_iconst dX11_ask_47 rfl ic_m1 ?_
    refine pn_ci (fun r9 h9 => pn_LKV dX11_ask_48 lm_X11_383 (ct_X11_howManyFit Γ l1 (-1 : Int32) σ9 r9 h9) (by decide) qt_85 qk_85 rfl rfl (Nat.le_of_ble_eq_true rfl)) rfl (fun x10 σ10 => ?_)
    refine pn_istore_n (ls' := [.ref 85, .int l1, .int x10, .null, .null, .null, .null, .null]) dX11_ask_51 rfl rfl (Nat.le_of_ble_eq_true rfl) rfl ?_
    refine pn_iconst dX11_ask_52 rfl ic_m1 ?_
    refine pn_istore_n (ls' := [.ref 85, .int l1, .int x10, .int (-1 : Int32), .null, .null, .null, .null]) dX11_ask_53 rfl rfl (Nat.le_of_ble_eq_true rfl) rfl ?_
    refine pn_ldcw dX11_ask_54 rfl lc_X11_358 ?_
    refine pn_istore (ls' := [.ref 85, .int l1, .int x10, .int (-1 : Int32), .int (1000000 : Int32), .null, .null, .null]) dX11_ask_57 rfl (Nat.le_of_ble_eq_true rfl) rfl ?_
    refine pn_iconst dX11_ask_59 rfl ic_0 ?_
    refine pn_istore (ls' := [.ref 85, .int l1, .int x10, .int (-1 : Int32), .int (1000000 : Int32), .int (0 : Int32), .null, .null]) dX11_ask_60 rfl (Nat.le_of_ble_eq_true rfl) rfl ?_
    exact wX11_ask_62 Γ 5000 l1 x10 (-1 : Int32) (1000000 : Int32) (0 : Int32) σ10
  · refine pn_iconst dX11_ask_38 rfl ic_0 ?_
    exact pn_iretv dX11_ask_39 rfl rfl rfl

set_option maxRecDepth 20000 in
set_option maxHeartbeats 4000000 in
theorem ct_X11_ask (Γ : pn_G) (a1 : Int32) (σ : pn_S) : ∀ r, fX11_ask a1 σ = some r → pn_C Γ 8 mX11_ask [.ref 85, .int a1] σ (pn_i r) := by
  refine pn_of (ls := [.ref 85, .int a1, .null, .null, .null, .null, .null, .null]) (by decide) rfl (pn_cat rfl) rfl (Nat.le_of_ble_eq_true rfl) ?_
  rw [fX11_ask]
  refine pn_aload_n dX11_ask_0 rfl rfl rfl ?_
  refine pn_cv (fun r9 h9 => pn_LKV dX11_ask_1 lm_X11_229 (ct_X11_uses Γ σ r9 h9) (by decide) qt_85 qk_85 rfl rfl (Nat.le_of_ble_eq_true rfl)) rfl (fun σ1 => ?_)
  refine pn_aload_n dX11_ask_4 rfl rfl rfl ?_
  refine pn_aload_n dX11_ask_5 rfl rfl rfl ?_
  refine pn_iload_n dX11_ask_6 rfl rfl rfl ?_
  refine pn_cp (fun r9 h9 => pn_LKV dX11_ask_7 lm_X11_259 (ct_X11_nobody Γ a1 σ1 r9 h9) (by decide) qt_85 qk_85 rfl rfl (Nat.le_of_ble_eq_true rfl)) rfl (fun x2 => ?_)
  refine pn_iconst dX11_ask_10 rfl ic_1 ?_
  refine pn_ci (fun r9 h9 => pn_LKV dX11_ask_11 lm_X11_240 (ct_X11_throwsIf Γ x2 (1 : Int32) σ1 r9 h9) (by decide) qt_85 qk_85 rfl rfl (Nat.le_of_ble_eq_true rfl)) rfl (fun x3 σ3 => ?_)
  refine pn_if_ne (tgt := 38) dX11_ask_14 rfl rfl (fun c4 => ?_) (fun c4 => ?_)
  · refine pn_aload_n dX11_ask_17 rfl rfl rfl ?_
    refine pn_aload_n dX11_ask_18 rfl rfl rfl ?_
    refine pn_iload_n dX11_ask_19 rfl rfl rfl ?_
    refine pn_cp (fun r9 h9 => pn_LKV dX11_ask_20 lm_X11_380 (ct_X11_isTold Γ a1 σ3 r9 h9) (by decide) qt_85 qk_85 rfl rfl (Nat.le_of_ble_eq_true rfl)) rfl (fun x5 => ?_)
    refine pn_if_ne (tgt := 30) dX11_ask_23 rfl rfl (fun c6 => ?_) (fun c6 => ?_)
    · refine pn_iconst dX11_ask_26 rfl ic_1 ?_
      refine pn_goto (pc' := 31) dX11_ask_27 rfl ?_
      exact wX11_ask_31 Γ a1 (1 : Int32) σ3
    · refine pn_iconst dX11_ask_30 rfl ic_0 ?_
      exact wX11_ask_31 Γ a1 (0 : Int32) σ3
  · refine pn_iconst dX11_ask_38 rfl ic_0 ?_
    exact pn_iretv dX11_ask_39 rfl rfl rfl

