set_option maxRecDepth 20000 in
set_option maxHeartbeats 4000000 in
theorem ct_X7_hasRoom (Γ : pn_G) (a1 : Int32) (σ : pn_S) : ∀ r, fX7_hasRoom a1 σ = some r → pn_C Γ 1 mX7_hasRoom [.ref 1, .int a1] σ ((pn_p σ) r) := by
  refine pn_of (ls := [.ref 1, .int a1]) (by decide) rfl (pn_cat rfl) rfl (Nat.le_of_ble_eq_true rfl) ?_
  rw [fX7_hasRoom]
  refine pn_aload_n dX7_hasRoom_0 rfl rfl rfl ?_
  refine pn_geti dX7_hasRoom_1 rfl lf_X7_21_6 qt_1 qk_1 qr_1_3 ?_
  refine pn_iload_n dX7_hasRoom_4 rfl rfl rfl ?_
  refine pn_iadd dX7_hasRoom_5 rfl ?_
  refine pn_sipush dX7_hasRoom_6 rfl sc_400 ?_
  refine pn_icmp_gt (tgt := 16) dX7_hasRoom_9 rfl rfl (fun c1 => ?_) (fun c1 => ?_)
  · refine pn_iconst dX7_hasRoom_16 rfl ic_0 ?_
    exact pn_iretv dX7_hasRoom_17 rfl rfl rfl
  · refine pn_iconst dX7_hasRoom_12 rfl ic_1 ?_
    refine pn_goto (pc' := 17) dX7_hasRoom_13 rfl ?_
    exact pn_iretv dX7_hasRoom_17 rfl rfl rfl

set_option maxRecDepth 20000 in
set_option maxHeartbeats 4000000 in
theorem wX7_put_43 (Γ : pn_G)  (rec3 : Int32 → Int32 → pn_S → Option (pn_S)) (hrec3 : ∀ (l1 : Int32) (l2 : Int32) (σ : pn_S), pn_W9 Γ 1 mX7_put pn_v 3 [.ref 1, .int l1, .int l2] [] σ (rec3 l1 l2 σ)) (l1 : Int32) (l2 : Int32) (σ : pn_S) : pn_W9 Γ 1 mX7_put pn_v 43 [.ref 1, .int l1, .int l2] [] σ (fX7_put_43 rec3 l1 l2 σ) := by
  rw [fX7_put_43]
  refine pn_iinc (ls' := [.ref 1, .int l1, .int (l2 + (-8 : Int32))]) dX7_put_43 rfl (Nat.le_of_ble_eq_true rfl) rfl (congrArg (fun z => l2 + z) ic_m8) rfl ?_
  refine pn_goto (pc' := 3) dX7_put_46 rfl ?_
  exact hrec3 l1 (l2 + (-8 : Int32)) σ

set_option maxRecDepth 20000 in
set_option maxHeartbeats 4000000 in
theorem wX7_put_3 (Γ : pn_G)  : ∀ (n9 : Nat) (l1 : Int32) (l2 : Int32) (σ : pn_S), pn_W9 Γ 1 mX7_put pn_v 3 [.ref 1, .int l1, .int l2] [] σ (fX7_put_3 n9 l1 l2 σ) := by
  intro n9
  induction n9 with
  | zero => intro l1 l2 σ; exact pn_none
  | succ n9 ih =>
    intro l1 l2 σ
    rw [fX7_put_3]
    refine pn_iload_n dX7_put_3 rfl rfl rfl ?_
    refine pn_if_lt (tgt := 49) dX7_put_4 rfl rfl (fun c1 => ?_) (fun c1 => ?_)
    · exact pn_vretv dX7_put_49 rfl rfl
    · refine pn_aload_n dX7_put_7 rfl rfl rfl ?_
      refine pn_geti dX7_put_8 rfl lf_X7_21_6 qt_1 qk_1 qr_1_3 ?_
      refine pn_sipush dX7_put_11 rfl sc_400 ?_
      refine pn_icmp_ge (tgt := 49) dX7_put_14 rfl rfl (fun c2 => ?_) (fun c2 => ?_)
      · exact pn_vretv dX7_put_49 rfl rfl
      · refine pn_aload_n dX7_put_17 rfl rfl rfl ?_
        refine pn_geta dX7_put_18 rfl lf_X7_9_6 qt_1 qk_1 qr_1_0 qt_2 ?_
        refine pn_aload_n dX7_put_21 rfl rfl rfl ?_
        refine pn_geti dX7_put_22 rfl lf_X7_21_6 qt_1 qk_1 qr_1_3 ?_
        refine pn_iload_n dX7_put_25 rfl rfl rfl ?_
        refine pn_iload_n dX7_put_26 rfl rfl rfl ?_
        refine pn_iushr dX7_put_27 rfl ?_
        refine pn_sipush dX7_put_28 rfl sc_255 ?_
        refine pn_iand dX7_put_31 rfl ?_
        refine pn_iast dX7_put_32 rfl qt_2 qk_2 ql_2 ?_
        refine pn_aload_n dX7_put_33 rfl rfl rfl ?_
        refine pn_dupa dX7_put_34 rfl ?_
        refine pn_geti dX7_put_35 rfl lf_X7_21_6 qt_1 qk_1 qr_1_3 ?_
        refine pn_iconst dX7_put_38 rfl ic_1 ?_
        refine pn_iadd dX7_put_39 rfl ?_
        refine pn_puti dX7_put_40 rfl lf_X7_21_6 (fpi_6_3 (((pn_up σ 2 (Int32.toNatClampNeg (σ 1 3)) (((Int32.toUInt32 l1 >>> (Int32.toUInt32 l2 &&& Int32.toUInt32 31)).toInt32) &&& (255 : Int32))) 1 3) + (1 : Int32))) qt_1 qk_1 qr_1_3 ?_
        exact wX7_put_43 Γ (fX7_put_3 n9) (ih) l1 l2 (pn_up (pn_up σ 2 (Int32.toNatClampNeg (σ 1 3)) (((Int32.toUInt32 l1 >>> (Int32.toUInt32 l2 &&& Int32.toUInt32 31)).toInt32) &&& (255 : Int32))) 1 3 (((pn_up σ 2 (Int32.toNatClampNeg (σ 1 3)) (((Int32.toUInt32 l1 >>> (Int32.toUInt32 l2 &&& Int32.toUInt32 31)).toInt32) &&& (255 : Int32))) 1 3) + (1 : Int32)))

set_option maxRecDepth 20000 in
set_option maxHeartbeats 4000000 in
theorem ct_X7_put (Γ : pn_G) (a1 : Int32) (σ : pn_S) : ∀ r, fX7_put a1 σ = some r → pn_C Γ 1 mX7_put [.ref 1, .int a1] σ (pn_v r) := by
  refine pn_of (ls := [.ref 1, .int a1, .null]) (by decide) rfl (pn_cat rfl) rfl (Nat.le_of_ble_eq_true rfl) ?_
  rw [fX7_put]
  refine pn_bipush dX7_put_0 rfl bc_24 ?_
  refine pn_istore_n (ls' := [.ref 1, .int a1, .int (24 : Int32)]) dX7_put_2 rfl rfl (Nat.le_of_ble_eq_true rfl) rfl ?_
  exact wX7_put_3 Γ 5000 a1 (24 : Int32) σ

set_option maxRecDepth 20000 in
set_option maxHeartbeats 4000000 in
theorem ct_X10_feed (Γ : pn_G) (a1 : Int32) (a2 : Int32) (a3 : Int32) (a4 : Int32) (a5 : Int32) (σ : pn_S) : ∀ r, fX10_feed a1 a2 a3 a4 a5 σ = some r → pn_C Γ 2 mX10_feed [.ref 0, .int a1, .int a2, .int a3, .int a4, .int a5] σ (pn_i r) := by
  refine pn_of (ls := [.ref 0, .int a1, .int a2, .int a3, .int a4, .int a5]) (by decide) rfl (pn_cat rfl) rfl (Nat.le_of_ble_eq_true rfl) ?_
  rw [fX10_feed]
  refine pn_aload_n dX10_feed_0 rfl rfl rfl ?_
  refine pn_geta dX10_feed_1 rfl lf_X10_12_9 qt_0 qk_0 qr_0_0 qt_1 ?_
  refine pn_bipush dX10_feed_4 rfl bc_20 ?_
  refine pn_cp (fun r9 h9 => pn_LKV dX10_feed_6 lm_X10_100 (ct_X7_hasRoom Γ (20 : Int32) σ r9 h9) (by decide) qt_1 qk_1 rfl rfl (Nat.le_of_ble_eq_true rfl)) rfl (fun x1 => ?_)
  refine pn_if_ne (tgt := 14) dX10_feed_9 rfl rfl (fun c2 => ?_) (fun c2 => ?_)
  · refine pn_iconst dX10_feed_12 rfl ic_m1 ?_
    exact pn_iretv dX10_feed_13 rfl rfl rfl
  · refine pn_aload_n dX10_feed_14 rfl rfl rfl ?_
    refine pn_geta dX10_feed_15 rfl lf_X10_12_9 qt_0 qk_0 qr_0_0 qt_1 ?_
    refine pn_iload_n dX10_feed_18 rfl rfl rfl ?_
    refine pn_cv (fun r9 h9 => pn_LKV dX10_feed_19 lm_X10_104 (ct_X7_put Γ a1 σ r9 h9) (by decide) qt_1 qk_1 rfl rfl (Nat.le_of_ble_eq_true rfl)) rfl (fun σ3 => ?_)
    refine pn_aload_n dX10_feed_22 rfl rfl rfl ?_
    refine pn_geta dX10_feed_23 rfl lf_X10_12_9 qt_0 qk_0 qr_0_0 qt_1 ?_
    refine pn_iload_n dX10_feed_26 rfl rfl rfl ?_
    refine pn_cv (fun r9 h9 => pn_LKV dX10_feed_27 lm_X10_104 (ct_X7_put Γ a2 σ3 r9 h9) (by decide) qt_1 qk_1 rfl rfl (Nat.le_of_ble_eq_true rfl)) rfl (fun σ4 => ?_)
    refine pn_aload_n dX10_feed_30 rfl rfl rfl ?_
    refine pn_geta dX10_feed_31 rfl lf_X10_12_9 qt_0 qk_0 qr_0_0 qt_1 ?_
    refine pn_iload_n dX10_feed_34 rfl rfl rfl ?_
    refine pn_cv (fun r9 h9 => pn_LKV dX10_feed_35 lm_X10_104 (ct_X7_put Γ a3 σ4 r9 h9) (by decide) qt_1 qk_1 rfl rfl (Nat.le_of_ble_eq_true rfl)) rfl (fun σ5 => ?_)
    refine pn_aload_n dX10_feed_38 rfl rfl rfl ?_
    refine pn_geta dX10_feed_39 rfl lf_X10_12_9 qt_0 qk_0 qr_0_0 qt_1 ?_
    refine pn_iload dX10_feed_42 rfl rfl ?_
    refine pn_cv (fun r9 h9 => pn_LKV dX10_feed_44 lm_X10_104 (ct_X7_put Γ a4 σ5 r9 h9) (by decide) qt_1 qk_1 rfl rfl (Nat.le_of_ble_eq_true rfl)) rfl (fun σ6 => ?_)
    refine pn_aload_n dX10_feed_47 rfl rfl rfl ?_
    refine pn_geta dX10_feed_48 rfl lf_X10_12_9 qt_0 qk_0 qr_0_0 qt_1 ?_
    refine pn_iload dX10_feed_51 rfl rfl ?_
    refine pn_cv (fun r9 h9 => pn_LKV dX10_feed_53 lm_X10_104 (ct_X7_put Γ a5 σ6 r9 h9) (by decide) qt_1 qk_1 rfl rfl (Nat.le_of_ble_eq_true rfl)) rfl (fun σ7 => ?_)
    refine pn_aload_n dX10_feed_56 rfl rfl rfl ?_
    refine pn_geta dX10_feed_57 rfl lf_X10_12_9 qt_0 qk_0 qr_0_0 qt_1 ?_
    refine pn_geti dX10_feed_60 rfl lf_X10_108_6 qt_1 qk_1 qr_1_3 ?_
    exact pn_iretv dX10_feed_63 rfl rfl rfl

set_option maxRecDepth 20000 in
set_option maxHeartbeats 4000000 in
theorem ct_X10_end (Γ : pn_G) (a1 : Int32) (σ : pn_S) : ∀ r, fX10_end a1 σ = some r → pn_C Γ 1 mX10_end [.ref 0, .int a1] σ (pn_i r) := by
  refine pn_of (ls := [.ref 0, .int a1]) (by decide) rfl (pn_cat rfl) rfl (Nat.le_of_ble_eq_true rfl) ?_
  rw [fX10_end]
  refine pn_iload_n dX10_end_0 rfl rfl rfl ?_
  refine pn_if_lt (tgt := 15) dX10_end_1 rfl rfl (fun c1 => ?_) (fun c1 => ?_)
  · refine pn_iconst dX10_end_15 rfl ic_0 ?_
    exact pn_iretv dX10_end_16 rfl rfl rfl
  · refine pn_iload_n dX10_end_4 rfl rfl rfl ?_
    refine pn_aload_n dX10_end_5 rfl rfl rfl ?_
    refine pn_geta dX10_end_6 rfl lf_X10_12_9 qt_0 qk_0 qr_0_0 qt_1 ?_
    refine pn_geti dX10_end_9 rfl lf_X10_108_6 qt_1 qk_1 qr_1_3 ?_
    refine pn_icmp_le (tgt := 17) dX10_end_12 rfl rfl (fun c2 => ?_) (fun c2 => ?_)
    · refine pn_aload_n dX10_end_17 rfl rfl rfl ?_
      refine pn_geta dX10_end_18 rfl lf_X10_12_9 qt_0 qk_0 qr_0_0 qt_1 ?_
      refine pn_iload_n dX10_end_21 rfl rfl rfl ?_
      refine pn_puti dX10_end_22 rfl lf_X10_108_6 (fpi_6_3 a1) qt_1 qk_1 qr_1_3 ?_
      refine pn_iconst dX10_end_25 rfl ic_1 ?_
      exact pn_iretv dX10_end_26 rfl rfl rfl
    · refine pn_iconst dX10_end_15 rfl ic_0 ?_
      exact pn_iretv dX10_end_16 rfl rfl rfl

set_option maxRecDepth 20000 in
set_option maxHeartbeats 4000000 in
theorem ct_X7_useUp (Γ : pn_G)  (σ : pn_S) : ∀ r, fX7_useUp  σ = some r → pn_C Γ 1 mX7_useUp [.ref 1] σ (pn_v r) := by
  refine pn_of (ls := [.ref 1]) (by decide) rfl (pn_cat rfl) rfl (Nat.le_of_ble_eq_true rfl) ?_
  rw [fX7_useUp]
  refine pn_aload_n dX7_useUp_0 rfl rfl rfl ?_
  refine pn_aload_n dX7_useUp_1 rfl rfl rfl ?_
  refine pn_geti dX7_useUp_2 rfl lf_X7_21_6 qt_1 qk_1 qr_1_3 ?_
  refine pn_puti dX7_useUp_5 rfl lf_X7_25_6 (fpi_6_4 (σ 1 3)) qt_1 qk_1 qr_1_4 ?_
  refine pn_aload_n dX7_useUp_8 rfl rfl rfl ?_
  refine pn_iconst dX7_useUp_9 rfl ic_0 ?_
  refine pn_puti dX7_useUp_10 rfl lf_X7_21_6 (fpi_6_3 (0 : Int32)) qt_1 qk_1 qr_1_3 ?_
  exact pn_vretv dX7_useUp_13 rfl rfl

set_option maxRecDepth 20000 in
set_option maxHeartbeats 4000000 in
theorem ct_X7_byteAt (Γ : pn_G) (a1 : Int32) (σ : pn_S) : ∀ r, fX7_byteAt a1 σ = some r → pn_C Γ 1 mX7_byteAt [.ref 1, .int a1] σ ((pn_p σ) r) := by
  refine pn_of (ls := [.ref 1, .int a1]) (by decide) rfl (pn_cat rfl) rfl (Nat.le_of_ble_eq_true rfl) ?_
  rw [fX7_byteAt]
  refine pn_iload_n dX7_byteAt_0 rfl rfl rfl ?_
  refine pn_if_lt (tgt := 28) dX7_byteAt_1 rfl rfl (fun c1 => ?_) (fun c1 => ?_)
  · refine pn_iconst dX7_byteAt_28 rfl ic_m1 ?_
    exact pn_iretv dX7_byteAt_29 rfl rfl rfl
  · refine pn_iload_n dX7_byteAt_4 rfl rfl rfl ?_
    refine pn_aload_n dX7_byteAt_5 rfl rfl rfl ?_
    refine pn_geti dX7_byteAt_6 rfl lf_X7_25_6 qt_1 qk_1 qr_1_4 ?_
    refine pn_icmp_ge (tgt := 28) dX7_byteAt_9 rfl rfl (fun c2 => ?_) (fun c2 => ?_)
    · refine pn_iconst dX7_byteAt_28 rfl ic_m1 ?_
      exact pn_iretv dX7_byteAt_29 rfl rfl rfl
    · refine pn_iload_n dX7_byteAt_12 rfl rfl rfl ?_
      refine pn_sipush dX7_byteAt_13 rfl sc_400 ?_
      refine pn_icmp_ge (tgt := 28) dX7_byteAt_16 rfl rfl (fun c3 => ?_) (fun c3 => ?_)
      · refine pn_iconst dX7_byteAt_28 rfl ic_m1 ?_
        exact pn_iretv dX7_byteAt_29 rfl rfl rfl
      · refine pn_aload_n dX7_byteAt_19 rfl rfl rfl ?_
        refine pn_geta dX7_byteAt_20 rfl lf_X7_9_6 qt_1 qk_1 qr_1_0 qt_2 ?_
        refine pn_iload_n dX7_byteAt_23 rfl rfl rfl ?_
        refine pn_iald dX7_byteAt_24 rfl qt_2 qk_2 ql_2 ?_
        refine pn_goto (pc' := 29) dX7_byteAt_25 rfl ?_
        exact pn_iretv dX7_byteAt_29 rfl rfl rfl

set_option maxRecDepth 20000 in
set_option maxHeartbeats 4000000 in
theorem ct_X7_isLetter (Γ : pn_G) (a0 : Int32) (σ : pn_S) : ∀ r, fX7_isLetter a0 σ = some r → pn_C Γ 1 mX7_isLetter [.int a0] σ ((pn_p σ) r) := by
  refine pn_of (ls := [.int a0]) (by decide) rfl (pn_cat rfl) rfl (Nat.le_of_ble_eq_true rfl) ?_
  rw [fX7_isLetter]
  refine pn_iload_n dX7_isLetter_0 rfl rfl rfl ?_
  refine pn_bipush dX7_isLetter_1 rfl bc_97 ?_
  refine pn_icmp_lt (tgt := 16) dX7_isLetter_3 rfl rfl (fun c1 => ?_) (fun c1 => ?_)
  · refine pn_iconst dX7_isLetter_16 rfl ic_0 ?_
    exact pn_iretv dX7_isLetter_17 rfl rfl rfl
  · refine pn_iload_n dX7_isLetter_6 rfl rfl rfl ?_
    refine pn_bipush dX7_isLetter_7 rfl bc_122 ?_
    refine pn_icmp_gt (tgt := 16) dX7_isLetter_9 rfl rfl (fun c2 => ?_) (fun c2 => ?_)
    · refine pn_iconst dX7_isLetter_16 rfl ic_0 ?_
      exact pn_iretv dX7_isLetter_17 rfl rfl rfl
    · refine pn_iconst dX7_isLetter_12 rfl ic_1 ?_
      refine pn_goto (pc' := 17) dX7_isLetter_13 rfl ?_
      exact pn_iretv dX7_isLetter_17 rfl rfl rfl

set_option maxRecDepth 20000 in
set_option maxHeartbeats 4000000 in
theorem ct_X7_isDigit (Γ : pn_G) (a0 : Int32) (σ : pn_S) : ∀ r, fX7_isDigit a0 σ = some r → pn_C Γ 1 mX7_isDigit [.int a0] σ ((pn_p σ) r) := by
  refine pn_of (ls := [.int a0]) (by decide) rfl (pn_cat rfl) rfl (Nat.le_of_ble_eq_true rfl) ?_
  rw [fX7_isDigit]
  refine pn_iload_n dX7_isDigit_0 rfl rfl rfl ?_
  refine pn_bipush dX7_isDigit_1 rfl bc_48 ?_
  refine pn_icmp_lt (tgt := 16) dX7_isDigit_3 rfl rfl (fun c1 => ?_) (fun c1 => ?_)
  · refine pn_iconst dX7_isDigit_16 rfl ic_0 ?_
    exact pn_iretv dX7_isDigit_17 rfl rfl rfl
  · refine pn_iload_n dX7_isDigit_6 rfl rfl rfl ?_
    refine pn_bipush dX7_isDigit_7 rfl bc_57 ?_
    refine pn_icmp_gt (tgt := 16) dX7_isDigit_9 rfl rfl (fun c2 => ?_) (fun c2 => ?_)
    · refine pn_iconst dX7_isDigit_16 rfl ic_0 ?_
      exact pn_iretv dX7_isDigit_17 rfl rfl rfl
    · refine pn_iconst dX7_isDigit_12 rfl ic_1 ?_
      refine pn_goto (pc' := 17) dX7_isDigit_13 rfl ?_
      exact pn_iretv dX7_isDigit_17 rfl rfl rfl

set_option maxRecDepth 20000 in
set_option maxHeartbeats 4000000 in
theorem wX7_endOfRun_11 (Γ : pn_G)  (σ : pn_S) : ∀ (n9 : Nat) (l2 : Int32) (l3 : Int32), pn_W9 Γ 2 mX7_endOfRun (pn_p σ) 11 [.ref 1, .null, .int l2, .int l3] [] σ (fX7_endOfRun_11 n9 l2 l3 σ) := by
  intro n9
  induction n9 with
  | zero => intro l2 l3; exact pn_none
  | succ n9 ih =>
    intro l2 l3
    rw [fX7_endOfRun_11]
    refine pn_iload_n dX7_endOfRun_11 rfl rfl rfl ?_
    refine pn_aload_n dX7_endOfRun_12 rfl rfl rfl ?_
    refine pn_geti dX7_endOfRun_13 rfl lf_X7_25_6 qt_1 qk_1 qr_1_4 ?_
    refine pn_icmp_ge (tgt := 54) dX7_endOfRun_16 rfl rfl (fun c3 => ?_) (fun c3 => ?_)
    · refine pn_iload_n dX7_endOfRun_54 rfl rfl rfl ?_
      exact pn_iretv dX7_endOfRun_55 rfl rfl rfl
    · refine pn_iload_n dX7_endOfRun_19 rfl rfl rfl ?_
      refine pn_if_eq (tgt := 37) dX7_endOfRun_20 rfl rfl (fun c4 => ?_) (fun c4 => ?_)
      · refine pn_aload_n dX7_endOfRun_37 rfl rfl rfl ?_
        refine pn_iload_n dX7_endOfRun_38 rfl rfl rfl ?_
        refine pn_cp (fun r9 h9 => pn_LKV dX7_endOfRun_39 lm_X7_47 (ct_X7_byteAt Γ l3 σ r9 h9) (by decide) qt_1 qk_1 rfl rfl (Nat.le_of_ble_eq_true rfl)) rfl (fun x5 => ?_)
        refine pn_cp (fun r9 h9 => pn_LKS dX7_endOfRun_42 lm_X7_75 (ct_X7_isDigit Γ x5 σ r9 h9) (by decide) rfl rfl (Nat.le_of_ble_eq_true rfl)) rfl (fun x6 => ?_)
        refine pn_if_eq (tgt := 54) dX7_endOfRun_45 rfl rfl (fun c7 => ?_) (fun c7 => ?_)
        · refine pn_iload_n dX7_endOfRun_54 rfl rfl rfl ?_
          exact pn_iretv dX7_endOfRun_55 rfl rfl rfl
        · refine pn_iinc (ls' := [.ref 1, .null, .int l2, .int (l3 + (1 : Int32))]) dX7_endOfRun_48 rfl (Nat.le_of_ble_eq_true rfl) rfl (congrArg (fun z => l3 + z) ic_1) rfl ?_
          refine pn_goto (pc' := 11) dX7_endOfRun_51 rfl ?_
          exact ih l2 (l3 + (1 : Int32))
      · refine pn_aload_n dX7_endOfRun_23 rfl rfl rfl ?_
        refine pn_iload_n dX7_endOfRun_24 rfl rfl rfl ?_
        refine pn_cp (fun r9 h9 => pn_LKV dX7_endOfRun_25 lm_X7_47 (ct_X7_byteAt Γ l3 σ r9 h9) (by decide) qt_1 qk_1 rfl rfl (Nat.le_of_ble_eq_true rfl)) rfl (fun x8 => ?_)
        refine pn_cp (fun r9 h9 => pn_LKS dX7_endOfRun_28 lm_X7_72 (ct_X7_isLetter Γ x8 σ r9 h9) (by decide) rfl rfl (Nat.le_of_ble_eq_true rfl)) rfl (fun x9 => ?_)
        refine pn_if_eq (tgt := 54) dX7_endOfRun_31 rfl rfl (fun c10 => ?_) (fun c10 => ?_)
        · refine pn_iload_n dX7_endOfRun_54 rfl rfl rfl ?_
          exact pn_iretv dX7_endOfRun_55 rfl rfl rfl
        · refine pn_goto (pc' := 48) dX7_endOfRun_34 rfl ?_
          refine pn_iinc (ls' := [.ref 1, .null, .int l2, .int (l3 + (1 : Int32))]) dX7_endOfRun_48 rfl (Nat.le_of_ble_eq_true rfl) rfl (congrArg (fun z => l3 + z) ic_1) rfl ?_
          refine pn_goto (pc' := 11) dX7_endOfRun_51 rfl ?_
          exact ih l2 (l3 + (1 : Int32))

set_option maxRecDepth 20000 in
set_option maxHeartbeats 4000000 in
theorem ct_X7_endOfRun (Γ : pn_G) (a1 : Int32) (σ : pn_S) : ∀ r, fX7_endOfRun a1 σ = some r → pn_C Γ 2 mX7_endOfRun [.ref 1, .int a1] σ ((pn_p σ) r) := by
  refine pn_of (ls := [.ref 1, .int a1, .null, .null]) (by decide) rfl (pn_cat rfl) rfl (Nat.le_of_ble_eq_true rfl) ?_
  rw [fX7_endOfRun]
  refine pn_aload_n dX7_endOfRun_0 rfl rfl rfl ?_
  refine pn_iload_n dX7_endOfRun_1 rfl rfl rfl ?_
  refine pn_cp (fun r9 h9 => pn_LKV dX7_endOfRun_2 lm_X7_47 (ct_X7_byteAt Γ a1 σ r9 h9) (by decide) qt_1 qk_1 rfl rfl (Nat.le_of_ble_eq_true rfl)) rfl (fun x1 => ?_)
  refine pn_cp (fun r9 h9 => pn_LKS dX7_endOfRun_5 lm_X7_72 (ct_X7_isLetter Γ x1 σ r9 h9) (by decide) rfl rfl (Nat.le_of_ble_eq_true rfl)) rfl (fun x2 => ?_)
  refine pn_istore_n (ls' := [.ref 1, .int a1, .int x2, .null]) dX7_endOfRun_8 rfl rfl (Nat.le_of_ble_eq_true rfl) rfl ?_
  refine pn_iload_n dX7_endOfRun_9 rfl rfl rfl ?_
  refine pn_istore_n (ls' := [.ref 1, .int a1, .int x2, .int a1]) dX7_endOfRun_10 rfl rfl (Nat.le_of_ble_eq_true rfl) rfl ?_
  exact pn_wk (pn_leC rfl (pn_leN (pn_leC rfl (pn_leC rfl pn_le0)))) (wX7_endOfRun_11 Γ σ 5000 x2 a1)

set_option maxRecDepth 20000 in
set_option maxHeartbeats 4000000 in
theorem ct_J9_max_7cf53 (Γ : pn_G) (a0 : Int32) (a1 : Int32) (σ : pn_S) : ∀ r, fJ9_max_7cf53 a0 a1 σ = some r → pn_C Γ 1 mJ9_max_7cf53 [.int a0, .int a1] σ ((pn_p σ) r) := by
  refine pn_ofF (ls := [.int a0, .int a1]) (by decide +kernel) rfl (pn_cat rfl) rfl (Nat.le_of_ble_eq_true rfl) ?_
  rw [fJ9_max_7cf53]
  refine pn_iload_n dJ9_max_7cf53_0 rfl rfl rfl ?_
  refine pn_iload_n dJ9_max_7cf53_1 rfl rfl rfl ?_
  refine pn_icmp_lt (tgt := 9) dJ9_max_7cf53_2 rfl rfl (fun c1 => ?_) (fun c1 => ?_)
  · refine pn_iload_n dJ9_max_7cf53_9 rfl rfl rfl ?_
    exact pn_iretv dJ9_max_7cf53_10 rfl rfl rfl
  · refine pn_iload_n dJ9_max_7cf53_5 rfl rfl rfl ?_
    refine pn_goto (pc' := 10) dJ9_max_7cf53_6 rfl ?_
    exact pn_iretv dJ9_max_7cf53_10 rfl rfl rfl

set_option maxRecDepth 20000 in
set_option maxHeartbeats 4000000 in
theorem ct_J0_coder_7d493 (Γ : pn_G) (j0 : Nat) (hj0 : j0 < 28) (σ : pn_S) : ∀ r, fJ0_coder_7d493 j0 σ = some r → pn_C Γ 1 mJ0_coder_7d493 [.ref (6000 + j0)] σ ((pn_p σ) r) := by
  refine pn_of (ls := [.ref (6000 + j0)]) (by decide) rfl (pn_cat rfl) rfl (Nat.le_of_ble_eq_true rfl) ?_
  rw [fJ0_coder_7d493]
  refine pn_cs dJ0_coder_7d493_0 rfl lcs_J0_38 ?_
  refine pn_if_eq (tgt := 13) dJ0_coder_7d493_3 rfl rfl (fun c1 => ?_) (fun c1 => ?_)
  · refine pn_iconst dJ0_coder_7d493_13 rfl ic_1 ?_
    exact pn_iretv dJ0_coder_7d493_14 rfl rfl rfl
  · refine pn_aload_n dJ0_coder_7d493_6 rfl rfl rfl ?_
    refine pn_strc (j := j0) dJ0_coder_7d493_7 rfl lsv_J0_15 hj0 ?_
    refine pn_goto (pc' := 14) dJ0_coder_7d493_10 rfl ?_
    exact pn_iretv dJ0_coder_7d493_14 rfl rfl rfl

set_option maxRecDepth 20000 in
set_option maxHeartbeats 4000000 in
theorem ct_J0_length_8abf5 (Γ : pn_G) (j0 : Nat) (hj0 : j0 < 28) (σ : pn_S) : ∀ r, fJ0_length_8abf5 j0 σ = some r → pn_C Γ 2 mJ0_length_8abf5 [.ref (6000 + j0)] σ ((pn_p σ) r) := by
  refine pn_of (ls := [.ref (6000 + j0)]) (by decide) rfl (pn_cat rfl) rfl (Nat.le_of_ble_eq_true rfl) ?_
  rw [fJ0_length_8abf5]
  refine pn_aload_n dJ0_length_8abf5_0 rfl rfl rfl ?_
  refine pn_strv (j := j0) dJ0_length_8abf5_1 rfl lsv_J0_9 hj0 ?_
  refine pn_strl (j := j0) dJ0_length_8abf5_4 rfl hj0 ?_
  refine pn_aload_n dJ0_length_8abf5_5 rfl rfl rfl ?_
  refine pn_cp (fun r9 h9 => pn_LKT dJ0_length_8abf5_6 lm_J0_335 (ct_J0_coder_7d493 Γ j0 hj0 σ r9 h9) (by decide) hj0 rfl rfl (Nat.le_of_ble_eq_true rfl)) rfl (fun x1 => ?_)
  refine pn_ishr dJ0_length_8abf5_9 rfl ?_
  exact pn_iretv dJ0_length_8abf5_10 rfl rfl rfl

set_option maxRecDepth 20000 in
set_option maxHeartbeats 4000000 in
theorem ct_J0_isLatin1_aae02 (Γ : pn_G) (j0 : Nat) (hj0 : j0 < 28) (σ : pn_S) : ∀ r, fJ0_isLatin1_aae02 j0 σ = some r → pn_C Γ 1 mJ0_isLatin1_aae02 [.ref (6000 + j0)] σ ((pn_p σ) r) := by
  refine pn_of (ls := [.ref (6000 + j0)]) (by decide) rfl (pn_cat rfl) rfl (Nat.le_of_ble_eq_true rfl) ?_
  rw [fJ0_isLatin1_aae02]
  refine pn_cs dJ0_isLatin1_aae02_0 rfl lcs_J0_38 ?_
  refine pn_if_eq (tgt := 17) dJ0_isLatin1_aae02_3 rfl rfl (fun c1 => ?_) (fun c1 => ?_)
  · refine pn_iconst dJ0_isLatin1_aae02_17 rfl ic_0 ?_
    exact pn_iretv dJ0_isLatin1_aae02_18 rfl rfl rfl
  · refine pn_aload_n dJ0_isLatin1_aae02_6 rfl rfl rfl ?_
    refine pn_strc (j := j0) dJ0_isLatin1_aae02_7 rfl lsv_J0_15 hj0 ?_
    refine pn_if_ne (tgt := 17) dJ0_isLatin1_aae02_10 rfl rfl (fun c2 => ?_) (fun c2 => ?_)
    · refine pn_iconst dJ0_isLatin1_aae02_13 rfl ic_1 ?_
      refine pn_goto (pc' := 18) dJ0_isLatin1_aae02_14 rfl ?_
      exact pn_iretv dJ0_isLatin1_aae02_18 rfl rfl rfl
    · refine pn_iconst dJ0_isLatin1_aae02_17 rfl ic_0 ?_
      exact pn_iretv dJ0_isLatin1_aae02_18 rfl rfl rfl

set_option maxRecDepth 20000 in
set_option maxHeartbeats 4000000 in
theorem ct_J3_checkIndex_8e157 (Γ : pn_G) (a0 : Int32) (a1 : Int32) (σ : pn_S) : ∀ r, fJ3_checkIndex_8e157 a0 a1 σ = some r → pn_C Γ 1 mJ3_checkIndex_8e157 [.int a0, .int a1, .float 0] σ ((pn_p σ) r) := by
  refine pn_of (ls := [.int a0, .int a1, .float 0]) (by decide) rfl (pn_cat rfl) rfl (Nat.le_of_ble_eq_true rfl) ?_
  rw [fJ3_checkIndex_8e157]
  refine pn_iload_n dJ3_checkIndex_8e157_0 rfl rfl rfl ?_
  refine pn_if_lt (tgt := 9) dJ3_checkIndex_8e157_1 rfl rfl (fun c1 => ?_) (fun c1 => ?_)
  · exact pn_none
  · refine pn_iload_n dJ3_checkIndex_8e157_4 rfl rfl rfl ?_
    refine pn_iload_n dJ3_checkIndex_8e157_5 rfl rfl rfl ?_
    refine pn_icmp_lt (tgt := 16) dJ3_checkIndex_8e157_6 rfl rfl (fun c2 => ?_) (fun c2 => ?_)
    · refine pn_iload_n dJ3_checkIndex_8e157_16 rfl rfl rfl ?_
      exact pn_iretv dJ3_checkIndex_8e157_17 rfl rfl rfl
    · exact pn_none

set_option maxRecDepth 20000 in
set_option maxHeartbeats 4000000 in
theorem ct_J0_checkIndex_df160 (Γ : pn_G) (a0 : Int32) (a1 : Int32) (σ : pn_S) : ∀ r, fJ0_checkIndex_df160 a0 a1 σ = some r → pn_C Γ 2 mJ0_checkIndex_df160 [.int a0, .int a1] σ ((pn_pv σ) r) := by
  refine pn_of (ls := [.int a0, .int a1]) (by decide) rfl (pn_cat rfl) rfl (Nat.le_of_ble_eq_true rfl) ?_
  rw [fJ0_checkIndex_df160]
  refine pn_iload_n dJ0_checkIndex_df160_0 rfl rfl rfl ?_
  refine pn_iload_n dJ0_checkIndex_df160_1 rfl rfl rfl ?_
  refine pn_gsf dJ0_checkIndex_df160_2 rfl lcs_J0_1053 ?_
  refine pn_cp (fun r9 h9 => pn_LKS dJ0_checkIndex_df160_5 lm_J0_1059 (ct_J3_checkIndex_8e157 Γ a0 a1 σ r9 h9) (by decide) rfl rfl (Nat.le_of_ble_eq_true rfl)) rfl (fun x1 => ?_)
  refine pn_popi dJ0_checkIndex_df160_8 rfl ?_
  exact pn_vretv dJ0_checkIndex_df160_9 rfl rfl

set_option maxRecDepth 20000 in
set_option maxHeartbeats 4000000 in
theorem ct_J1_charAt_3b067 (Γ : pn_G) (j0 : Nat) (hj0 : j0 < 28) (a1 : Int32) (σ : pn_S) : ∀ r, fJ1_charAt_3b067 j0 a1 σ = some r → pn_C Γ 3 mJ1_charAt_3b067 [.ref (7000 + j0), .int a1] σ ((pn_p σ) r) := by
  refine pn_of (ls := [.ref (7000 + j0), .int a1]) (by decide) rfl (pn_cat rfl) rfl (Nat.le_of_ble_eq_true rfl) ?_
  rw [fJ1_charAt_3b067]
  refine pn_iload_n dJ1_charAt_3b067_0 rfl rfl rfl ?_
  refine pn_aload_n dJ1_charAt_3b067_1 rfl rfl rfl ?_
  refine pn_strl (j := j0) dJ1_charAt_3b067_2 rfl hj0 ?_
  refine pn_cpv (fun r9 h9 => pn_LKS dJ1_charAt_3b067_3 lm_J1_9 (ct_J0_checkIndex_df160 Γ a1 (Int32.ofNat (pn_sl.getD j0 0)) σ r9 h9) (by decide) rfl rfl (Nat.le_of_ble_eq_true rfl)) rfl ?_
  refine pn_aload_n dJ1_charAt_3b067_6 rfl rfl rfl ?_
  refine pn_iload_n dJ1_charAt_3b067_7 rfl rfl rfl ?_
  refine pn_strb (j := j0) dJ1_charAt_3b067_8 rfl hj0 ?_
  refine pn_sipush dJ1_charAt_3b067_9 rfl sc_255 ?_
  refine pn_iand dJ1_charAt_3b067_12 rfl ?_
  refine pn_i2c dJ1_charAt_3b067_13 rfl ?_
  exact pn_iretv dJ1_charAt_3b067_14 rfl (pk_nc _) rfl

set_option maxRecDepth 20000 in
set_option maxHeartbeats 4000000 in
theorem ct_J0_charAt_5068e (Γ : pn_G) (j0 : Nat) (hj0 : j0 < 28) (a1 : Int32) (σ : pn_S) : ∀ r, fJ0_charAt_5068e j0 a1 σ = some r → pn_C Γ 5 mJ0_charAt_5068e [.ref (6000 + j0), .int a1] σ ((pn_p σ) r) := by
  refine pn_of (ls := [.ref (6000 + j0), .int a1]) (by decide) rfl (pn_cat rfl) rfl (Nat.le_of_ble_eq_true rfl) ?_
  rw [fJ0_charAt_5068e]
  refine pn_aload_n dJ0_charAt_5068e_0 rfl rfl rfl ?_
  refine pn_cp (fun r9 h9 => pn_LKT dJ0_charAt_5068e_1 lm_J0_492 (ct_J0_isLatin1_aae02 Γ j0 hj0 σ r9 h9) (by decide) hj0 rfl rfl (Nat.le_of_ble_eq_true rfl)) rfl (fun x1 => ?_)
  refine pn_if_eq (tgt := 16) dJ0_charAt_5068e_4 rfl rfl (fun c2 => ?_) (fun c2 => ?_)
  · exact pn_none
  · refine pn_aload_n dJ0_charAt_5068e_7 rfl rfl rfl ?_
    refine pn_strv (j := j0) dJ0_charAt_5068e_8 rfl lsv_J0_9 hj0 ?_
    refine pn_iload_n dJ0_charAt_5068e_11 rfl rfl rfl ?_
    refine pn_cp (fun r9 h9 => pn_LKS dJ0_charAt_5068e_12 lm_J0_495 (ct_J1_charAt_3b067 Γ j0 hj0 a1 σ r9 h9) (by decide) rfl rfl (Nat.le_of_ble_eq_true rfl)) rfl (fun x3 => ?_)
    exact pn_iretc dJ0_charAt_5068e_15 rfl rfl

set_option maxRecDepth 20000 in
set_option maxHeartbeats 4000000 in
theorem wX7_wordOf_85 (Γ : pn_G)  (σ : pn_S) (rec10 : Int32 → Int32 → Int32 → Int32 → Int32 → pn_S → Option (Int32)) (hrec10 : ∀ (l1 : Int32) (l2 : Int32) (l3 : Int32) (l4 : Int32) (l5 : Int32), pn_W9 Γ 6 mX7_wordOf (pn_p σ) 10 [.ref 1, .int l1, .int l2, .int l3, .int l4, .int l5, .null] [] σ (rec10 l1 l2 l3 l4 l5 σ)) (l1 : Int32) (l2 : Int32) (l3 : Int32) (l5 : Int32) : pn_W9 Γ 6 mX7_wordOf (pn_p σ) 85 [.ref 1, .int l1, .int l2, .int l3, .null, .int l5, .null] [] σ (fX7_wordOf_85 rec10 l1 l2 l3 l5 σ) := by
  rw [fX7_wordOf_85]
  refine pn_iconst dX7_wordOf_85 rfl ic_m1 ?_
  refine pn_istore (ls' := [.ref 1, .int l1, .int l2, .int l3, .int (-1 : Int32), .int l5, .null]) dX7_wordOf_86 rfl (Nat.le_of_ble_eq_true rfl) rfl ?_
  refine pn_goto (pc' := 107) dX7_wordOf_88 rfl ?_
  refine pn_iinc (ls' := [.ref 1, .int l1, .int l2, .int l3, .int (-1 : Int32), .int (l5 + (1 : Int32)), .null]) dX7_wordOf_107 rfl (Nat.le_of_ble_eq_true rfl) rfl (congrArg (fun z => l5 + z) ic_1) rfl ?_
  refine pn_goto (pc' := 10) dX7_wordOf_110 rfl ?_
  exact hrec10 l1 l2 l3 (-1 : Int32) (l5 + (1 : Int32))

set_option maxRecDepth 20000 in
set_option maxHeartbeats 4000000 in
theorem wX7_wordOf_42 (Γ : pn_G)  (σ : pn_S) (rec10 : Int32 → Int32 → Int32 → Int32 → Int32 → pn_S → Option (Int32)) (hrec10 : ∀ (l1 : Int32) (l2 : Int32) (l3 : Int32) (l4 : Int32) (l5 : Int32), pn_W9 Γ 6 mX7_wordOf (pn_p σ) 10 [.ref 1, .int l1, .int l2, .int l3, .int l4, .int l5, .null] [] σ (rec10 l1 l2 l3 l4 l5 σ)) (l1 : Int32) (l2 : Int32) (l3 : Int32) (l4 : Int32) (l5 : Int32) (s0 : Int32) : pn_W9 Γ 6 mX7_wordOf (pn_p σ) 42 [.ref 1, .int l1, .int l2, .int l3, .int l4, .int l5, .null] [.int s0] σ (fX7_wordOf_42 rec10 l1 l2 l3 l4 l5 s0 σ) := by
  rw [fX7_wordOf_42]
  refine pn_istore (ls' := [.ref 1, .int l1, .int l2, .int l3, .int l4, .int l5, .int s0]) dX7_wordOf_42 rfl (Nat.le_of_ble_eq_true rfl) rfl ?_
  refine pn_iload dX7_wordOf_44 rfl rfl ?_
  refine pn_bipush dX7_wordOf_46 rfl bc_32 ?_
  refine pn_icmp_eq (tgt := 91) dX7_wordOf_48 rfl rfl (fun c5 => ?_) (fun c5 => ?_)
  · refine pn_iload dX7_wordOf_91 rfl rfl ?_
    refine pn_iload_n dX7_wordOf_93 rfl rfl rfl ?_
    refine pn_iload_n dX7_wordOf_94 rfl rfl rfl ?_
    refine pn_isub dX7_wordOf_95 rfl ?_
    refine pn_icmp_ne (tgt := 101) dX7_wordOf_96 rfl rfl (fun c6 => ?_) (fun c6 => ?_)
    · refine pn_iload_n dX7_wordOf_99 rfl rfl rfl ?_
      exact pn_iretv dX7_wordOf_100 rfl rfl rfl
    · refine pn_iinc (ls' := [.ref 1, .int l1, .int l2, .int (l3 + (1 : Int32)), .int l4, .int l5, .int s0]) dX7_wordOf_101 rfl (Nat.le_of_ble_eq_true rfl) rfl (congrArg (fun z => l3 + z) ic_1) rfl ?_
      refine pn_iconst dX7_wordOf_104 rfl ic_0 ?_
      refine pn_istore (ls' := [.ref 1, .int l1, .int l2, .int (l3 + (1 : Int32)), .int (0 : Int32), .int l5, .int s0]) dX7_wordOf_105 rfl (Nat.le_of_ble_eq_true rfl) rfl ?_
      refine pn_iinc (ls' := [.ref 1, .int l1, .int l2, .int (l3 + (1 : Int32)), .int (0 : Int32), .int (l5 + (1 : Int32)), .int s0]) dX7_wordOf_107 rfl (Nat.le_of_ble_eq_true rfl) rfl (congrArg (fun z => l5 + z) ic_1) rfl ?_
      refine pn_goto (pc' := 10) dX7_wordOf_110 rfl ?_
      exact pn_wk (pn_leC rfl (pn_leC rfl (pn_leC rfl (pn_leC rfl (pn_leC rfl (pn_leC rfl (pn_leN pn_le0))))))) (hrec10 l1 l2 (l3 + (1 : Int32)) (0 : Int32) (l5 + (1 : Int32)))
  · refine pn_iload dX7_wordOf_51 rfl rfl ?_
    refine pn_iconst dX7_wordOf_53 rfl ic_m1 ?_
    refine pn_icmp_eq (tgt := 85) dX7_wordOf_54 rfl rfl (fun c7 => ?_) (fun c7 => ?_)
    · exact pn_wk (pn_leC rfl (pn_leC rfl (pn_leC rfl (pn_leC rfl (pn_leN (pn_leC rfl (pn_leN pn_le0))))))) (wX7_wordOf_85 Γ σ (rec10) (hrec10) l1 l2 l3 l5)
    · refine pn_iload_n dX7_wordOf_57 rfl rfl rfl ?_
      refine pn_iload dX7_wordOf_58 rfl rfl ?_
      refine pn_iadd dX7_wordOf_60 rfl ?_
      refine pn_iload_n dX7_wordOf_61 rfl rfl rfl ?_
      refine pn_icmp_ge (tgt := 85) dX7_wordOf_62 rfl rfl (fun c8 => ?_) (fun c8 => ?_)
      · exact pn_wk (pn_leC rfl (pn_leC rfl (pn_leC rfl (pn_leC rfl (pn_leN (pn_leC rfl (pn_leN pn_le0))))))) (wX7_wordOf_85 Γ σ (rec10) (hrec10) l1 l2 l3 l5)
      · refine pn_aload_n dX7_wordOf_65 rfl rfl rfl ?_
        refine pn_iload_n dX7_wordOf_66 rfl rfl rfl ?_
        refine pn_iload dX7_wordOf_67 rfl rfl ?_
        refine pn_iadd dX7_wordOf_69 rfl ?_
        refine pn_cp (fun r9 h9 => pn_LKV dX7_wordOf_70 lm_X7_47 (ct_X7_byteAt Γ (l1 + l4) σ r9 h9) (by decide) qt_1 qk_1 rfl rfl (Nat.le_of_ble_eq_true rfl)) rfl (fun x9 => ?_)
        refine pn_iload dX7_wordOf_73 rfl rfl ?_
        refine pn_icmp_ne (tgt := 85) dX7_wordOf_75 rfl rfl (fun c10 => ?_) (fun c10 => ?_)
        · refine pn_iload dX7_wordOf_78 rfl rfl ?_
          refine pn_iconst dX7_wordOf_80 rfl ic_1 ?_
          refine pn_iadd dX7_wordOf_81 rfl ?_
          refine pn_goto (pc' := 86) dX7_wordOf_82 rfl ?_
          refine pn_istore (ls' := [.ref 1, .int l1, .int l2, .int l3, .int (l4 + (1 : Int32)), .int l5, .int s0]) dX7_wordOf_86 rfl (Nat.le_of_ble_eq_true rfl) rfl ?_
          refine pn_goto (pc' := 107) dX7_wordOf_88 rfl ?_
          refine pn_iinc (ls' := [.ref 1, .int l1, .int l2, .int l3, .int (l4 + (1 : Int32)), .int (l5 + (1 : Int32)), .int s0]) dX7_wordOf_107 rfl (Nat.le_of_ble_eq_true rfl) rfl (congrArg (fun z => l5 + z) ic_1) rfl ?_
          refine pn_goto (pc' := 10) dX7_wordOf_110 rfl ?_
          exact pn_wk (pn_leC rfl (pn_leC rfl (pn_leC rfl (pn_leC rfl (pn_leC rfl (pn_leC rfl (pn_leN pn_le0))))))) (hrec10 l1 l2 l3 (l4 + (1 : Int32)) (l5 + (1 : Int32)))
        · exact pn_wk (pn_leC rfl (pn_leC rfl (pn_leC rfl (pn_leC rfl (pn_leN (pn_leC rfl (pn_leN pn_le0))))))) (wX7_wordOf_85 Γ σ (rec10) (hrec10) l1 l2 l3 l5)

set_option maxRecDepth 20000 in
set_option maxHeartbeats 4000000 in
theorem wX7_wordOf_10 (Γ : pn_G)  (σ : pn_S) : ∀ (n9 : Nat) (l1 : Int32) (l2 : Int32) (l3 : Int32) (l4 : Int32) (l5 : Int32), pn_W9 Γ 6 mX7_wordOf (pn_p σ) 10 [.ref 1, .int l1, .int l2, .int l3, .int l4, .int l5, .null] [] σ (fX7_wordOf_10 n9 l1 l2 l3 l4 l5 σ) := by
  intro n9
  induction n9 with
  | zero => intro l1 l2 l3 l4 l5; exact pn_none
  | succ n9 ih =>
    intro l1 l2 l3 l4 l5
    rw [fX7_wordOf_10]
    refine pn_iload dX7_wordOf_10 rfl rfl ?_
    refine pn_ldcs (j := 0) dX7_wordOf_12 rfl rfl (by decide) ?_
    refine pn_cp (fun r9 h9 => pn_LKT dX7_wordOf_14 lm_X7_86 (ct_J0_length_8abf5 Γ 0 (by decide) σ r9 h9) (by decide) (by decide) rfl rfl (Nat.le_of_ble_eq_true rfl)) rfl (fun x1 => ?_)
    refine pn_icmp_gt (tgt := 113) dX7_wordOf_17 rfl rfl (fun c2 => ?_) (fun c2 => ?_)
    · refine pn_sipush dX7_wordOf_113 rfl sc_3000 ?_
      exact pn_iretv dX7_wordOf_116 rfl rfl rfl
    · refine pn_iload dX7_wordOf_20 rfl rfl ?_
      refine pn_ldcs (j := 0) dX7_wordOf_22 rfl rfl (by decide) ?_
      refine pn_cp (fun r9 h9 => pn_LKT dX7_wordOf_24 lm_X7_86 (ct_J0_length_8abf5 Γ 0 (by decide) σ r9 h9) (by decide) (by decide) rfl rfl (Nat.le_of_ble_eq_true rfl)) rfl (fun x3 => ?_)
      refine pn_icmp_ge (tgt := 40) dX7_wordOf_27 rfl rfl (fun c4 => ?_) (fun c4 => ?_)
      · refine pn_bipush dX7_wordOf_40 rfl bc_32 ?_
        exact wX7_wordOf_42 Γ σ (fX7_wordOf_10 n9) (ih) l1 l2 l3 l4 l5 (32 : Int32)
      · refine pn_ldcs (j := 0) dX7_wordOf_30 rfl rfl (by decide) ?_
        refine pn_iload dX7_wordOf_32 rfl rfl ?_
        refine pn_cp (fun r9 h9 => pn_LKT dX7_wordOf_34 lm_X7_90 (ct_J0_charAt_5068e Γ 0 (by decide) l5 σ r9 h9) (by decide) (by decide) rfl rfl (Nat.le_of_ble_eq_true rfl)) rfl (fun x11 => ?_)
        refine pn_goto (pc' := 42) dX7_wordOf_37 rfl ?_
        exact wX7_wordOf_42 Γ σ (fX7_wordOf_10 n9) (ih) l1 l2 l3 l4 l5 x11

set_option maxRecDepth 20000 in
set_option maxHeartbeats 4000000 in
theorem ct_X7_wordOf (Γ : pn_G) (a1 : Int32) (a2 : Int32) (σ : pn_S) : ∀ r, fX7_wordOf a1 a2 σ = some r → pn_C Γ 6 mX7_wordOf [.ref 1, .int a1, .int a2] σ ((pn_p σ) r) := by
  refine pn_of (ls := [.ref 1, .int a1, .int a2, .null, .null, .null, .null]) (by decide) rfl (pn_cat rfl) rfl (Nat.le_of_ble_eq_true rfl) ?_
  rw [fX7_wordOf]
  refine pn_sipush dX7_wordOf_0 rfl sc_1000 ?_
  refine pn_istore_n (ls' := [.ref 1, .int a1, .int a2, .int (1000 : Int32), .null, .null, .null]) dX7_wordOf_3 rfl rfl (Nat.le_of_ble_eq_true rfl) rfl ?_
  refine pn_iconst dX7_wordOf_4 rfl ic_0 ?_
  refine pn_istore (ls' := [.ref 1, .int a1, .int a2, .int (1000 : Int32), .int (0 : Int32), .null, .null]) dX7_wordOf_5 rfl (Nat.le_of_ble_eq_true rfl) rfl ?_
  refine pn_iconst dX7_wordOf_7 rfl ic_0 ?_
  refine pn_istore (ls' := [.ref 1, .int a1, .int a2, .int (1000 : Int32), .int (0 : Int32), .int (0 : Int32), .null]) dX7_wordOf_8 rfl (Nat.le_of_ble_eq_true rfl) rfl ?_
  exact wX7_wordOf_10 Γ σ 5000 a1 a2 (1000 : Int32) (0 : Int32) (0 : Int32)

set_option maxRecDepth 20000 in
set_option maxHeartbeats 4000000 in
theorem wX7_numberOf_16 (Γ : pn_G)  (σ : pn_S) : ∀ (n9 : Nat) (l2 : Int32) (l3 : Int32) (l4 : Int32), pn_W9 Γ 2 mX7_numberOf (pn_p σ) 16 [.ref 1, .null, .int l2, .int l3, .int l4] [] σ (fX7_numberOf_16 n9 l2 l3 l4 σ) := by
  intro n9
  induction n9 with
  | zero => intro l2 l3 l4; exact pn_none
  | succ n9 ih =>
    intro l2 l3 l4
    rw [fX7_numberOf_16]
    refine pn_iload dX7_numberOf_16 rfl rfl ?_
    refine pn_iload_n dX7_numberOf_18 rfl rfl rfl ?_
    refine pn_icmp_ge (tgt := 43) dX7_numberOf_19 rfl rfl (fun c2 => ?_) (fun c2 => ?_)
    · refine pn_iload_n dX7_numberOf_43 rfl rfl rfl ?_
      exact pn_iretv dX7_numberOf_44 rfl rfl rfl
    · refine pn_bipush dX7_numberOf_22 rfl bc_10 ?_
      refine pn_iload_n dX7_numberOf_24 rfl rfl rfl ?_
      refine pn_imul dX7_numberOf_25 rfl ?_
      refine pn_aload_n dX7_numberOf_26 rfl rfl rfl ?_
      refine pn_iload dX7_numberOf_27 rfl rfl ?_
      refine pn_cp (fun r9 h9 => pn_LKV dX7_numberOf_29 lm_X7_47 (ct_X7_byteAt Γ l4 σ r9 h9) (by decide) qt_1 qk_1 rfl rfl (Nat.le_of_ble_eq_true rfl)) rfl (fun x3 => ?_)
      refine pn_iadd dX7_numberOf_32 rfl ?_
      refine pn_bipush dX7_numberOf_33 rfl bc_48 ?_
      refine pn_isub dX7_numberOf_35 rfl ?_
      refine pn_istore_n (ls' := [.ref 1, .null, .int l2, .int ((((10 : Int32) * l3) + x3) - (48 : Int32)), .int l4]) dX7_numberOf_36 rfl rfl (Nat.le_of_ble_eq_true rfl) rfl ?_
      refine pn_iinc (ls' := [.ref 1, .null, .int l2, .int ((((10 : Int32) * l3) + x3) - (48 : Int32)), .int (l4 + (1 : Int32))]) dX7_numberOf_37 rfl (Nat.le_of_ble_eq_true rfl) rfl (congrArg (fun z => l4 + z) ic_1) rfl ?_
      refine pn_goto (pc' := 16) dX7_numberOf_40 rfl ?_
      exact ih l2 ((((10 : Int32) * l3) + x3) - (48 : Int32)) (l4 + (1 : Int32))

set_option maxRecDepth 20000 in
set_option maxHeartbeats 4000000 in
theorem ct_X7_numberOf (Γ : pn_G) (a1 : Int32) (a2 : Int32) (σ : pn_S) : ∀ r, fX7_numberOf a1 a2 σ = some r → pn_C Γ 2 mX7_numberOf [.ref 1, .int a1, .int a2] σ ((pn_p σ) r) := by
  refine pn_of (ls := [.ref 1, .int a1, .int a2, .null, .null]) (by decide) rfl (pn_cat rfl) rfl (Nat.le_of_ble_eq_true rfl) ?_
  rw [fX7_numberOf]
  refine pn_iload_n dX7_numberOf_0 rfl rfl rfl ?_
  refine pn_iload_n dX7_numberOf_1 rfl rfl rfl ?_
  refine pn_isub dX7_numberOf_2 rfl ?_
  refine pn_iconst dX7_numberOf_3 rfl ic_3 ?_
  refine pn_icmp_le (tgt := 11) dX7_numberOf_4 rfl rfl (fun c1 => ?_) (fun c1 => ?_)
  · refine pn_iconst dX7_numberOf_11 rfl ic_0 ?_
    refine pn_istore_n (ls' := [.ref 1, .int a1, .int a2, .int (0 : Int32), .null]) dX7_numberOf_12 rfl rfl (Nat.le_of_ble_eq_true rfl) rfl ?_
    refine pn_iload_n dX7_numberOf_13 rfl rfl rfl ?_
    refine pn_istore (ls' := [.ref 1, .int a1, .int a2, .int (0 : Int32), .int a1]) dX7_numberOf_14 rfl (Nat.le_of_ble_eq_true rfl) rfl ?_
    exact pn_wk (pn_leC rfl (pn_leN (pn_leC rfl (pn_leC rfl (pn_leC rfl pn_le0))))) (wX7_numberOf_16 Γ σ 5000 a2 (0 : Int32) a1)
  · refine pn_sipush dX7_numberOf_7 rfl sc_3000 ?_
    exact pn_iretv dX7_numberOf_10 rfl rfl rfl

set_option maxRecDepth 20000 in
set_option maxHeartbeats 4000000 in
theorem ct_X7_thingOf (Γ : pn_G) (a1 : Int32) (a2 : Int32) (σ : pn_S) : ∀ r, fX7_thingOf a1 a2 σ = some r → pn_C Γ 7 mX7_thingOf [.ref 1, .int a1, .int a2] σ ((pn_p σ) r) := by
  refine pn_of (ls := [.ref 1, .int a1, .int a2, .null]) (by decide) rfl (pn_cat rfl) rfl (Nat.le_of_ble_eq_true rfl) ?_
  rw [fX7_thingOf]
  refine pn_aload_n dX7_thingOf_0 rfl rfl rfl ?_
  refine pn_iload_n dX7_thingOf_1 rfl rfl rfl ?_
  refine pn_cp (fun r9 h9 => pn_LKV dX7_thingOf_2 lm_X7_47 (ct_X7_byteAt Γ a1 σ r9 h9) (by decide) qt_1 qk_1 rfl rfl (Nat.le_of_ble_eq_true rfl)) rfl (fun x1 => ?_)
  refine pn_istore_n (ls' := [.ref 1, .int a1, .int a2, .int x1]) dX7_thingOf_5 rfl rfl (Nat.le_of_ble_eq_true rfl) rfl ?_
  refine pn_iload_n dX7_thingOf_6 rfl rfl rfl ?_
  refine pn_cp (fun r9 h9 => pn_LKS dX7_thingOf_7 lm_X7_72 (ct_X7_isLetter Γ x1 σ r9 h9) (by decide) rfl rfl (Nat.le_of_ble_eq_true rfl)) rfl (fun x2 => ?_)
  refine pn_if_eq (tgt := 20) dX7_thingOf_10 rfl rfl (fun c3 => ?_) (fun c3 => ?_)
  · refine pn_iload_n dX7_thingOf_20 rfl rfl rfl ?_
    refine pn_cp (fun r9 h9 => pn_LKS dX7_thingOf_21 lm_X7_75 (ct_X7_isDigit Γ x1 σ r9 h9) (by decide) rfl rfl (Nat.le_of_ble_eq_true rfl)) rfl (fun x4 => ?_)
    refine pn_if_eq (tgt := 36) dX7_thingOf_24 rfl rfl (fun c5 => ?_) (fun c5 => ?_)
    · refine pn_sipush dX7_thingOf_36 rfl sc_2000 ?_
      refine pn_iload_n dX7_thingOf_39 rfl rfl rfl ?_
      refine pn_iadd dX7_thingOf_40 rfl ?_
      exact pn_iretv dX7_thingOf_41 rfl rfl rfl
    · refine pn_aload_n dX7_thingOf_27 rfl rfl rfl ?_
      refine pn_iload_n dX7_thingOf_28 rfl rfl rfl ?_
      refine pn_iload_n dX7_thingOf_29 rfl rfl rfl ?_
      refine pn_cp (fun r9 h9 => pn_LKV dX7_thingOf_30 lm_X7_81 (ct_X7_numberOf Γ a1 a2 σ r9 h9) (by decide) qt_1 qk_1 rfl rfl (Nat.le_of_ble_eq_true rfl)) rfl (fun x6 => ?_)
      refine pn_goto (pc' := 41) dX7_thingOf_33 rfl ?_
      exact pn_iretv dX7_thingOf_41 rfl rfl rfl
  · refine pn_aload_n dX7_thingOf_13 rfl rfl rfl ?_
    refine pn_iload_n dX7_thingOf_14 rfl rfl rfl ?_
    refine pn_iload_n dX7_thingOf_15 rfl rfl rfl ?_
    refine pn_cp (fun r9 h9 => pn_LKV dX7_thingOf_16 lm_X7_78 (ct_X7_wordOf Γ a1 a2 σ r9 h9) (by decide) qt_1 qk_1 rfl rfl (Nat.le_of_ble_eq_true rfl)) rfl (fun x7 => ?_)
    exact pn_iretv dX7_thingOf_19 rfl rfl rfl

set_option maxRecDepth 20000 in
set_option maxHeartbeats 4000000 in
theorem wX7_addThing_49 (Γ : pn_G)   (σ : pn_S) : pn_W9 Γ 1 mX7_addThing pn_v 49 [.null, .null, .null] [] σ (fX7_addThing_49  σ) := by
  rw [fX7_addThing_49]
  exact pn_vretv dX7_addThing_49 rfl rfl

set_option maxRecDepth 20000 in
set_option maxHeartbeats 4000000 in
theorem ct_X7_addThing (Γ : pn_G) (a1 : Int32) (a2 : Int32) (σ : pn_S) : ∀ r, fX7_addThing a1 a2 σ = some r → pn_C Γ 1 mX7_addThing [.ref 1, .int a1, .int a2] σ (pn_v r) := by
  refine pn_of (ls := [.ref 1, .int a1, .int a2]) (by decide) rfl (pn_cat rfl) rfl (Nat.le_of_ble_eq_true rfl) ?_
  rw [fX7_addThing]
  refine pn_aload_n dX7_addThing_0 rfl rfl rfl ?_
  refine pn_geti dX7_addThing_1 rfl lf_X7_28_6 qt_1 qk_1 qr_1_5 ?_
  refine pn_if_lt (tgt := 49) dX7_addThing_4 rfl rfl (fun c1 => ?_) (fun c1 => ?_)
  · exact pn_vretv dX7_addThing_49 rfl rfl
  · refine pn_aload_n dX7_addThing_7 rfl rfl rfl ?_
    refine pn_geti dX7_addThing_8 rfl lf_X7_28_6 qt_1 qk_1 qr_1_5 ?_
    refine pn_aload_n dX7_addThing_11 rfl rfl rfl ?_
    refine pn_geta dX7_addThing_12 rfl lf_X7_15_6 qt_1 qk_1 qr_1_1 qt_3 ?_
    refine pn_alen dX7_addThing_15 rfl qt_3 qk_3 ql_3 ?_
    refine pn_icmp_ge (tgt := 49) dX7_addThing_16 rfl rfl (fun c2 => ?_) (fun c2 => ?_)
    · exact pn_vretv dX7_addThing_49 rfl rfl
    · refine pn_aload_n dX7_addThing_19 rfl rfl rfl ?_
      refine pn_geta dX7_addThing_20 rfl lf_X7_15_6 qt_1 qk_1 qr_1_1 qt_3 ?_
      refine pn_aload_n dX7_addThing_23 rfl rfl rfl ?_
      refine pn_geti dX7_addThing_24 rfl lf_X7_28_6 qt_1 qk_1 qr_1_5 ?_
      refine pn_iload_n dX7_addThing_27 rfl rfl rfl ?_
      refine pn_iast dX7_addThing_28 rfl qt_3 qk_3 ql_3 ?_
      refine pn_aload_n dX7_addThing_29 rfl rfl rfl ?_
      refine pn_geta dX7_addThing_30 rfl lf_X7_18_6 qt_1 qk_1 qr_1_2 qt_4 ?_
      refine pn_aload_n dX7_addThing_33 rfl rfl rfl ?_
      refine pn_geti dX7_addThing_34 rfl lf_X7_28_6 qt_1 qk_1 qr_1_5 ?_
      refine pn_iload_n dX7_addThing_37 rfl rfl rfl ?_
      refine pn_iast dX7_addThing_38 rfl qt_4 qk_4 ql_4 ?_
      refine pn_aload_n dX7_addThing_39 rfl rfl rfl ?_
      refine pn_dupa dX7_addThing_40 rfl ?_
      refine pn_geti dX7_addThing_41 rfl lf_X7_28_6 qt_1 qk_1 qr_1_5 ?_
      refine pn_iconst dX7_addThing_44 rfl ic_1 ?_
      refine pn_iadd dX7_addThing_45 rfl ?_
      refine pn_puti dX7_addThing_46 rfl lf_X7_28_6 (fpi_6_5 (((pn_up (pn_up σ 3 (Int32.toNatClampNeg (σ 1 5)) a1) 4 (Int32.toNatClampNeg ((pn_up σ 3 (Int32.toNatClampNeg (σ 1 5)) a1) 1 5)) a2) 1 5) + (1 : Int32))) qt_1 qk_1 qr_1_5 ?_
      exact pn_wk (pn_leN (pn_leN (pn_leN pn_le0))) (wX7_addThing_49 Γ (pn_up (pn_up (pn_up σ 3 (Int32.toNatClampNeg (σ 1 5)) a1) 4 (Int32.toNatClampNeg ((pn_up σ 3 (Int32.toNatClampNeg (σ 1 5)) a1) 1 5)) a2) 1 5 (((pn_up (pn_up σ 3 (Int32.toNatClampNeg (σ 1 5)) a1) 4 (Int32.toNatClampNeg ((pn_up σ 3 (Int32.toNatClampNeg (σ 1 5)) a1) 1 5)) a2) 1 5) + (1 : Int32))))

set_option maxRecDepth 20000 in
set_option maxHeartbeats 4000000 in
theorem wX7_split_17 (Γ : pn_G)  : ∀ (n9 : Nat) (l1 : Int32) (σ : pn_S), pn_W9 Γ 8 mX7_split pn_v 17 [.ref 1, .int l1, .null] [] σ (fX7_split_17 n9 l1 σ) := by
  intro n9
  induction n9 with
  | zero => intro l1 σ; exact pn_none
  | succ n9 ih =>
    intro l1 σ
    rw [fX7_split_17]
    refine pn_iload_n dX7_split_17 rfl rfl rfl ?_
    refine pn_aload_n dX7_split_18 rfl rfl rfl ?_
    refine pn_geti dX7_split_19 rfl lf_X7_25_6 qt_1 qk_1 qr_1_4 ?_
    refine pn_icmp_ge (tgt := 63) dX7_split_22 rfl rfl (fun c1 => ?_) (fun c1 => ?_)
    · refine pn_aload_n dX7_split_63 rfl rfl rfl ?_
      refine pn_sipush dX7_split_64 rfl sc_3001 ?_
      refine pn_aload_n dX7_split_67 rfl rfl rfl ?_
      refine pn_geti dX7_split_68 rfl lf_X7_25_6 qt_1 qk_1 qr_1_4 ?_
      refine pn_cv (fun r9 h9 => pn_LKV dX7_split_71 lm_X7_53 (ct_X7_addThing Γ (3001 : Int32) (σ 1 4) σ r9 h9) (by decide) qt_1 qk_1 rfl rfl (Nat.le_of_ble_eq_true rfl)) rfl (fun σ2 => ?_)
      exact pn_vretv dX7_split_74 rfl rfl
    · refine pn_iload_n dX7_split_25 rfl rfl rfl ?_
      refine pn_iconst dX7_split_26 rfl ic_1 ?_
      refine pn_iadd dX7_split_27 rfl ?_
      refine pn_aload_n dX7_split_28 rfl rfl rfl ?_
      refine pn_iload_n dX7_split_29 rfl rfl rfl ?_
      refine pn_cp (fun r9 h9 => pn_LKV dX7_split_30 lm_X7_37 (ct_X7_endOfRun Γ l1 σ r9 h9) (by decide) qt_1 qk_1 rfl rfl (Nat.le_of_ble_eq_true rfl)) rfl (fun x3 => ?_)
      refine pn_cp (fun r9 h9 => pn_LKS dX7_split_33 lm_X7_41 (ct_J9_max_7cf53 Γ (l1 + (1 : Int32)) x3 σ r9 h9) (by decide) rfl rfl (Nat.le_of_ble_eq_true rfl)) rfl (fun x4 => ?_)
      refine pn_istore_n (ls' := [.ref 1, .int l1, .int x4]) dX7_split_36 rfl rfl (Nat.le_of_ble_eq_true rfl) rfl ?_
      refine pn_aload_n dX7_split_37 rfl rfl rfl ?_
      refine pn_iload_n dX7_split_38 rfl rfl rfl ?_
      refine pn_cp (fun r9 h9 => pn_LKV dX7_split_39 lm_X7_47 (ct_X7_byteAt Γ l1 σ r9 h9) (by decide) qt_1 qk_1 rfl rfl (Nat.le_of_ble_eq_true rfl)) rfl (fun x5 => ?_)
      refine pn_bipush dX7_split_42 rfl bc_32 ?_
      refine pn_icmp_eq (tgt := 58) dX7_split_44 rfl rfl (fun c6 => ?_) (fun c6 => ?_)
      · refine pn_iload_n dX7_split_58 rfl rfl rfl ?_
        refine pn_istore_n (ls' := [.ref 1, .int x4, .int x4]) dX7_split_59 rfl rfl (Nat.le_of_ble_eq_true rfl) rfl ?_
        refine pn_goto (pc' := 17) dX7_split_60 rfl ?_
        exact pn_wk (pn_leC rfl (pn_leC rfl (pn_leN pn_le0))) (ih x4 σ)
      · refine pn_aload_n dX7_split_47 rfl rfl rfl ?_
        refine pn_aload_n dX7_split_48 rfl rfl rfl ?_
        refine pn_iload_n dX7_split_49 rfl rfl rfl ?_
        refine pn_iload_n dX7_split_50 rfl rfl rfl ?_
        refine pn_cp (fun r9 h9 => pn_LKV dX7_split_51 lm_X7_50 (ct_X7_thingOf Γ l1 x4 σ r9 h9) (by decide) qt_1 qk_1 rfl rfl (Nat.le_of_ble_eq_true rfl)) rfl (fun x7 => ?_)
        refine pn_iload_n dX7_split_54 rfl rfl rfl ?_
        refine pn_cv (fun r9 h9 => pn_LKV dX7_split_55 lm_X7_53 (ct_X7_addThing Γ x7 l1 σ r9 h9) (by decide) qt_1 qk_1 rfl rfl (Nat.le_of_ble_eq_true rfl)) rfl (fun σ8 => ?_)
        refine pn_iload_n dX7_split_58 rfl rfl rfl ?_
        refine pn_istore_n (ls' := [.ref 1, .int x4, .int x4]) dX7_split_59 rfl rfl (Nat.le_of_ble_eq_true rfl) rfl ?_
        refine pn_goto (pc' := 17) dX7_split_60 rfl ?_
        exact pn_wk (pn_leC rfl (pn_leC rfl (pn_leN pn_le0))) (ih x4 σ8)

set_option maxRecDepth 20000 in
set_option maxHeartbeats 4000000 in
theorem ct_X7_split (Γ : pn_G)  (σ : pn_S) : ∀ r, fX7_split  σ = some r → pn_C Γ 8 mX7_split [.ref 1] σ (pn_v r) := by
  refine pn_of (ls := [.ref 1, .null, .null]) (by decide) rfl (pn_cat rfl) rfl (Nat.le_of_ble_eq_true rfl) ?_
  rw [fX7_split]
  refine pn_aload_n dX7_split_0 rfl rfl rfl ?_
  refine pn_iconst dX7_split_1 rfl ic_0 ?_
  refine pn_puti dX7_split_2 rfl lf_X7_28_6 (fpi_6_5 (0 : Int32)) qt_1 qk_1 qr_1_5 ?_
  refine pn_aload_n dX7_split_5 rfl rfl rfl ?_
  refine pn_iconst dX7_split_6 rfl ic_0 ?_
  refine pn_puti dX7_split_7 rfl lf_X7_31_6 (fpi_6_6 (0 : Int32)) qt_1 qk_1 qr_1_6 ?_
  refine pn_aload_n dX7_split_10 rfl rfl rfl ?_
  refine pn_iconst dX7_split_11 rfl ic_m1 ?_
  refine pn_puti dX7_split_12 rfl lf_X7_34_6 (fpi_6_7 (-1 : Int32)) qt_1 qk_1 qr_1_7 ?_
  refine pn_iconst dX7_split_15 rfl ic_0 ?_
  refine pn_istore_n (ls' := [.ref 1, .int (0 : Int32), .null]) dX7_split_16 rfl rfl (Nat.le_of_ble_eq_true rfl) rfl ?_
  exact wX7_split_17 Γ 5000 (0 : Int32) (pn_up (pn_up (pn_up σ 1 5 (0 : Int32)) 1 6 (0 : Int32)) 1 7 (-1 : Int32))

set_option maxRecDepth 20000 in
set_option maxHeartbeats 4000000 in
theorem wX8_copy_140 (Γ : pn_G) (v0 : Nat) (hv0 : pn_isV v0) (v1 : Nat) (hv1 : pn_isV v1)  (σ : pn_S) : pn_W9 Γ 1 mX8_copy pn_v 140 [.null, .null] [] σ (fX8_copy_140 v0 v1  σ) := by
  rw [fX8_copy_140]
  exact pn_vretv dX8_copy_140 rfl rfl

set_option maxRecDepth 20000 in
set_option maxHeartbeats 4000000 in
theorem wX8_copy_108 (Γ : pn_G) (v0 : Nat) (hv0 : pn_isV v0) (v1 : Nat) (hv1 : pn_isV v1)  (σ : pn_S) : pn_W9 Γ 1 mX8_copy pn_v 108 [.ref v0, .ref v1] [] σ (fX8_copy_108 v0 v1  σ) := by
  rw [fX8_copy_108]
  refine pn_aload_n dX8_copy_108 rfl rfl rfl ?_
  refine pn_aload_n dX8_copy_109 rfl rfl rfl ?_
  refine pn_geti dX8_copy_110 rfl lf_X8_47_7 hv1.1.1 hv1.1.2 (pn_RVi hv1.1.2 (by decide)) ?_
  refine pn_puti dX8_copy_113 rfl lf_X8_47_7 (fpi_7_11 (σ v1 11)) hv0.1.1 hv0.1.2 (pn_RVi hv0.1.2 (by decide)) ?_
  refine pn_aload_n dX8_copy_116 rfl rfl rfl ?_
  refine pn_aload_n dX8_copy_117 rfl rfl rfl ?_
  refine pn_geti dX8_copy_118 rfl lf_X8_50_7 hv1.1.1 hv1.1.2 (pn_RVi hv1.1.2 (by decide)) ?_
  refine pn_puti dX8_copy_121 rfl lf_X8_50_7 (fpi_7_12 ((pn_up σ v0 11 (σ v1 11)) v1 12)) hv0.1.1 hv0.1.2 (pn_RVi hv0.1.2 (by decide)) ?_
  refine pn_aload_n dX8_copy_124 rfl rfl rfl ?_
  refine pn_aload_n dX8_copy_125 rfl rfl rfl ?_
  refine pn_geti dX8_copy_126 rfl lf_X8_53_7 hv1.1.1 hv1.1.2 (pn_RVi hv1.1.2 (by decide)) ?_
  refine pn_puti dX8_copy_129 rfl lf_X8_53_7 (fpi_7_13 ((pn_up (pn_up σ v0 11 (σ v1 11)) v0 12 ((pn_up σ v0 11 (σ v1 11)) v1 12)) v1 13)) hv0.1.1 hv0.1.2 (pn_RVi hv0.1.2 (by decide)) ?_
  refine pn_aload_n dX8_copy_132 rfl rfl rfl ?_
  refine pn_aload_n dX8_copy_133 rfl rfl rfl ?_
  refine pn_geti dX8_copy_134 rfl lf_X8_56_7 hv1.1.1 hv1.1.2 (pn_RVi hv1.1.2 (by decide)) ?_
  refine pn_puti dX8_copy_137 rfl lf_X8_56_7 (fpi_7_14 ((pn_up (pn_up (pn_up σ v0 11 (σ v1 11)) v0 12 ((pn_up σ v0 11 (σ v1 11)) v1 12)) v0 13 ((pn_up (pn_up σ v0 11 (σ v1 11)) v0 12 ((pn_up σ v0 11 (σ v1 11)) v1 12)) v1 13)) v1 14)) hv0.1.1 hv0.1.2 (pn_RVi hv0.1.2 (by decide)) ?_
  exact pn_wk (pn_leN (pn_leN pn_le0)) (wX8_copy_140 Γ v0 hv0 v1 hv1 (pn_up (pn_up (pn_up (pn_up σ v0 11 (σ v1 11)) v0 12 ((pn_up σ v0 11 (σ v1 11)) v1 12)) v0 13 ((pn_up (pn_up σ v0 11 (σ v1 11)) v0 12 ((pn_up σ v0 11 (σ v1 11)) v1 12)) v1 13)) v0 14 ((pn_up (pn_up (pn_up σ v0 11 (σ v1 11)) v0 12 ((pn_up σ v0 11 (σ v1 11)) v1 12)) v0 13 ((pn_up (pn_up σ v0 11 (σ v1 11)) v0 12 ((pn_up σ v0 11 (σ v1 11)) v1 12)) v1 13)) v1 14)))

set_option maxRecDepth 20000 in
set_option maxHeartbeats 4000000 in
theorem wX8_copy_76 (Γ : pn_G) (v0 : Nat) (hv0 : pn_isV v0) (v1 : Nat) (hv1 : pn_isV v1)  (σ : pn_S) : pn_W9 Γ 1 mX8_copy pn_v 76 [.ref v0, .ref v1] [] σ (fX8_copy_76 v0 v1  σ) := by
  rw [fX8_copy_76]
  refine pn_aload_n dX8_copy_76 rfl rfl rfl ?_
  refine pn_aload_n dX8_copy_77 rfl rfl rfl ?_
  refine pn_geti dX8_copy_78 rfl lf_X8_34_7 hv1.1.1 hv1.1.2 (pn_RVi hv1.1.2 (by decide)) ?_
  refine pn_putb dX8_copy_81 rfl lf_X8_34_7 fpz_7_7 hv0.1.1 hv0.1.2 (pn_RVi hv0.1.2 (by decide)) ?_
  refine pn_aload_n dX8_copy_84 rfl rfl rfl ?_
  refine pn_aload_n dX8_copy_85 rfl rfl rfl ?_
  refine pn_geti dX8_copy_86 rfl lf_X8_38_7 hv1.1.1 hv1.1.2 (pn_RVi hv1.1.2 (by decide)) ?_
  refine pn_puti dX8_copy_89 rfl lf_X8_38_7 (fpi_7_8 ((pn_up σ v0 7 (σ v1 7)) v1 8)) hv0.1.1 hv0.1.2 (pn_RVi hv0.1.2 (by decide)) ?_
  refine pn_aload_n dX8_copy_92 rfl rfl rfl ?_
  refine pn_aload_n dX8_copy_93 rfl rfl rfl ?_
  refine pn_geti dX8_copy_94 rfl lf_X8_41_7 hv1.1.1 hv1.1.2 (pn_RVi hv1.1.2 (by decide)) ?_
  refine pn_puti dX8_copy_97 rfl lf_X8_41_7 (fpi_7_9 ((pn_up (pn_up σ v0 7 (σ v1 7)) v0 8 ((pn_up σ v0 7 (σ v1 7)) v1 8)) v1 9)) hv0.1.1 hv0.1.2 (pn_RVi hv0.1.2 (by decide)) ?_
  refine pn_aload_n dX8_copy_100 rfl rfl rfl ?_
  refine pn_aload_n dX8_copy_101 rfl rfl rfl ?_
  refine pn_geti dX8_copy_102 rfl lf_X8_44_7 hv1.1.1 hv1.1.2 (pn_RVi hv1.1.2 (by decide)) ?_
  refine pn_puti dX8_copy_105 rfl lf_X8_44_7 (fpi_7_10 ((pn_up (pn_up (pn_up σ v0 7 (σ v1 7)) v0 8 ((pn_up σ v0 7 (σ v1 7)) v1 8)) v0 9 ((pn_up (pn_up σ v0 7 (σ v1 7)) v0 8 ((pn_up σ v0 7 (σ v1 7)) v1 8)) v1 9)) v1 10)) hv0.1.1 hv0.1.2 (pn_RVi hv0.1.2 (by decide)) ?_
  exact wX8_copy_108 Γ v0 hv0 v1 hv1 (pn_up (pn_up (pn_up (pn_up σ v0 7 (σ v1 7)) v0 8 ((pn_up σ v0 7 (σ v1 7)) v1 8)) v0 9 ((pn_up (pn_up σ v0 7 (σ v1 7)) v0 8 ((pn_up σ v0 7 (σ v1 7)) v1 8)) v1 9)) v0 10 ((pn_up (pn_up (pn_up σ v0 7 (σ v1 7)) v0 8 ((pn_up σ v0 7 (σ v1 7)) v1 8)) v0 9 ((pn_up (pn_up σ v0 7 (σ v1 7)) v0 8 ((pn_up σ v0 7 (σ v1 7)) v1 8)) v1 9)) v1 10))

set_option maxRecDepth 20000 in
set_option maxHeartbeats 4000000 in
theorem wX8_copy_44 (Γ : pn_G) (v0 : Nat) (hv0 : pn_isV v0) (v1 : Nat) (hv1 : pn_isV v1)  (σ : pn_S) : pn_W9 Γ 1 mX8_copy pn_v 44 [.ref v0, .ref v1] [] σ (fX8_copy_44 v0 v1  σ) := by
  rw [fX8_copy_44]
  refine pn_aload_n dX8_copy_44 rfl rfl rfl ?_
  refine pn_aload_n dX8_copy_45 rfl rfl rfl ?_
  refine pn_geti dX8_copy_46 rfl lf_X8_22_7 hv1.1.1 hv1.1.2 (pn_RVi hv1.1.2 (by decide)) ?_
  refine pn_puti dX8_copy_49 rfl lf_X8_22_7 (fpi_7_3 (σ v1 3)) hv0.1.1 hv0.1.2 (pn_RVi hv0.1.2 (by decide)) ?_
  refine pn_aload_n dX8_copy_52 rfl rfl rfl ?_
  refine pn_aload_n dX8_copy_53 rfl rfl rfl ?_
  refine pn_geti dX8_copy_54 rfl lf_X8_25_7 hv1.1.1 hv1.1.2 (pn_RVi hv1.1.2 (by decide)) ?_
  refine pn_puti dX8_copy_57 rfl lf_X8_25_7 (fpi_7_4 ((pn_up σ v0 3 (σ v1 3)) v1 4)) hv0.1.1 hv0.1.2 (pn_RVi hv0.1.2 (by decide)) ?_
  refine pn_aload_n dX8_copy_60 rfl rfl rfl ?_
  refine pn_aload_n dX8_copy_61 rfl rfl rfl ?_
  refine pn_geti dX8_copy_62 rfl lf_X8_28_7 hv1.1.1 hv1.1.2 (pn_RVi hv1.1.2 (by decide)) ?_
  refine pn_puti dX8_copy_65 rfl lf_X8_28_7 (fpi_7_5 ((pn_up (pn_up σ v0 3 (σ v1 3)) v0 4 ((pn_up σ v0 3 (σ v1 3)) v1 4)) v1 5)) hv0.1.1 hv0.1.2 (pn_RVi hv0.1.2 (by decide)) ?_
  refine pn_aload_n dX8_copy_68 rfl rfl rfl ?_
  refine pn_aload_n dX8_copy_69 rfl rfl rfl ?_
  refine pn_geti dX8_copy_70 rfl lf_X8_31_7 hv1.1.1 hv1.1.2 (pn_RVi hv1.1.2 (by decide)) ?_
  refine pn_puti dX8_copy_73 rfl lf_X8_31_7 (fpi_7_6 ((pn_up (pn_up (pn_up σ v0 3 (σ v1 3)) v0 4 ((pn_up σ v0 3 (σ v1 3)) v1 4)) v0 5 ((pn_up (pn_up σ v0 3 (σ v1 3)) v0 4 ((pn_up σ v0 3 (σ v1 3)) v1 4)) v1 5)) v1 6)) hv0.1.1 hv0.1.2 (pn_RVi hv0.1.2 (by decide)) ?_
  exact wX8_copy_76 Γ v0 hv0 v1 hv1 (pn_up (pn_up (pn_up (pn_up σ v0 3 (σ v1 3)) v0 4 ((pn_up σ v0 3 (σ v1 3)) v1 4)) v0 5 ((pn_up (pn_up σ v0 3 (σ v1 3)) v0 4 ((pn_up σ v0 3 (σ v1 3)) v1 4)) v1 5)) v0 6 ((pn_up (pn_up (pn_up σ v0 3 (σ v1 3)) v0 4 ((pn_up σ v0 3 (σ v1 3)) v1 4)) v0 5 ((pn_up (pn_up σ v0 3 (σ v1 3)) v0 4 ((pn_up σ v0 3 (σ v1 3)) v1 4)) v1 5)) v1 6))

set_option maxRecDepth 20000 in
set_option maxHeartbeats 4000000 in
theorem ct_X8_copy (Γ : pn_G) (v0 : Nat) (hv0 : pn_isV v0) (v1 : Nat) (hv1 : pn_isV v1) (σ : pn_S) : ∀ r, fX8_copy v0 v1 σ = some r → pn_C Γ 1 mX8_copy [.ref v0, .ref v1] σ (pn_v r) := by
  refine pn_of (ls := [.ref v0, .ref v1]) (by decide) rfl (pn_cat rfl) rfl (Nat.le_of_ble_eq_true rfl) ?_
  rw [fX8_copy]
  refine pn_aload_n dX8_copy_0 rfl rfl rfl ?_
  refine pn_geta dX8_copy_1 rfl lf_X8_9_7 hv1.1.1 hv1.1.2 (pn_RV0 hv1.1.2) hv1.2.1.1 ?_
  refine pn_iconst dX8_copy_4 rfl ic_0 ?_
  refine pn_aload_n dX8_copy_5 rfl rfl rfl ?_
  refine pn_geta dX8_copy_6 rfl lf_X8_9_7 hv0.1.1 hv0.1.2 (pn_RV0 hv0.1.2) hv0.2.1.1 ?_
  refine pn_iconst dX8_copy_9 rfl ic_0 ?_
  refine pn_aload_n dX8_copy_10 rfl rfl rfl ?_
  refine pn_geta dX8_copy_11 rfl lf_X8_9_7 hv0.1.1 hv0.1.2 (pn_RV0 hv0.1.2) hv0.2.1.1 ?_
  refine pn_alen dX8_copy_14 rfl hv0.2.1.1 hv0.2.1.2.1 hv0.2.1.2.2 ?_
  refine pn_copy dX8_copy_15 rfl lac_X8_59 hv1.2.1.1 hv1.2.1.2.1 hv1.2.1.2.2 hv0.2.1.1 hv0.2.1.2.1 hv0.2.1.2.2 (by decide) (Nat.le_of_ble_eq_true rfl) ?_
  refine pn_aload_n dX8_copy_18 rfl rfl rfl ?_
  refine pn_geta dX8_copy_19 rfl lf_X8_15_7 hv1.1.1 hv1.1.2 (pn_RV1 hv1.1.2) hv1.2.2.1 ?_
  refine pn_iconst dX8_copy_22 rfl ic_0 ?_
  refine pn_aload_n dX8_copy_23 rfl rfl rfl ?_
  refine pn_geta dX8_copy_24 rfl lf_X8_15_7 hv0.1.1 hv0.1.2 (pn_RV1 hv0.1.2) hv0.2.2.1 ?_
  refine pn_iconst dX8_copy_27 rfl ic_0 ?_
  refine pn_aload_n dX8_copy_28 rfl rfl rfl ?_
  refine pn_geta dX8_copy_29 rfl lf_X8_15_7 hv0.1.1 hv0.1.2 (pn_RV1 hv0.1.2) hv0.2.2.1 ?_
  refine pn_alen dX8_copy_32 rfl hv0.2.2.1 hv0.2.2.2.1 hv0.2.2.2.2 ?_
  refine pn_copy dX8_copy_33 rfl lac_X8_59 hv1.2.2.1 hv1.2.2.2.1 hv1.2.2.2.2 hv0.2.2.1 hv0.2.2.2.1 hv0.2.2.2.2 (by decide) (Nat.le_of_ble_eq_true rfl) ?_
  refine pn_aload_n dX8_copy_36 rfl rfl rfl ?_
  refine pn_aload_n dX8_copy_37 rfl rfl rfl ?_
  refine pn_geti dX8_copy_38 rfl lf_X8_18_7 hv1.1.1 hv1.1.2 (pn_RVi hv1.1.2 (by decide)) ?_
  refine pn_puti dX8_copy_41 rfl lf_X8_18_7 (fpi_7_2 ((pn_ua (pn_ua σ (v0 + 1) (va_cpy (σ (v1 + 1)) (σ (v0 + 1)) 0 0 64)) (v0 + 2) (va_cpy ((pn_ua σ (v0 + 1) (va_cpy (σ (v1 + 1)) (σ (v0 + 1)) 0 0 64)) (v1 + 2)) ((pn_ua σ (v0 + 1) (va_cpy (σ (v1 + 1)) (σ (v0 + 1)) 0 0 64)) (v0 + 2)) 0 0 240)) v1 2)) hv0.1.1 hv0.1.2 (pn_RVi hv0.1.2 (by decide)) ?_
  exact wX8_copy_44 Γ v0 hv0 v1 hv1 (pn_up (pn_ua (pn_ua σ (v0 + 1) (va_cpy (σ (v1 + 1)) (σ (v0 + 1)) 0 0 64)) (v0 + 2) (va_cpy ((pn_ua σ (v0 + 1) (va_cpy (σ (v1 + 1)) (σ (v0 + 1)) 0 0 64)) (v1 + 2)) ((pn_ua σ (v0 + 1) (va_cpy (σ (v1 + 1)) (σ (v0 + 1)) 0 0 64)) (v0 + 2)) 0 0 240)) v0 2 ((pn_ua (pn_ua σ (v0 + 1) (va_cpy (σ (v1 + 1)) (σ (v0 + 1)) 0 0 64)) (v0 + 2) (va_cpy ((pn_ua σ (v0 + 1) (va_cpy (σ (v1 + 1)) (σ (v0 + 1)) 0 0 64)) (v1 + 2)) ((pn_ua σ (v0 + 1) (va_cpy (σ (v1 + 1)) (σ (v0 + 1)) 0 0 64)) (v0 + 2)) 0 0 240)) v1 2))

set_option maxRecDepth 20000 in
set_option maxHeartbeats 4000000 in
theorem ct_X7_nextThing (Γ : pn_G)  (σ : pn_S) : ∀ r, fX7_nextThing  σ = some r → pn_C Γ 1 mX7_nextThing [.ref 1] σ ((pn_p σ) r) := by
  refine pn_of (ls := [.ref 1]) (by decide) rfl (pn_cat rfl) rfl (Nat.le_of_ble_eq_true rfl) ?_
  rw [fX7_nextThing]
  refine pn_aload_n dX7_nextThing_0 rfl rfl rfl ?_
  refine pn_geti dX7_nextThing_1 rfl lf_X7_34_6 qt_1 qk_1 qr_1_7 ?_
  refine pn_iconst dX7_nextThing_4 rfl ic_m1 ?_
  refine pn_icmp_ne (tgt := 31) dX7_nextThing_5 rfl rfl (fun c1 => ?_) (fun c1 => ?_)
  · refine pn_aload_n dX7_nextThing_8 rfl rfl rfl ?_
    refine pn_geti dX7_nextThing_9 rfl lf_X7_31_6 qt_1 qk_1 qr_1_6 ?_
    refine pn_aload_n dX7_nextThing_12 rfl rfl rfl ?_
    refine pn_geti dX7_nextThing_13 rfl lf_X7_28_6 qt_1 qk_1 qr_1_5 ?_
    refine pn_icmp_ge (tgt := 31) dX7_nextThing_16 rfl rfl (fun c2 => ?_) (fun c2 => ?_)
    · refine pn_sipush dX7_nextThing_31 rfl sc_3000 ?_
      exact pn_iretv dX7_nextThing_34 rfl rfl rfl
    · refine pn_aload_n dX7_nextThing_19 rfl rfl rfl ?_
      refine pn_geta dX7_nextThing_20 rfl lf_X7_15_6 qt_1 qk_1 qr_1_1 qt_3 ?_
      refine pn_aload_n dX7_nextThing_23 rfl rfl rfl ?_
      refine pn_geti dX7_nextThing_24 rfl lf_X7_31_6 qt_1 qk_1 qr_1_6 ?_
      refine pn_iald dX7_nextThing_27 rfl qt_3 qk_3 ql_3 ?_
      refine pn_goto (pc' := 34) dX7_nextThing_28 rfl ?_
      exact pn_iretv dX7_nextThing_34 rfl rfl rfl
  · refine pn_sipush dX7_nextThing_31 rfl sc_3000 ?_
    exact pn_iretv dX7_nextThing_34 rfl rfl rfl

set_option maxRecDepth 20000 in
set_option maxHeartbeats 4000000 in
theorem ct_X7_take (Γ : pn_G) (a1 : Int32) (σ : pn_S) : ∀ r, fX7_take a1 σ = some r → pn_C Γ 1 mX7_take [.ref 1, .int a1] σ (pn_i r) := by
  refine pn_of (ls := [.ref 1, .int a1]) (by decide) rfl (pn_cat rfl) rfl (Nat.le_of_ble_eq_true rfl) ?_
  rw [fX7_take]
  refine pn_aload_n dX7_take_0 rfl rfl rfl ?_
  refine pn_geti dX7_take_1 rfl lf_X7_34_6 qt_1 qk_1 qr_1_7 ?_
  refine pn_iconst dX7_take_4 rfl ic_m1 ?_
  refine pn_icmp_ne (tgt := 32) dX7_take_5 rfl rfl (fun c1 => ?_) (fun c1 => ?_)
  · refine pn_aload_n dX7_take_8 rfl rfl rfl ?_
    refine pn_geti dX7_take_9 rfl lf_X7_31_6 qt_1 qk_1 qr_1_6 ?_
    refine pn_aload_n dX7_take_12 rfl rfl rfl ?_
    refine pn_geti dX7_take_13 rfl lf_X7_28_6 qt_1 qk_1 qr_1_5 ?_
    refine pn_icmp_ge (tgt := 32) dX7_take_16 rfl rfl (fun c2 => ?_) (fun c2 => ?_)
    · refine pn_iconst dX7_take_32 rfl ic_0 ?_
      exact pn_iretv dX7_take_33 rfl rfl rfl
    · refine pn_aload_n dX7_take_19 rfl rfl rfl ?_
      refine pn_geta dX7_take_20 rfl lf_X7_15_6 qt_1 qk_1 qr_1_1 qt_3 ?_
      refine pn_aload_n dX7_take_23 rfl rfl rfl ?_
      refine pn_geti dX7_take_24 rfl lf_X7_31_6 qt_1 qk_1 qr_1_6 ?_
      refine pn_iald dX7_take_27 rfl qt_3 qk_3 ql_3 ?_
      refine pn_iload_n dX7_take_28 rfl rfl rfl ?_
      refine pn_icmp_eq (tgt := 34) dX7_take_29 rfl rfl (fun c3 => ?_) (fun c3 => ?_)
      · refine pn_aload_n dX7_take_34 rfl rfl rfl ?_
        refine pn_dupa dX7_take_35 rfl ?_
        refine pn_geti dX7_take_36 rfl lf_X7_31_6 qt_1 qk_1 qr_1_6 ?_
        refine pn_iconst dX7_take_39 rfl ic_1 ?_
        refine pn_iadd dX7_take_40 rfl ?_
        refine pn_puti dX7_take_41 rfl lf_X7_31_6 (fpi_6_6 ((σ 1 6) + (1 : Int32))) qt_1 qk_1 qr_1_6 ?_
        refine pn_iconst dX7_take_44 rfl ic_1 ?_
        exact pn_iretv dX7_take_45 rfl rfl rfl
      · refine pn_iconst dX7_take_32 rfl ic_0 ?_
        exact pn_iretv dX7_take_33 rfl rfl rfl
  · refine pn_iconst dX7_take_32 rfl ic_0 ?_
    exact pn_iretv dX7_take_33 rfl rfl rfl

set_option maxRecDepth 20000 in
set_option maxHeartbeats 4000000 in
theorem wX7_fail_36 (Γ : pn_G)  (s1 : Int32) (σ : pn_S) : pn_W9 Γ 1 mX7_fail pn_i 36 [.null] [.int s1, .ref 1] σ (fX7_fail_36 s1 σ) := by
  rw [fX7_fail_36]
  refine pn_puti dX7_fail_36 rfl lf_X7_34_6 (fpi_6_7 s1) qt_1 qk_1 qr_1_7 ?_
  refine pn_iconst dX7_fail_39 rfl ic_0 ?_
  exact pn_iretv dX7_fail_40 rfl rfl rfl

set_option maxRecDepth 20000 in
set_option maxHeartbeats 4000000 in
theorem ct_X7_fail (Γ : pn_G)  (σ : pn_S) : ∀ r, fX7_fail  σ = some r → pn_C Γ 1 mX7_fail [.ref 1] σ (pn_i r) := by
  refine pn_of (ls := [.ref 1]) (by decide) rfl (pn_cat rfl) rfl (Nat.le_of_ble_eq_true rfl) ?_
  rw [fX7_fail]
  refine pn_aload_n dX7_fail_0 rfl rfl rfl ?_
  refine pn_geti dX7_fail_1 rfl lf_X7_34_6 qt_1 qk_1 qr_1_7 ?_
  refine pn_iconst dX7_fail_4 rfl ic_m1 ?_
  refine pn_icmp_ne (tgt := 39) dX7_fail_5 rfl rfl (fun c1 => ?_) (fun c1 => ?_)
  · refine pn_aload_n dX7_fail_8 rfl rfl rfl ?_
    refine pn_aload_n dX7_fail_9 rfl rfl rfl ?_
    refine pn_geti dX7_fail_10 rfl lf_X7_31_6 qt_1 qk_1 qr_1_6 ?_
    refine pn_aload_n dX7_fail_13 rfl rfl rfl ?_
    refine pn_geti dX7_fail_14 rfl lf_X7_28_6 qt_1 qk_1 qr_1_5 ?_
    refine pn_icmp_ge (tgt := 32) dX7_fail_17 rfl rfl (fun c2 => ?_) (fun c2 => ?_)
    · refine pn_aload_n dX7_fail_32 rfl rfl rfl ?_
      refine pn_geti dX7_fail_33 rfl lf_X7_25_6 qt_1 qk_1 qr_1_4 ?_
      exact pn_wk (pn_leN pn_le0) (wX7_fail_36 Γ (σ 1 4) σ)
    · refine pn_aload_n dX7_fail_20 rfl rfl rfl ?_
      refine pn_geta dX7_fail_21 rfl lf_X7_18_6 qt_1 qk_1 qr_1_2 qt_4 ?_
      refine pn_aload_n dX7_fail_24 rfl rfl rfl ?_
      refine pn_geti dX7_fail_25 rfl lf_X7_31_6 qt_1 qk_1 qr_1_6 ?_
      refine pn_iald dX7_fail_28 rfl qt_4 qk_4 ql_4 ?_
      refine pn_goto (pc' := 36) dX7_fail_29 rfl ?_
      exact pn_wk (pn_leN pn_le0) (wX7_fail_36 Γ (σ 4 (Int32.toNatClampNeg (σ 1 6))) σ)
  · refine pn_iconst dX7_fail_39 rfl ic_0 ?_
    exact pn_iretv dX7_fail_40 rfl rfl rfl

set_option maxRecDepth 20000 in
set_option maxHeartbeats 4000000 in
theorem wX7_takeNumber_17 (Γ : pn_G)   (σ : pn_S) : pn_W9 Γ 2 mX7_takeNumber pn_i 17 [.ref 1, .null, .null] [] σ (fX7_takeNumber_17  σ) := by
  rw [fX7_takeNumber_17]
  refine pn_aload_n dX7_takeNumber_17 rfl rfl rfl ?_
  refine pn_ci (fun r9 h9 => pn_LKV dX7_takeNumber_18 lm_X7_61 (ct_X7_fail Γ σ r9 h9) (by decide) qt_1 qk_1 rfl rfl (Nat.le_of_ble_eq_true rfl)) rfl (fun x3 σ3 => ?_)
  refine pn_popi dX7_takeNumber_21 rfl ?_
  refine pn_iconst dX7_takeNumber_22 rfl ic_m1 ?_
  exact pn_iretv dX7_takeNumber_23 rfl rfl rfl

set_option maxRecDepth 20000 in
set_option maxHeartbeats 4000000 in
theorem ct_X7_takeNumber (Γ : pn_G) (a1 : Int32) (σ : pn_S) : ∀ r, fX7_takeNumber a1 σ = some r → pn_C Γ 2 mX7_takeNumber [.ref 1, .int a1] σ (pn_i r) := by
  refine pn_of (ls := [.ref 1, .int a1, .null]) (by decide) rfl (pn_cat rfl) rfl (Nat.le_of_ble_eq_true rfl) ?_
  rw [fX7_takeNumber]
  refine pn_aload_n dX7_takeNumber_0 rfl rfl rfl ?_
  refine pn_cp (fun r9 h9 => pn_LKV dX7_takeNumber_1 lm_X7_57 (ct_X7_nextThing Γ σ r9 h9) (by decide) qt_1 qk_1 rfl rfl (Nat.le_of_ble_eq_true rfl)) rfl (fun x1 => ?_)
  refine pn_istore_n (ls' := [.ref 1, .int a1, .int x1]) dX7_takeNumber_4 rfl rfl (Nat.le_of_ble_eq_true rfl) rfl ?_
  refine pn_iload_n dX7_takeNumber_5 rfl rfl rfl ?_
  refine pn_iload_n dX7_takeNumber_6 rfl rfl rfl ?_
  refine pn_icmp_gt (tgt := 17) dX7_takeNumber_7 rfl rfl (fun c2 => ?_) (fun c2 => ?_)
  · exact pn_wk (pn_leC rfl (pn_leN (pn_leN pn_le0))) (wX7_takeNumber_17 Γ σ)
  · refine pn_iload_n dX7_takeNumber_10 rfl rfl rfl ?_
    refine pn_sipush dX7_takeNumber_11 rfl sc_999 ?_
    refine pn_icmp_le (tgt := 24) dX7_takeNumber_14 rfl rfl (fun c4 => ?_) (fun c4 => ?_)
    · refine pn_aload_n dX7_takeNumber_24 rfl rfl rfl ?_
      refine pn_dupa dX7_takeNumber_25 rfl ?_
      refine pn_geti dX7_takeNumber_26 rfl lf_X7_31_6 qt_1 qk_1 qr_1_6 ?_
      refine pn_iconst dX7_takeNumber_29 rfl ic_1 ?_
      refine pn_iadd dX7_takeNumber_30 rfl ?_
      refine pn_puti dX7_takeNumber_31 rfl lf_X7_31_6 (fpi_6_6 ((σ 1 6) + (1 : Int32))) qt_1 qk_1 qr_1_6 ?_
      refine pn_iload_n dX7_takeNumber_34 rfl rfl rfl ?_
      exact pn_iretv dX7_takeNumber_35 rfl rfl rfl
    · exact pn_wk (pn_leC rfl (pn_leN (pn_leN pn_le0))) (wX7_takeNumber_17 Γ σ)

set_option maxRecDepth 20000 in
set_option maxHeartbeats 4000000 in
theorem ct_X7_takeNumberAfter (Γ : pn_G) (a1 : Int32) (a2 : Int32) (σ : pn_S) : ∀ r, fX7_takeNumberAfter a1 a2 σ = some r → pn_C Γ 3 mX7_takeNumberAfter [.ref 1, .int a1, .int a2] σ (pn_i r) := by
  refine pn_of (ls := [.ref 1, .int a1, .int a2]) (by decide) rfl (pn_cat rfl) rfl (Nat.le_of_ble_eq_true rfl) ?_
  rw [fX7_takeNumberAfter]
  refine pn_aload_n dX7_takeNumberAfter_0 rfl rfl rfl ?_
  refine pn_iload_n dX7_takeNumberAfter_1 rfl rfl rfl ?_
  refine pn_ci (fun r9 h9 => pn_LKV dX7_takeNumberAfter_2 lm_X7_65 (ct_X7_take Γ a1 σ r9 h9) (by decide) qt_1 qk_1 rfl rfl (Nat.le_of_ble_eq_true rfl)) rfl (fun x1 σ1 => ?_)
  refine pn_if_ne (tgt := 15) dX7_takeNumberAfter_5 rfl rfl (fun c2 => ?_) (fun c2 => ?_)
  · refine pn_aload_n dX7_takeNumberAfter_8 rfl rfl rfl ?_
    refine pn_ci (fun r9 h9 => pn_LKV dX7_takeNumberAfter_9 lm_X7_61 (ct_X7_fail Γ σ1 r9 h9) (by decide) qt_1 qk_1 rfl rfl (Nat.le_of_ble_eq_true rfl)) rfl (fun x3 σ3 => ?_)
    refine pn_popi dX7_takeNumberAfter_12 rfl ?_
    refine pn_iconst dX7_takeNumberAfter_13 rfl ic_m1 ?_
    exact pn_iretv dX7_takeNumberAfter_14 rfl rfl rfl
  · refine pn_aload_n dX7_takeNumberAfter_15 rfl rfl rfl ?_
    refine pn_iload_n dX7_takeNumberAfter_16 rfl rfl rfl ?_
    refine pn_ci (fun r9 h9 => pn_LKV dX7_takeNumberAfter_17 lm_X7_69 (ct_X7_takeNumber Γ a2 σ1 r9 h9) (by decide) qt_1 qk_1 rfl rfl (Nat.le_of_ble_eq_true rfl)) rfl (fun x4 σ4 => ?_)
    exact pn_iretv dX7_takeNumberAfter_20 rfl rfl rfl

set_option maxRecDepth 20000 in
set_option maxHeartbeats 4000000 in
theorem ct_X8_tell (Γ : pn_G) (v0 : Nat) (hv0 : pn_isV v0) (a1 : Int32) (a2 : Int32) (a3 : Int32) (σ : pn_S) : ∀ r, fX8_tell v0 a1 a2 a3 σ = some r → pn_C Γ 1 mX8_tell [.ref v0, .int a1, .int a2, .int a3] σ (pn_i r) := by
  refine pn_of (ls := [.ref v0, .int a1, .int a2, .int a3, .null]) (by decide) rfl (pn_cat rfl) rfl (Nat.le_of_ble_eq_true rfl) ?_
  rw [fX8_tell]
  refine pn_iload_n dX8_tell_0 rfl rfl rfl ?_
  refine pn_if_lt (tgt := 22) dX8_tell_1 rfl rfl (fun c1 => ?_) (fun c1 => ?_)
  · refine pn_iconst dX8_tell_22 rfl ic_m1 ?_
    exact pn_iretv dX8_tell_23 rfl rfl rfl
  · refine pn_iload_n dX8_tell_4 rfl rfl rfl ?_
    refine pn_aload_n dX8_tell_5 rfl rfl rfl ?_
    refine pn_geti dX8_tell_6 rfl lf_X8_18_7 hv0.1.1 hv0.1.2 (pn_RVi hv0.1.2 (by decide)) ?_
    refine pn_icmp_ge (tgt := 22) dX8_tell_9 rfl rfl (fun c2 => ?_) (fun c2 => ?_)
    · refine pn_iconst dX8_tell_22 rfl ic_m1 ?_
      exact pn_iretv dX8_tell_23 rfl rfl rfl
    · refine pn_iload_n dX8_tell_12 rfl rfl rfl ?_
      refine pn_if_lt (tgt := 22) dX8_tell_13 rfl rfl (fun c3 => ?_) (fun c3 => ?_)
      · refine pn_iconst dX8_tell_22 rfl ic_m1 ?_
        exact pn_iretv dX8_tell_23 rfl rfl rfl
      · refine pn_iload_n dX8_tell_16 rfl rfl rfl ?_
        refine pn_bipush dX8_tell_17 rfl bc_8 ?_
        refine pn_icmp_lt (tgt := 24) dX8_tell_19 rfl rfl (fun c4 => ?_) (fun c4 => ?_)
        · refine pn_aload_n dX8_tell_24 rfl rfl rfl ?_
          refine pn_geta dX8_tell_25 rfl lf_X8_9_7 hv0.1.1 hv0.1.2 (pn_RV0 hv0.1.2) hv0.2.1.1 ?_
          refine pn_iload_n dX8_tell_28 rfl rfl rfl ?_
          refine pn_bipush dX8_tell_29 rfl bc_8 ?_
          refine pn_imul dX8_tell_31 rfl ?_
          refine pn_iload_n dX8_tell_32 rfl rfl rfl ?_
          refine pn_iadd dX8_tell_33 rfl ?_
          refine pn_iald dX8_tell_34 rfl hv0.2.1.1 hv0.2.1.2.1 hv0.2.1.2.2 ?_
          refine pn_istore (ls' := [.ref v0, .int a1, .int a2, .int a3, .int (σ (v0 + 1) (Int32.toNatClampNeg ((a1 * (8 : Int32)) + a2)))]) dX8_tell_35 rfl (Nat.le_of_ble_eq_true rfl) rfl ?_
          refine pn_aload_n dX8_tell_37 rfl rfl rfl ?_
          refine pn_geta dX8_tell_38 rfl lf_X8_9_7 hv0.1.1 hv0.1.2 (pn_RV0 hv0.1.2) hv0.2.1.1 ?_
          refine pn_iload_n dX8_tell_41 rfl rfl rfl ?_
          refine pn_bipush dX8_tell_42 rfl bc_8 ?_
          refine pn_imul dX8_tell_44 rfl ?_
          refine pn_iload_n dX8_tell_45 rfl rfl rfl ?_
          refine pn_iadd dX8_tell_46 rfl ?_
          refine pn_iload_n dX8_tell_47 rfl rfl rfl ?_
          refine pn_iast dX8_tell_48 rfl hv0.2.1.1 hv0.2.1.2.1 hv0.2.1.2.2 ?_
          refine pn_iload dX8_tell_49 rfl rfl ?_
          exact pn_iretv dX8_tell_51 rfl rfl rfl
        · refine pn_iconst dX8_tell_22 rfl ic_m1 ?_
          exact pn_iretv dX8_tell_23 rfl rfl rfl

set_option maxRecDepth 20000 in
set_option maxHeartbeats 4000000 in
theorem wX8_addPerson_47 (Γ : pn_G) (v0 : Nat) (hv0 : pn_isV v0) (rec28 : Int32 → Int32 → pn_S → Option (Int32 × pn_S)) (hrec28 : ∀ (l1 : Int32) (l2 : Int32) (σ : pn_S), pn_W9 Γ 2 mX8_addPerson pn_i 28 [.ref v0, .int l1, .int l2] [] σ (rec28 l1 l2 σ)) (l1 : Int32) (l2 : Int32) (s1 : Int32) (s2 : Int32) (s3 : Int32) (σ : pn_S) : pn_W9 Γ 2 mX8_addPerson pn_i 47 [.ref v0, .int l1, .int l2] [.int s3, .int s2, .int s1, .ref v0] σ (fX8_addPerson_47 v0 rec28 l1 l2 s1 s2 s3 σ) := by
  rw [fX8_addPerson_47]
  refine pn_ci (fun r9 h9 => pn_LKV dX8_addPerson_47 lm_X8_65 (ct_X8_tell Γ v0 hv0 s1 s2 s3 σ r9 h9) (by decide) hv0.1.1 hv0.1.2 rfl rfl (Nat.le_of_ble_eq_true rfl)) rfl (fun x4 σ4 => ?_)
  refine pn_popi dX8_addPerson_50 rfl ?_
  refine pn_iinc (ls' := [.ref v0, .int l1, .int (l2 + (1 : Int32))]) dX8_addPerson_51 rfl (Nat.le_of_ble_eq_true rfl) rfl (congrArg (fun z => l2 + z) ic_1) rfl ?_
  refine pn_goto (pc' := 28) dX8_addPerson_54 rfl ?_
  exact hrec28 l1 (l2 + (1 : Int32)) σ4

set_option maxRecDepth 20000 in
set_option maxHeartbeats 4000000 in
theorem wX8_addPerson_28 (Γ : pn_G) (v0 : Nat) (hv0 : pn_isV v0) : ∀ (n9 : Nat) (l1 : Int32) (l2 : Int32) (σ : pn_S), pn_W9 Γ 2 mX8_addPerson pn_i 28 [.ref v0, .int l1, .int l2] [] σ (fX8_addPerson_28 v0 n9 l1 l2 σ) := by
  intro n9
  induction n9 with
  | zero => intro l1 l2 σ; exact pn_none
  | succ n9 ih =>
    intro l1 l2 σ
    rw [fX8_addPerson_28]
    refine pn_iload_n dX8_addPerson_28 rfl rfl rfl ?_
    refine pn_bipush dX8_addPerson_29 rfl bc_8 ?_
    refine pn_icmp_ge (tgt := 57) dX8_addPerson_31 rfl rfl (fun c2 => ?_) (fun c2 => ?_)
    · refine pn_iload_n dX8_addPerson_57 rfl rfl rfl ?_
      exact pn_iretv dX8_addPerson_58 rfl rfl rfl
    · refine pn_aload_n dX8_addPerson_34 rfl rfl rfl ?_
      refine pn_iload_n dX8_addPerson_35 rfl rfl rfl ?_
      refine pn_iload_n dX8_addPerson_36 rfl rfl rfl ?_
      refine pn_iload_n dX8_addPerson_37 rfl rfl rfl ?_
      refine pn_iconst dX8_addPerson_38 rfl ic_5 ?_
      refine pn_icmp_ne (tgt := 46) dX8_addPerson_39 rfl rfl (fun c3 => ?_) (fun c3 => ?_)
      · refine pn_iconst dX8_addPerson_42 rfl ic_m1 ?_
        refine pn_goto (pc' := 47) dX8_addPerson_43 rfl ?_
        exact wX8_addPerson_47 Γ v0 hv0 (fX8_addPerson_28 v0 n9) (ih) l1 l2 l1 l2 (-1 : Int32) σ
      · refine pn_iconst dX8_addPerson_46 rfl ic_0 ?_
        exact wX8_addPerson_47 Γ v0 hv0 (fX8_addPerson_28 v0 n9) (ih) l1 l2 l1 l2 (0 : Int32) σ

set_option maxRecDepth 20000 in
set_option maxHeartbeats 4000000 in
theorem ct_X8_addPerson (Γ : pn_G) (v0 : Nat) (hv0 : pn_isV v0) (σ : pn_S) : ∀ r, fX8_addPerson v0 σ = some r → pn_C Γ 2 mX8_addPerson [.ref v0] σ (pn_i r) := by
  refine pn_of (ls := [.ref v0, .null, .null]) (by decide) rfl (pn_cat rfl) rfl (Nat.le_of_ble_eq_true rfl) ?_
  rw [fX8_addPerson]
  refine pn_aload_n dX8_addPerson_0 rfl rfl rfl ?_
  refine pn_geti dX8_addPerson_1 rfl lf_X8_18_7 hv0.1.1 hv0.1.2 (pn_RVi hv0.1.2 (by decide)) ?_
  refine pn_bipush dX8_addPerson_4 rfl bc_8 ?_
  refine pn_icmp_lt (tgt := 11) dX8_addPerson_6 rfl rfl (fun c1 => ?_) (fun c1 => ?_)
  · refine pn_aload_n dX8_addPerson_11 rfl rfl rfl ?_
    refine pn_geti dX8_addPerson_12 rfl lf_X8_18_7 hv0.1.1 hv0.1.2 (pn_RVi hv0.1.2 (by decide)) ?_
    refine pn_istore_n (ls' := [.ref v0, .int (σ v0 2), .null]) dX8_addPerson_15 rfl rfl (Nat.le_of_ble_eq_true rfl) rfl ?_
    refine pn_aload_n dX8_addPerson_16 rfl rfl rfl ?_
    refine pn_dupa dX8_addPerson_17 rfl ?_
    refine pn_geti dX8_addPerson_18 rfl lf_X8_18_7 hv0.1.1 hv0.1.2 (pn_RVi hv0.1.2 (by decide)) ?_
    refine pn_iconst dX8_addPerson_21 rfl ic_1 ?_
    refine pn_iadd dX8_addPerson_22 rfl ?_
    refine pn_puti dX8_addPerson_23 rfl lf_X8_18_7 (fpi_7_2 ((σ v0 2) + (1 : Int32))) hv0.1.1 hv0.1.2 (pn_RVi hv0.1.2 (by decide)) ?_
    refine pn_iconst dX8_addPerson_26 rfl ic_0 ?_
    refine pn_istore_n (ls' := [.ref v0, .int (σ v0 2), .int (0 : Int32)]) dX8_addPerson_27 rfl rfl (Nat.le_of_ble_eq_true rfl) rfl ?_
    exact wX8_addPerson_28 Γ v0 hv0 5000 (σ v0 2) (0 : Int32) (pn_up σ v0 2 ((σ v0 2) + (1 : Int32)))
  · refine pn_iconst dX8_addPerson_9 rfl ic_m1 ?_
    exact pn_iretv dX8_addPerson_10 rfl rfl rfl

set_option maxRecDepth 20000 in
set_option maxHeartbeats 4000000 in
theorem wX9_readPerson_25 (Γ : pn_G)   (σ : pn_S) : pn_W9 Γ 4 mX9_readPerson pn_i 25 [.ref 35, .null, .null, .null, .null, .null, .null, .null] [] σ (fX9_readPerson_25  σ) := by
  rw [fX9_readPerson_25]
  refine pn_aload_n dX9_readPerson_25 rfl rfl rfl ?_
  refine pn_geta dX9_readPerson_26 rfl lf_X9_15_8 qt_35 qk_35 qr_35_0 qt_1 ?_
  refine pn_ci (fun r9 h9 => pn_LKV dX9_readPerson_29 lm_X9_51 (ct_X7_fail Γ σ r9 h9) (by decide) qt_1 qk_1 rfl rfl (Nat.le_of_ble_eq_true rfl)) rfl (fun x2 σ2 => ?_)
  exact pn_iretb dX9_readPerson_32 rfl rfl

set_option maxRecDepth 20000 in
set_option maxHeartbeats 4000000 in
theorem wX9_readPerson_222 (Γ : pn_G)  (s1 : Int32) (s2 : Int32) (s3 : Int32) (σ : pn_S) : pn_W9 Γ 4 mX9_readPerson pn_i 222 [.null, .null, .null, .null, .null, .null, .null, .null] [.int s3, .int s2, .int s1, .ref 8] σ (fX9_readPerson_222 s1 s2 s3 σ) := by
  rw [fX9_readPerson_222]
  refine pn_ci (fun r9 h9 => pn_LKV dX9_readPerson_222 lm_X9_64 (ct_X8_tell Γ 8 qv_8 s1 s2 s3 σ r9 h9) (by decide) qt_8 qk_8 rfl rfl (Nat.le_of_ble_eq_true rfl)) rfl (fun x20 σ20 => ?_)
  refine pn_popi dX9_readPerson_225 rfl ?_
  refine pn_iconst dX9_readPerson_226 rfl ic_1 ?_
  exact pn_iretv dX9_readPerson_227 rfl rfl rfl

set_option maxRecDepth 20000 in
set_option maxHeartbeats 4000000 in
theorem wX9_readPerson_200 (Γ : pn_G)  (l6 : Int32) (l7 : Int32) (s1 : Int32) (s2 : Int32) (s3 : Int32) (σ : pn_S) : pn_W9 Γ 4 mX9_readPerson pn_i 200 [.ref 35, .null, .null, .null, .null, .null, .int l6, .int l7] [.int s3, .int s2, .int s1, .ref 8] σ (fX9_readPerson_200 l6 l7 s1 s2 s3 σ) := by
  rw [fX9_readPerson_200]
  refine pn_ci (fun r9 h9 => pn_LKV dX9_readPerson_200 lm_X9_64 (ct_X8_tell Γ 8 qv_8 s1 s2 s3 σ r9 h9) (by decide) qt_8 qk_8 rfl rfl (Nat.le_of_ble_eq_true rfl)) rfl (fun x18 σ18 => ?_)
  refine pn_popi dX9_readPerson_203 rfl ?_
  refine pn_aload_n dX9_readPerson_204 rfl rfl rfl ?_
  refine pn_geta dX9_readPerson_205 rfl lf_X9_9_8 qt_35 qk_35 qr_35_1 qt_8 ?_
  refine pn_iload dX9_readPerson_208 rfl rfl ?_
  refine pn_bipush dX9_readPerson_210 rfl bc_7 ?_
  refine pn_iload dX9_readPerson_212 rfl rfl ?_
  refine pn_if_eq (tgt := 221) dX9_readPerson_214 rfl rfl (fun c19 => ?_) (fun c19 => ?_)
  · refine pn_iconst dX9_readPerson_221 rfl ic_0 ?_
    exact pn_wk (pn_leN (pn_leN (pn_leN (pn_leN (pn_leN (pn_leN (pn_leN (pn_leN pn_le0)))))))) (wX9_readPerson_222 Γ l7 (7 : Int32) (0 : Int32) σ18)
  · refine pn_iconst dX9_readPerson_217 rfl ic_1 ?_
    refine pn_goto (pc' := 222) dX9_readPerson_218 rfl ?_
    exact pn_wk (pn_leN (pn_leN (pn_leN (pn_leN (pn_leN (pn_leN (pn_leN (pn_leN pn_le0)))))))) (wX9_readPerson_222 Γ l7 (7 : Int32) (1 : Int32) σ18)

set_option maxRecDepth 20000 in
set_option maxHeartbeats 4000000 in
theorem ct_X9_readPerson (Γ : pn_G)  (σ : pn_S) : ∀ r, fX9_readPerson  σ = some r → pn_C Γ 4 mX9_readPerson [.ref 35] σ (pn_i r) := by
  refine pn_of (ls := [.ref 35, .null, .null, .null, .null, .null, .null, .null]) (by decide) rfl (pn_cat rfl) rfl (Nat.le_of_ble_eq_true rfl) ?_
  rw [fX9_readPerson]
  refine pn_aload_n dX9_readPerson_0 rfl rfl rfl ?_
  refine pn_geta dX9_readPerson_1 rfl lf_X9_9_8 qt_35 qk_35 qr_35_1 qt_8 ?_
  refine pn_geti dX9_readPerson_4 rfl lf_X9_41_7 qt_8 qk_8 qr_8_2 ?_
  refine pn_bipush dX9_readPerson_7 rfl bc_8 ?_
  refine pn_icmp_ge (tgt := 25) dX9_readPerson_9 rfl rfl (fun c1 => ?_) (fun c1 => ?_)
  · exact wX9_readPerson_25 Γ σ
  · refine pn_aload_n dX9_readPerson_12 rfl rfl rfl ?_
    refine pn_geta dX9_readPerson_13 rfl lf_X9_15_8 qt_35 qk_35 qr_35_0 qt_1 ?_
    refine pn_sipush dX9_readPerson_16 rfl sc_1000 ?_
    refine pn_ci (fun r9 h9 => pn_LKV dX9_readPerson_19 lm_X9_47 (ct_X7_take Γ (1000 : Int32) σ r9 h9) (by decide) qt_1 qk_1 rfl rfl (Nat.le_of_ble_eq_true rfl)) rfl (fun x3 σ3 => ?_)
    refine pn_if_ne (tgt := 33) dX9_readPerson_22 rfl rfl (fun c4 => ?_) (fun c4 => ?_)
    · exact wX9_readPerson_25 Γ σ3
    · refine pn_aload_n dX9_readPerson_33 rfl rfl rfl ?_
      refine pn_geta dX9_readPerson_34 rfl lf_X9_15_8 qt_35 qk_35 qr_35_0 qt_1 ?_
      refine pn_sipush dX9_readPerson_37 rfl sc_1001 ?_
      refine pn_bipush dX9_readPerson_40 rfl bc_8 ?_
      refine pn_ci (fun r9 h9 => pn_LKV dX9_readPerson_42 lm_X9_54 (ct_X7_takeNumberAfter Γ (1001 : Int32) (8 : Int32) σ3 r9 h9) (by decide) qt_1 qk_1 rfl rfl (Nat.le_of_ble_eq_true rfl)) rfl (fun x5 σ5 => ?_)
      refine pn_istore_n (ls' := [.ref 35, .int x5, .null, .null, .null, .null, .null, .null]) dX9_readPerson_45 rfl rfl (Nat.le_of_ble_eq_true rfl) rfl ?_
      refine pn_aload_n dX9_readPerson_46 rfl rfl rfl ?_
      refine pn_geta dX9_readPerson_47 rfl lf_X9_15_8 qt_35 qk_35 qr_35_0 qt_1 ?_
      refine pn_sipush dX9_readPerson_50 rfl sc_1002 ?_
      refine pn_bipush dX9_readPerson_53 rfl bc_9 ?_
      refine pn_ci (fun r9 h9 => pn_LKV dX9_readPerson_55 lm_X9_54 (ct_X7_takeNumberAfter Γ (1002 : Int32) (9 : Int32) σ5 r9 h9) (by decide) qt_1 qk_1 rfl rfl (Nat.le_of_ble_eq_true rfl)) rfl (fun x6 σ6 => ?_)
      refine pn_istore_n (ls' := [.ref 35, .int x5, .int x6, .null, .null, .null, .null, .null]) dX9_readPerson_58 rfl rfl (Nat.le_of_ble_eq_true rfl) rfl ?_
      refine pn_aload_n dX9_readPerson_59 rfl rfl rfl ?_
      refine pn_geta dX9_readPerson_60 rfl lf_X9_15_8 qt_35 qk_35 qr_35_0 qt_1 ?_
      refine pn_sipush dX9_readPerson_63 rfl sc_1003 ?_
      refine pn_bipush dX9_readPerson_66 rfl bc_99 ?_
      refine pn_ci (fun r9 h9 => pn_LKV dX9_readPerson_68 lm_X9_54 (ct_X7_takeNumberAfter Γ (1003 : Int32) (99 : Int32) σ6 r9 h9) (by decide) qt_1 qk_1 rfl rfl (Nat.le_of_ble_eq_true rfl)) rfl (fun x7 σ7 => ?_)
      refine pn_istore_n (ls' := [.ref 35, .int x5, .int x6, .int x7, .null, .null, .null, .null]) dX9_readPerson_71 rfl rfl (Nat.le_of_ble_eq_true rfl) rfl ?_
      refine pn_aload_n dX9_readPerson_72 rfl rfl rfl ?_
      refine pn_geta dX9_readPerson_73 rfl lf_X9_15_8 qt_35 qk_35 qr_35_0 qt_1 ?_
      refine pn_sipush dX9_readPerson_76 rfl sc_1004 ?_
      refine pn_sipush dX9_readPerson_79 rfl sc_999 ?_
      refine pn_ci (fun r9 h9 => pn_LKV dX9_readPerson_82 lm_X9_54 (ct_X7_takeNumberAfter Γ (1004 : Int32) (999 : Int32) σ7 r9 h9) (by decide) qt_1 qk_1 rfl rfl (Nat.le_of_ble_eq_true rfl)) rfl (fun x8 σ8 => ?_)
      refine pn_istore (ls' := [.ref 35, .int x5, .int x6, .int x7, .int x8, .null, .null, .null]) dX9_readPerson_85 rfl (Nat.le_of_ble_eq_true rfl) rfl ?_
      refine pn_aload_n dX9_readPerson_87 rfl rfl rfl ?_
      refine pn_geta dX9_readPerson_88 rfl lf_X9_15_8 qt_35 qk_35 qr_35_0 qt_1 ?_
      refine pn_sipush dX9_readPerson_91 rfl sc_1005 ?_
      refine pn_ci (fun r9 h9 => pn_LKV dX9_readPerson_94 lm_X9_47 (ct_X7_take Γ (1005 : Int32) σ8 r9 h9) (by decide) qt_1 qk_1 rfl rfl (Nat.le_of_ble_eq_true rfl)) rfl (fun x9 σ9 => ?_)
      refine pn_istore (ls' := [.ref 35, .int x5, .int x6, .int x7, .int x8, .int x9, .null, .null]) dX9_readPerson_97 rfl (Nat.le_of_ble_eq_true rfl) rfl ?_
      refine pn_aload_n dX9_readPerson_99 rfl rfl rfl ?_
      refine pn_geta dX9_readPerson_100 rfl lf_X9_15_8 qt_35 qk_35 qr_35_0 qt_1 ?_
      refine pn_sipush dX9_readPerson_103 rfl sc_1006 ?_
      refine pn_ci (fun r9 h9 => pn_LKV dX9_readPerson_106 lm_X9_47 (ct_X7_take Γ (1006 : Int32) σ9 r9 h9) (by decide) qt_1 qk_1 rfl rfl (Nat.le_of_ble_eq_true rfl)) rfl (fun x10 σ10 => ?_)
      refine pn_istore (ls' := [.ref 35, .int x5, .int x6, .int x7, .int x8, .int x9, .int x10, .null]) dX9_readPerson_109 rfl (Nat.le_of_ble_eq_true rfl) rfl ?_
      refine pn_aload_n dX9_readPerson_111 rfl rfl rfl ?_
      refine pn_geta dX9_readPerson_112 rfl lf_X9_15_8 qt_35 qk_35 qr_35_0 qt_1 ?_
      refine pn_geti dX9_readPerson_115 rfl lf_X9_58_6 qt_1 qk_1 qr_1_7 ?_
      refine pn_iconst dX9_readPerson_118 rfl ic_m1 ?_
      refine pn_icmp_eq (tgt := 124) dX9_readPerson_119 rfl rfl (fun c11 => ?_) (fun c11 => ?_)
      · refine pn_aload_n dX9_readPerson_124 rfl rfl rfl ?_
        refine pn_geta dX9_readPerson_125 rfl lf_X9_9_8 qt_35 qk_35 qr_35_1 qt_8 ?_
        refine pn_ci (fun r9 h9 => pn_LKV dX9_readPerson_128 lm_X9_61 (ct_X8_addPerson Γ 8 qv_8 σ10 r9 h9) (by decide) qt_8 qk_8 rfl rfl (Nat.le_of_ble_eq_true rfl)) rfl (fun x12 σ12 => ?_)
        refine pn_istore (ls' := [.ref 35, .int x5, .int x6, .int x7, .int x8, .int x9, .int x10, .int x12]) dX9_readPerson_131 rfl (Nat.le_of_ble_eq_true rfl) rfl ?_
        refine pn_aload_n dX9_readPerson_133 rfl rfl rfl ?_
        refine pn_geta dX9_readPerson_134 rfl lf_X9_9_8 qt_35 qk_35 qr_35_1 qt_8 ?_
        refine pn_iload dX9_readPerson_137 rfl rfl ?_
        refine pn_iconst dX9_readPerson_139 rfl ic_0 ?_
        refine pn_iload_n dX9_readPerson_140 rfl rfl rfl ?_
        refine pn_ci (fun r9 h9 => pn_LKV dX9_readPerson_141 lm_X9_64 (ct_X8_tell Γ 8 qv_8 x12 (0 : Int32) x5 σ12 r9 h9) (by decide) qt_8 qk_8 rfl rfl (Nat.le_of_ble_eq_true rfl)) rfl (fun x13 σ13 => ?_)
        refine pn_popi dX9_readPerson_144 rfl ?_
        refine pn_aload_n dX9_readPerson_145 rfl rfl rfl ?_
        refine pn_geta dX9_readPerson_146 rfl lf_X9_9_8 qt_35 qk_35 qr_35_1 qt_8 ?_
        refine pn_iload dX9_readPerson_149 rfl rfl ?_
        refine pn_iconst dX9_readPerson_151 rfl ic_1 ?_
        refine pn_iload_n dX9_readPerson_152 rfl rfl rfl ?_
        refine pn_ci (fun r9 h9 => pn_LKV dX9_readPerson_153 lm_X9_64 (ct_X8_tell Γ 8 qv_8 x12 (1 : Int32) x6 σ13 r9 h9) (by decide) qt_8 qk_8 rfl rfl (Nat.le_of_ble_eq_true rfl)) rfl (fun x14 σ14 => ?_)
        refine pn_popi dX9_readPerson_156 rfl ?_
        refine pn_aload_n dX9_readPerson_157 rfl rfl rfl ?_
        refine pn_geta dX9_readPerson_158 rfl lf_X9_9_8 qt_35 qk_35 qr_35_1 qt_8 ?_
        refine pn_iload dX9_readPerson_161 rfl rfl ?_
        refine pn_iconst dX9_readPerson_163 rfl ic_2 ?_
        refine pn_iload_n dX9_readPerson_164 rfl rfl rfl ?_
        refine pn_ci (fun r9 h9 => pn_LKV dX9_readPerson_165 lm_X9_64 (ct_X8_tell Γ 8 qv_8 x12 (2 : Int32) x7 σ14 r9 h9) (by decide) qt_8 qk_8 rfl rfl (Nat.le_of_ble_eq_true rfl)) rfl (fun x15 σ15 => ?_)
        refine pn_popi dX9_readPerson_168 rfl ?_
        refine pn_aload_n dX9_readPerson_169 rfl rfl rfl ?_
        refine pn_geta dX9_readPerson_170 rfl lf_X9_9_8 qt_35 qk_35 qr_35_1 qt_8 ?_
        refine pn_iload dX9_readPerson_173 rfl rfl ?_
        refine pn_iconst dX9_readPerson_175 rfl ic_3 ?_
        refine pn_iload dX9_readPerson_176 rfl rfl ?_
        refine pn_ci (fun r9 h9 => pn_LKV dX9_readPerson_178 lm_X9_64 (ct_X8_tell Γ 8 qv_8 x12 (3 : Int32) x8 σ15 r9 h9) (by decide) qt_8 qk_8 rfl rfl (Nat.le_of_ble_eq_true rfl)) rfl (fun x16 σ16 => ?_)
        refine pn_popi dX9_readPerson_181 rfl ?_
        refine pn_aload_n dX9_readPerson_182 rfl rfl rfl ?_
        refine pn_geta dX9_readPerson_183 rfl lf_X9_9_8 qt_35 qk_35 qr_35_1 qt_8 ?_
        refine pn_iload dX9_readPerson_186 rfl rfl ?_
        refine pn_bipush dX9_readPerson_188 rfl bc_6 ?_
        refine pn_iload dX9_readPerson_190 rfl rfl ?_
        refine pn_if_eq (tgt := 199) dX9_readPerson_192 rfl rfl (fun c17 => ?_) (fun c17 => ?_)
        · refine pn_iconst dX9_readPerson_199 rfl ic_0 ?_
          exact pn_wk (pn_leC rfl (pn_leN (pn_leN (pn_leN (pn_leN (pn_leN (pn_leC rfl (pn_leC rfl pn_le0)))))))) (wX9_readPerson_200 Γ x10 x12 x12 (6 : Int32) (0 : Int32) σ16)
        · refine pn_iconst dX9_readPerson_195 rfl ic_1 ?_
          refine pn_goto (pc' := 200) dX9_readPerson_196 rfl ?_
          exact pn_wk (pn_leC rfl (pn_leN (pn_leN (pn_leN (pn_leN (pn_leN (pn_leC rfl (pn_leC rfl pn_le0)))))))) (wX9_readPerson_200 Γ x10 x12 x12 (6 : Int32) (1 : Int32) σ16)
      · refine pn_iconst dX9_readPerson_122 rfl ic_0 ?_
        exact pn_iretv dX9_readPerson_123 rfl rfl rfl

set_option maxRecDepth 20000 in
set_option maxHeartbeats 4000000 in
theorem ct_X9_readWrong (Γ : pn_G)  (σ : pn_S) : ∀ r, fX9_readWrong  σ = some r → pn_C Γ 4 mX9_readWrong [.ref 35] σ (pn_i r) := by
  refine pn_of (ls := [.ref 35, .null, .null]) (by decide) rfl (pn_cat rfl) rfl (Nat.le_of_ble_eq_true rfl) ?_
  rw [fX9_readWrong]
  refine pn_aload_n dX9_readWrong_0 rfl rfl rfl ?_
  refine pn_geta dX9_readWrong_1 rfl lf_X9_15_8 qt_35 qk_35 qr_35_0 qt_1 ?_
  refine pn_sipush dX9_readWrong_4 rfl sc_1007 ?_
  refine pn_aload_n dX9_readWrong_7 rfl rfl rfl ?_
  refine pn_geta dX9_readWrong_8 rfl lf_X9_9_8 qt_35 qk_35 qr_35_1 qt_8 ?_
  refine pn_geti dX9_readWrong_11 rfl lf_X9_41_7 qt_8 qk_8 qr_8_2 ?_
  refine pn_iconst dX9_readWrong_14 rfl ic_1 ?_
  refine pn_isub dX9_readWrong_15 rfl ?_
  refine pn_ci (fun r9 h9 => pn_LKV dX9_readWrong_16 lm_X9_54 (ct_X7_takeNumberAfter Γ (1007 : Int32) ((σ 8 2) - (1 : Int32)) σ r9 h9) (by decide) qt_1 qk_1 rfl rfl (Nat.le_of_ble_eq_true rfl)) rfl (fun x1 σ1 => ?_)
  refine pn_istore_n (ls' := [.ref 35, .int x1, .null]) dX9_readWrong_19 rfl rfl (Nat.le_of_ble_eq_true rfl) rfl ?_
  refine pn_aload_n dX9_readWrong_20 rfl rfl rfl ?_
  refine pn_geta dX9_readWrong_21 rfl lf_X9_15_8 qt_35 qk_35 qr_35_0 qt_1 ?_
  refine pn_bipush dX9_readWrong_24 rfl bc_9 ?_
  refine pn_ci (fun r9 h9 => pn_LKV dX9_readWrong_26 lm_X9_68 (ct_X7_takeNumber Γ (9 : Int32) σ1 r9 h9) (by decide) qt_1 qk_1 rfl rfl (Nat.le_of_ble_eq_true rfl)) rfl (fun x2 σ2 => ?_)
  refine pn_istore_n (ls' := [.ref 35, .int x1, .int x2]) dX9_readWrong_29 rfl rfl (Nat.le_of_ble_eq_true rfl) rfl ?_
  refine pn_aload_n dX9_readWrong_30 rfl rfl rfl ?_
  refine pn_geta dX9_readWrong_31 rfl lf_X9_15_8 qt_35 qk_35 qr_35_0 qt_1 ?_
  refine pn_geti dX9_readWrong_34 rfl lf_X9_58_6 qt_1 qk_1 qr_1_7 ?_
  refine pn_iconst dX9_readWrong_37 rfl ic_m1 ?_
  refine pn_icmp_eq (tgt := 43) dX9_readWrong_38 rfl rfl (fun c3 => ?_) (fun c3 => ?_)
  · refine pn_aload_n dX9_readWrong_43 rfl rfl rfl ?_
    refine pn_geta dX9_readWrong_44 rfl lf_X9_9_8 qt_35 qk_35 qr_35_1 qt_8 ?_
    refine pn_iload_n dX9_readWrong_47 rfl rfl rfl ?_
    refine pn_iconst dX9_readWrong_48 rfl ic_4 ?_
    refine pn_iload_n dX9_readWrong_49 rfl rfl rfl ?_
    refine pn_ci (fun r9 h9 => pn_LKV dX9_readWrong_50 lm_X9_64 (ct_X8_tell Γ 8 qv_8 x1 (4 : Int32) x2 σ2 r9 h9) (by decide) qt_8 qk_8 rfl rfl (Nat.le_of_ble_eq_true rfl)) rfl (fun x4 σ4 => ?_)
    refine pn_popi dX9_readWrong_53 rfl ?_
    refine pn_iconst dX9_readWrong_54 rfl ic_1 ?_
    exact pn_iretv dX9_readWrong_55 rfl rfl rfl
  · refine pn_iconst dX9_readWrong_41 rfl ic_0 ?_
    exact pn_iretv dX9_readWrong_42 rfl rfl rfl

set_option maxRecDepth 20000 in
set_option maxHeartbeats 4000000 in
theorem wX9_readFeud_44 (Γ : pn_G)   (σ : pn_S) : pn_W9 Γ 4 mX9_readFeud pn_i 44 [.ref 35, .null, .null] [] σ (fX9_readFeud_44  σ) := by
  rw [fX9_readFeud_44]
  refine pn_aload_n dX9_readFeud_44 rfl rfl rfl ?_
  refine pn_geta dX9_readFeud_45 rfl lf_X9_15_8 qt_35 qk_35 qr_35_0 qt_1 ?_
  refine pn_ci (fun r9 h9 => pn_LKV dX9_readFeud_48 lm_X9_51 (ct_X7_fail Γ σ r9 h9) (by decide) qt_1 qk_1 rfl rfl (Nat.le_of_ble_eq_true rfl)) rfl (fun x4 σ4 => ?_)
  exact pn_iretb dX9_readFeud_51 rfl rfl

set_option maxRecDepth 20000 in
set_option maxHeartbeats 4000000 in
theorem ct_X9_readFeud (Γ : pn_G)  (σ : pn_S) : ∀ r, fX9_readFeud  σ = some r → pn_C Γ 4 mX9_readFeud [.ref 35] σ (pn_i r) := by
  refine pn_of (ls := [.ref 35, .null, .null]) (by decide) rfl (pn_cat rfl) rfl (Nat.le_of_ble_eq_true rfl) ?_
  rw [fX9_readFeud]
  refine pn_aload_n dX9_readFeud_0 rfl rfl rfl ?_
  refine pn_geta dX9_readFeud_1 rfl lf_X9_15_8 qt_35 qk_35 qr_35_0 qt_1 ?_
  refine pn_sipush dX9_readFeud_4 rfl sc_1008 ?_
  refine pn_aload_n dX9_readFeud_7 rfl rfl rfl ?_
  refine pn_geta dX9_readFeud_8 rfl lf_X9_9_8 qt_35 qk_35 qr_35_1 qt_8 ?_
  refine pn_geti dX9_readFeud_11 rfl lf_X9_41_7 qt_8 qk_8 qr_8_2 ?_
  refine pn_iconst dX9_readFeud_14 rfl ic_1 ?_
  refine pn_isub dX9_readFeud_15 rfl ?_
  refine pn_ci (fun r9 h9 => pn_LKV dX9_readFeud_16 lm_X9_54 (ct_X7_takeNumberAfter Γ (1008 : Int32) ((σ 8 2) - (1 : Int32)) σ r9 h9) (by decide) qt_1 qk_1 rfl rfl (Nat.le_of_ble_eq_true rfl)) rfl (fun x1 σ1 => ?_)
  refine pn_istore_n (ls' := [.ref 35, .int x1, .null]) dX9_readFeud_19 rfl rfl (Nat.le_of_ble_eq_true rfl) rfl ?_
  refine pn_aload_n dX9_readFeud_20 rfl rfl rfl ?_
  refine pn_geta dX9_readFeud_21 rfl lf_X9_15_8 qt_35 qk_35 qr_35_0 qt_1 ?_
  refine pn_sipush dX9_readFeud_24 rfl sc_1009 ?_
  refine pn_ci (fun r9 h9 => pn_LKV dX9_readFeud_27 lm_X9_47 (ct_X7_take Γ (1009 : Int32) σ1 r9 h9) (by decide) qt_1 qk_1 rfl rfl (Nat.le_of_ble_eq_true rfl)) rfl (fun x2 σ2 => ?_)
  refine pn_if_eq (tgt := 44) dX9_readFeud_30 rfl rfl (fun c3 => ?_) (fun c3 => ?_)
  · exact pn_wk (pn_leC rfl (pn_leN (pn_leN pn_le0))) (wX9_readFeud_44 Γ σ2)
  · refine pn_aload_n dX9_readFeud_33 rfl rfl rfl ?_
    refine pn_geta dX9_readFeud_34 rfl lf_X9_15_8 qt_35 qk_35 qr_35_0 qt_1 ?_
    refine pn_cp (fun r9 h9 => pn_LKV dX9_readFeud_37 lm_X9_19 (ct_X7_nextThing Γ σ2 r9 h9) (by decide) qt_1 qk_1 rfl rfl (Nat.le_of_ble_eq_true rfl)) rfl (fun x5 => ?_)
    refine pn_iload_n dX9_readFeud_40 rfl rfl rfl ?_
    refine pn_icmp_ne (tgt := 52) dX9_readFeud_41 rfl rfl (fun c6 => ?_) (fun c6 => ?_)
    · exact pn_wk (pn_leC rfl (pn_leN (pn_leN pn_le0))) (wX9_readFeud_44 Γ σ2)
    · refine pn_aload_n dX9_readFeud_52 rfl rfl rfl ?_
      refine pn_geta dX9_readFeud_53 rfl lf_X9_15_8 qt_35 qk_35 qr_35_0 qt_1 ?_
      refine pn_aload_n dX9_readFeud_56 rfl rfl rfl ?_
      refine pn_geta dX9_readFeud_57 rfl lf_X9_9_8 qt_35 qk_35 qr_35_1 qt_8 ?_
      refine pn_geti dX9_readFeud_60 rfl lf_X9_41_7 qt_8 qk_8 qr_8_2 ?_
      refine pn_iconst dX9_readFeud_63 rfl ic_1 ?_
      refine pn_isub dX9_readFeud_64 rfl ?_
      refine pn_ci (fun r9 h9 => pn_LKV dX9_readFeud_65 lm_X9_68 (ct_X7_takeNumber Γ ((σ2 8 2) - (1 : Int32)) σ2 r9 h9) (by decide) qt_1 qk_1 rfl rfl (Nat.le_of_ble_eq_true rfl)) rfl (fun x7 σ7 => ?_)
      refine pn_istore_n (ls' := [.ref 35, .int x1, .int x7]) dX9_readFeud_68 rfl rfl (Nat.le_of_ble_eq_true rfl) rfl ?_
      refine pn_aload_n dX9_readFeud_69 rfl rfl rfl ?_
      refine pn_geta dX9_readFeud_70 rfl lf_X9_15_8 qt_35 qk_35 qr_35_0 qt_1 ?_
      refine pn_geti dX9_readFeud_73 rfl lf_X9_58_6 qt_1 qk_1 qr_1_7 ?_
      refine pn_iconst dX9_readFeud_76 rfl ic_m1 ?_
      refine pn_icmp_eq (tgt := 82) dX9_readFeud_77 rfl rfl (fun c8 => ?_) (fun c8 => ?_)
      · refine pn_aload_n dX9_readFeud_82 rfl rfl rfl ?_
        refine pn_geta dX9_readFeud_83 rfl lf_X9_9_8 qt_35 qk_35 qr_35_1 qt_8 ?_
        refine pn_iload_n dX9_readFeud_86 rfl rfl rfl ?_
        refine pn_iconst dX9_readFeud_87 rfl ic_5 ?_
        refine pn_iload_n dX9_readFeud_88 rfl rfl rfl ?_
        refine pn_ci (fun r9 h9 => pn_LKV dX9_readFeud_89 lm_X9_64 (ct_X8_tell Γ 8 qv_8 x1 (5 : Int32) x7 σ7 r9 h9) (by decide) qt_8 qk_8 rfl rfl (Nat.le_of_ble_eq_true rfl)) rfl (fun x9 σ9 => ?_)
        refine pn_popi dX9_readFeud_92 rfl ?_
        refine pn_iconst dX9_readFeud_93 rfl ic_1 ?_
        exact pn_iretv dX9_readFeud_94 rfl rfl rfl
      · refine pn_iconst dX9_readFeud_80 rfl ic_0 ?_
        exact pn_iretv dX9_readFeud_81 rfl rfl rfl

