set_option maxRecDepth 20000 in
set_option maxHeartbeats 4000000 in
theorem wX11_feuded_68 (Γ : pn_G)  (rec31 : Int32 → Int32 → Int32 → Int32 → pn_S → Option (Int32 × pn_S)) (hrec31 : ∀ (l1 : Int32) (l2 : Int32) (l3 : Int32) (l4 : Int32) (σ : pn_S), pn_W9 Γ 9 mX11_feuded pn_i 31 [.ref 85, .int l1, .int l2, .int l3, .int l4] [] σ (rec31 l1 l2 l3 l4 σ)) (l1 : Int32) (l2 : Int32) (l4 : Int32) (s0 : Int32) (σ : pn_S) : pn_W9 Γ 9 mX11_feuded pn_i 68 [.ref 85, .int l1, .int l2, .null, .int l4] [.int s0] σ (fX11_feuded_68 rec31 l1 l2 l4 s0 σ) := by
  rw [fX11_feuded_68]
  refine pn_iconst dX11_feuded_68 rfl ic_0 ?_
  refine pn_ior dX11_feuded_69 rfl ?_
  refine pn_istore_n (ls' := [.ref 85, .int l1, .int l2, .int (s0 ||| (0 : Int32)), .int l4]) dX11_feuded_70 rfl rfl (Nat.le_of_ble_eq_true rfl) rfl ?_
  refine pn_iinc (ls' := [.ref 85, .int l1, .int l2, .int (s0 ||| (0 : Int32)), .int (l4 + (1 : Int32))]) dX11_feuded_71 rfl (Nat.le_of_ble_eq_true rfl) rfl (congrArg (fun z => l4 + z) ic_1) rfl ?_
  refine pn_goto (pc' := 31) dX11_feuded_74 rfl ?_
  exact hrec31 l1 l2 (s0 ||| (0 : Int32)) (l4 + (1 : Int32)) σ

set_option maxRecDepth 20000 in
set_option maxHeartbeats 4000000 in
theorem wX11_feuded_31 (Γ : pn_G)  : ∀ (n9 : Nat) (l1 : Int32) (l2 : Int32) (l3 : Int32) (l4 : Int32) (σ : pn_S), pn_W9 Γ 9 mX11_feuded pn_i 31 [.ref 85, .int l1, .int l2, .int l3, .int l4] [] σ (fX11_feuded_31 n9 l1 l2 l3 l4 σ) := by
  intro n9
  induction n9 with
  | zero => intro l1 l2 l3 l4 σ; exact pn_none
  | succ n9 ih =>
    intro l1 l2 l3 l4 σ
    rw [fX11_feuded_31]
    refine pn_iload dX11_feuded_31 rfl rfl ?_
    refine pn_aload_n dX11_feuded_33 rfl rfl rfl ?_
    refine pn_cp (fun r9 h9 => pn_LKV dX11_feuded_34 lm_X11_55 (ct_X11_people Γ σ r9 h9) (by decide) qt_85 qk_85 rfl rfl (Nat.le_of_ble_eq_true rfl)) rfl (fun x5 => ?_)
    refine pn_icmp_ge (tgt := 77) dX11_feuded_37 rfl rfl (fun c6 => ?_) (fun c6 => ?_)
    · refine pn_iload_n dX11_feuded_77 rfl rfl rfl ?_
      exact pn_iretv dX11_feuded_78 rfl rfl rfl
    · refine pn_iload_n dX11_feuded_40 rfl rfl rfl ?_
      refine pn_iload_n dX11_feuded_41 rfl rfl rfl ?_
      refine pn_iload dX11_feuded_42 rfl rfl ?_
      refine pn_cp (fun r9 h9 => pn_LKS dX11_feuded_44 lm_X11_274 (ct_X11_has Γ l2 l4 σ r9 h9) (by decide) rfl rfl (Nat.le_of_ble_eq_true rfl)) rfl (fun x7 => ?_)
      refine pn_if_eq (tgt := 68) dX11_feuded_47 rfl rfl (fun c8 => ?_) (fun c8 => ?_)
      · exact pn_wk (pn_leC rfl (pn_leC rfl (pn_leC rfl (pn_leN (pn_leC rfl pn_le0))))) (wX11_feuded_68 Γ (fX11_feuded_31 n9) (ih) l1 l2 l4 l3 σ)
      · refine pn_aload_n dX11_feuded_50 rfl rfl rfl ?_
        refine pn_iload dX11_feuded_51 rfl rfl ?_
        refine pn_iconst dX11_feuded_53 rfl ic_5 ?_
        refine pn_cp (fun r9 h9 => pn_LKV dX11_feuded_54 lm_X11_67 (ct_X11_of Γ l4 (5 : Int32) σ r9 h9) (by decide) qt_85 qk_85 rfl rfl (Nat.le_of_ble_eq_true rfl)) rfl (fun x9 => ?_)
        refine pn_iload_n dX11_feuded_57 rfl rfl rfl ?_
        refine pn_icmp_ne (tgt := 68) dX11_feuded_58 rfl rfl (fun c10 => ?_) (fun c10 => ?_)
        · refine pn_iconst dX11_feuded_61 rfl ic_1 ?_
          refine pn_iload dX11_feuded_62 rfl rfl ?_
          refine pn_ishl dX11_feuded_64 rfl ?_
          refine pn_goto (pc' := 69) dX11_feuded_65 rfl ?_
          refine pn_ior dX11_feuded_69 rfl ?_
          refine pn_istore_n (ls' := [.ref 85, .int l1, .int l2, .int (l3 ||| ((1 : Int32) <<< (l4 &&& 31))), .int l4]) dX11_feuded_70 rfl rfl (Nat.le_of_ble_eq_true rfl) rfl ?_
          refine pn_iinc (ls' := [.ref 85, .int l1, .int l2, .int (l3 ||| ((1 : Int32) <<< (l4 &&& 31))), .int (l4 + (1 : Int32))]) dX11_feuded_71 rfl (Nat.le_of_ble_eq_true rfl) rfl (congrArg (fun z => l4 + z) ic_1) rfl ?_
          refine pn_goto (pc' := 31) dX11_feuded_74 rfl ?_
          exact ih l1 l2 (l3 ||| ((1 : Int32) <<< (l4 &&& 31))) (l4 + (1 : Int32)) σ
        · exact pn_wk (pn_leC rfl (pn_leC rfl (pn_leC rfl (pn_leN (pn_leC rfl pn_le0))))) (wX11_feuded_68 Γ (fX11_feuded_31 n9) (ih) l1 l2 l4 l3 σ)

set_option maxRecDepth 20000 in
set_option maxHeartbeats 4000000 in
theorem ct_X11_feuded (Γ : pn_G) (a1 : Int32) (σ : pn_S) : ∀ r, fX11_feuded a1 σ = some r → pn_C Γ 9 mX11_feuded [.ref 85, .int a1] σ (pn_i r) := by
  refine pn_of (ls := [.ref 85, .int a1, .null, .null, .null]) (by decide) rfl (pn_cat rfl) rfl (Nat.le_of_ble_eq_true rfl) ?_
  rw [fX11_feuded]
  refine pn_aload_n dX11_feuded_0 rfl rfl rfl ?_
  refine pn_iconst dX11_feuded_1 rfl ic_0 ?_
  refine pn_puti dX11_feuded_2 rfl lf_X11_3_10 (fpi_10_0 (0 : Int32)) qt_85 qk_85 qr_85_0 ?_
  refine pn_aload_n dX11_feuded_5 rfl rfl rfl ?_
  refine pn_aload_n dX11_feuded_6 rfl rfl rfl ?_
  refine pn_iload_n dX11_feuded_7 rfl rfl rfl ?_
  refine pn_cp (fun r9 h9 => pn_LKV dX11_feuded_8 lm_X11_259 (ct_X11_nobody Γ a1 (pn_up σ 85 0 (0 : Int32)) r9 h9) (by decide) qt_85 qk_85 rfl rfl (Nat.le_of_ble_eq_true rfl)) rfl (fun x1 => ?_)
  refine pn_iconst dX11_feuded_11 rfl ic_1 ?_
  refine pn_ci (fun r9 h9 => pn_LKV dX11_feuded_12 lm_X11_240 (ct_X11_throwsIf Γ x1 (1 : Int32) (pn_up σ 85 0 (0 : Int32)) r9 h9) (by decide) qt_85 qk_85 rfl rfl (Nat.le_of_ble_eq_true rfl)) rfl (fun x2 σ2 => ?_)
  refine pn_if_eq (tgt := 20) dX11_feuded_15 rfl rfl (fun c3 => ?_) (fun c3 => ?_)
  · refine pn_aload_n dX11_feuded_20 rfl rfl rfl ?_
    refine pn_iload_n dX11_feuded_21 rfl rfl rfl ?_
    refine pn_ci (fun r9 h9 => pn_LKV dX11_feuded_22 lm_X11_293 (ct_X11_crowdOf Γ a1 σ2 r9 h9) (by decide) qt_85 qk_85 rfl rfl (Nat.le_of_ble_eq_true rfl)) rfl (fun x4 σ4 => ?_)
    refine pn_istore_n (ls' := [.ref 85, .int a1, .int x4, .null, .null]) dX11_feuded_25 rfl rfl (Nat.le_of_ble_eq_true rfl) rfl ?_
    refine pn_iconst dX11_feuded_26 rfl ic_0 ?_
    refine pn_istore_n (ls' := [.ref 85, .int a1, .int x4, .int (0 : Int32), .null]) dX11_feuded_27 rfl rfl (Nat.le_of_ble_eq_true rfl) rfl ?_
    refine pn_iconst dX11_feuded_28 rfl ic_0 ?_
    refine pn_istore (ls' := [.ref 85, .int a1, .int x4, .int (0 : Int32), .int (0 : Int32)]) dX11_feuded_29 rfl (Nat.le_of_ble_eq_true rfl) rfl ?_
    exact wX11_feuded_31 Γ 5000 a1 x4 (0 : Int32) (0 : Int32) σ4
  · refine pn_iconst dX11_feuded_18 rfl ic_0 ?_
    exact pn_iretv dX11_feuded_19 rfl rfl rfl

set_option maxRecDepth 20000 in
set_option maxHeartbeats 4000000 in
theorem wX11_feuds_49 (Γ : pn_G)  (rec9 : Int32 → Int32 → pn_S → Option (Int32 × pn_S)) (hrec9 : ∀ (l1 : Int32) (l2 : Int32) (σ : pn_S), pn_W9 Γ 3 mX11_feuds pn_i 9 [.ref 85, .int l1, .int l2, .null] [] σ (rec9 l1 l2 σ)) (rec19 : Int32 → Int32 → Int32 → pn_S → Option (Int32 × pn_S)) (hrec19 : ∀ (l1 : Int32) (l2 : Int32) (l3 : Int32) (σ : pn_S), pn_W9 Γ 3 mX11_feuds pn_i 19 [.ref 85, .int l1, .int l2, .int l3] [] σ (rec19 l1 l2 l3 σ)) (l2 : Int32) (l3 : Int32) (s0 : Int32) (σ : pn_S) : pn_W9 Γ 3 mX11_feuds pn_i 49 [.ref 85, .null, .int l2, .int l3] [.int s0] σ (fX11_feuds_49 rec9 rec19 l2 l3 s0 σ) := by
  rw [fX11_feuds_49]
  refine pn_iconst dX11_feuds_49 rfl ic_0 ?_
  refine pn_iadd dX11_feuds_50 rfl ?_
  refine pn_istore_n (ls' := [.ref 85, .int (s0 + (0 : Int32)), .int l2, .int l3]) dX11_feuds_51 rfl rfl (Nat.le_of_ble_eq_true rfl) rfl ?_
  refine pn_iinc (ls' := [.ref 85, .int (s0 + (0 : Int32)), .int l2, .int (l3 + (1 : Int32))]) dX11_feuds_52 rfl (Nat.le_of_ble_eq_true rfl) rfl (congrArg (fun z => l3 + z) ic_1) rfl ?_
  refine pn_goto (pc' := 19) dX11_feuds_55 rfl ?_
  exact hrec19 (s0 + (0 : Int32)) l2 (l3 + (1 : Int32)) σ

set_option maxRecDepth 20000 in
set_option maxHeartbeats 4000000 in
theorem wX11_feuds_19 (Γ : pn_G)  (rec9 : Int32 → Int32 → pn_S → Option (Int32 × pn_S)) (hrec9 : ∀ (l1 : Int32) (l2 : Int32) (σ : pn_S), pn_W9 Γ 3 mX11_feuds pn_i 9 [.ref 85, .int l1, .int l2, .null] [] σ (rec9 l1 l2 σ)) : ∀ (n9 : Nat) (l1 : Int32) (l2 : Int32) (l3 : Int32) (σ : pn_S), pn_W9 Γ 3 mX11_feuds pn_i 19 [.ref 85, .int l1, .int l2, .int l3] [] σ (fX11_feuds_19 rec9 n9 l1 l2 l3 σ) := by
  intro n9
  induction n9 with
  | zero => intro l1 l2 l3 σ; exact pn_none
  | succ n9 ih =>
    intro l1 l2 l3 σ
    rw [fX11_feuds_19]
    refine pn_iload_n dX11_feuds_19 rfl rfl rfl ?_
    refine pn_iload_n dX11_feuds_20 rfl rfl rfl ?_
    refine pn_icmp_ge (tgt := 58) dX11_feuds_21 rfl rfl (fun c3 => ?_) (fun c3 => ?_)
    · refine pn_iinc (ls' := [.ref 85, .int l1, .int (l2 + (1 : Int32)), .int l3]) dX11_feuds_58 rfl (Nat.le_of_ble_eq_true rfl) rfl (congrArg (fun z => l2 + z) ic_1) rfl ?_
      refine pn_goto (pc' := 9) dX11_feuds_61 rfl ?_
      exact pn_wk (pn_leC rfl (pn_leC rfl (pn_leC rfl (pn_leN pn_le0)))) (hrec9 l1 (l2 + (1 : Int32)) σ)
    · refine pn_iload_n dX11_feuds_24 rfl rfl rfl ?_
      refine pn_aload_n dX11_feuds_25 rfl rfl rfl ?_
      refine pn_iload_n dX11_feuds_26 rfl rfl rfl ?_
      refine pn_iconst dX11_feuds_27 rfl ic_5 ?_
      refine pn_cp (fun r9 h9 => pn_LKV dX11_feuds_28 lm_X11_67 (ct_X11_of Γ l2 (5 : Int32) σ r9 h9) (by decide) qt_85 qk_85 rfl rfl (Nat.le_of_ble_eq_true rfl)) rfl (fun x4 => ?_)
      refine pn_iload_n dX11_feuds_31 rfl rfl rfl ?_
      refine pn_icmp_ne (tgt := 49) dX11_feuds_32 rfl rfl (fun c5 => ?_) (fun c5 => ?_)
      · refine pn_aload_n dX11_feuds_35 rfl rfl rfl ?_
        refine pn_iload_n dX11_feuds_36 rfl rfl rfl ?_
        refine pn_iconst dX11_feuds_37 rfl ic_5 ?_
        refine pn_cp (fun r9 h9 => pn_LKV dX11_feuds_38 lm_X11_67 (ct_X11_of Γ l3 (5 : Int32) σ r9 h9) (by decide) qt_85 qk_85 rfl rfl (Nat.le_of_ble_eq_true rfl)) rfl (fun x6 => ?_)
        refine pn_iload_n dX11_feuds_41 rfl rfl rfl ?_
        refine pn_icmp_ne (tgt := 49) dX11_feuds_42 rfl rfl (fun c7 => ?_) (fun c7 => ?_)
        · refine pn_iconst dX11_feuds_45 rfl ic_1 ?_
          refine pn_goto (pc' := 50) dX11_feuds_46 rfl ?_
          refine pn_iadd dX11_feuds_50 rfl ?_
          refine pn_istore_n (ls' := [.ref 85, .int (l1 + (1 : Int32)), .int l2, .int l3]) dX11_feuds_51 rfl rfl (Nat.le_of_ble_eq_true rfl) rfl ?_
          refine pn_iinc (ls' := [.ref 85, .int (l1 + (1 : Int32)), .int l2, .int (l3 + (1 : Int32))]) dX11_feuds_52 rfl (Nat.le_of_ble_eq_true rfl) rfl (congrArg (fun z => l3 + z) ic_1) rfl ?_
          refine pn_goto (pc' := 19) dX11_feuds_55 rfl ?_
          exact ih (l1 + (1 : Int32)) l2 (l3 + (1 : Int32)) σ
        · exact pn_wk (pn_leC rfl (pn_leN (pn_leC rfl (pn_leC rfl pn_le0)))) (wX11_feuds_49 Γ (rec9) (hrec9) (fX11_feuds_19 rec9 n9) (ih) l2 l3 l1 σ)
      · exact pn_wk (pn_leC rfl (pn_leN (pn_leC rfl (pn_leC rfl pn_le0)))) (wX11_feuds_49 Γ (rec9) (hrec9) (fX11_feuds_19 rec9 n9) (ih) l2 l3 l1 σ)

set_option maxRecDepth 20000 in
set_option maxHeartbeats 4000000 in
theorem wX11_feuds_9 (Γ : pn_G)  : ∀ (n9 : Nat) (l1 : Int32) (l2 : Int32) (σ : pn_S), pn_W9 Γ 3 mX11_feuds pn_i 9 [.ref 85, .int l1, .int l2, .null] [] σ (fX11_feuds_9 n9 l1 l2 σ) := by
  intro n9
  induction n9 with
  | zero => intro l1 l2 σ; exact pn_none
  | succ n9 ih =>
    intro l1 l2 σ
    rw [fX11_feuds_9]
    refine pn_iload_n dX11_feuds_9 rfl rfl rfl ?_
    refine pn_aload_n dX11_feuds_10 rfl rfl rfl ?_
    refine pn_cp (fun r9 h9 => pn_LKV dX11_feuds_11 lm_X11_55 (ct_X11_people Γ σ r9 h9) (by decide) qt_85 qk_85 rfl rfl (Nat.le_of_ble_eq_true rfl)) rfl (fun x1 => ?_)
    refine pn_icmp_ge (tgt := 64) dX11_feuds_14 rfl rfl (fun c2 => ?_) (fun c2 => ?_)
    · refine pn_iload_n dX11_feuds_64 rfl rfl rfl ?_
      exact pn_iretv dX11_feuds_65 rfl rfl rfl
    · refine pn_iconst dX11_feuds_17 rfl ic_0 ?_
      refine pn_istore_n (ls' := [.ref 85, .int l1, .int l2, .int (0 : Int32)]) dX11_feuds_18 rfl rfl (Nat.le_of_ble_eq_true rfl) rfl ?_
      exact wX11_feuds_19 Γ (fX11_feuds_9 n9) (ih) 5000 l1 l2 (0 : Int32) σ

set_option maxRecDepth 20000 in
set_option maxHeartbeats 4000000 in
theorem ct_X11_feuds (Γ : pn_G)  (σ : pn_S) : ∀ r, fX11_feuds  σ = some r → pn_C Γ 3 mX11_feuds [.ref 85] σ (pn_i r) := by
  refine pn_of (ls := [.ref 85, .null, .null, .null]) (by decide) rfl (pn_cat rfl) rfl (Nat.le_of_ble_eq_true rfl) ?_
  rw [fX11_feuds]
  refine pn_aload_n dX11_feuds_0 rfl rfl rfl ?_
  refine pn_iconst dX11_feuds_1 rfl ic_0 ?_
  refine pn_puti dX11_feuds_2 rfl lf_X11_3_10 (fpi_10_0 (0 : Int32)) qt_85 qk_85 qr_85_0 ?_
  refine pn_iconst dX11_feuds_5 rfl ic_0 ?_
  refine pn_istore_n (ls' := [.ref 85, .int (0 : Int32), .null, .null]) dX11_feuds_6 rfl rfl (Nat.le_of_ble_eq_true rfl) rfl ?_
  refine pn_iconst dX11_feuds_7 rfl ic_0 ?_
  refine pn_istore_n (ls' := [.ref 85, .int (0 : Int32), .int (0 : Int32), .null]) dX11_feuds_8 rfl rfl (Nat.le_of_ble_eq_true rfl) rfl ?_
  exact wX11_feuds_9 Γ 5000 (0 : Int32) (0 : Int32) (pn_up σ 85 0 (0 : Int32))

set_option maxRecDepth 20000 in
set_option maxHeartbeats 4000000 in
theorem wX11_ring_58 (Γ : pn_G)  (l1 : Int32) (l2 : Int32) (σ : pn_S) : pn_W9 Γ 3 mX11_ring pn_i 58 [.null, .int l1, .int l2, .null] [] σ (fX11_ring_58 l1 l2 σ) := by
  rw [fX11_ring_58]
  refine pn_iload_n dX11_ring_58 rfl rfl rfl ?_
  refine pn_iload_n dX11_ring_59 rfl rfl rfl ?_
  refine pn_icmp_ne (tgt := 67) dX11_ring_60 rfl rfl (fun c6 => ?_) (fun c6 => ?_)
  · refine pn_iconst dX11_ring_63 rfl ic_1 ?_
    refine pn_goto (pc' := 68) dX11_ring_64 rfl ?_
    exact pn_iretv dX11_ring_68 rfl rfl rfl
  · refine pn_iconst dX11_ring_67 rfl ic_0 ?_
    exact pn_iretv dX11_ring_68 rfl rfl rfl

set_option maxRecDepth 20000 in
set_option maxHeartbeats 4000000 in
theorem wX11_ring_29 (Γ : pn_G)  : ∀ (n9 : Nat) (l1 : Int32) (l2 : Int32) (l3 : Int32) (σ : pn_S), pn_W9 Γ 3 mX11_ring pn_i 29 [.ref 85, .int l1, .int l2, .int l3] [] σ (fX11_ring_29 n9 l1 l2 l3 σ) := by
  intro n9
  induction n9 with
  | zero => intro l1 l2 l3 σ; exact pn_none
  | succ n9 ih =>
    intro l1 l2 l3 σ
    rw [fX11_ring_29]
    refine pn_iload_n dX11_ring_29 rfl rfl rfl ?_
    refine pn_bipush dX11_ring_30 rfl bc_8 ?_
    refine pn_icmp_ge (tgt := 58) dX11_ring_32 rfl rfl (fun c5 => ?_) (fun c5 => ?_)
    · exact pn_wk (pn_leN (pn_leC rfl (pn_leC rfl (pn_leN pn_le0)))) (wX11_ring_58 Γ l1 l2 σ)
    · refine pn_iload_n dX11_ring_35 rfl rfl rfl ?_
      refine pn_iconst dX11_ring_36 rfl ic_m1 ?_
      refine pn_icmp_eq (tgt := 58) dX11_ring_37 rfl rfl (fun c7 => ?_) (fun c7 => ?_)
      · exact pn_wk (pn_leN (pn_leC rfl (pn_leC rfl (pn_leN pn_le0)))) (wX11_ring_58 Γ l1 l2 σ)
      · refine pn_iload_n dX11_ring_40 rfl rfl rfl ?_
        refine pn_iload_n dX11_ring_41 rfl rfl rfl ?_
        refine pn_icmp_eq (tgt := 58) dX11_ring_42 rfl rfl (fun c8 => ?_) (fun c8 => ?_)
        · exact pn_wk (pn_leN (pn_leC rfl (pn_leC rfl (pn_leN pn_le0)))) (wX11_ring_58 Γ l1 l2 σ)
        · refine pn_aload_n dX11_ring_45 rfl rfl rfl ?_
          refine pn_iload_n dX11_ring_46 rfl rfl rfl ?_
          refine pn_iconst dX11_ring_47 rfl ic_5 ?_
          refine pn_cp (fun r9 h9 => pn_LKV dX11_ring_48 lm_X11_67 (ct_X11_of Γ l2 (5 : Int32) σ r9 h9) (by decide) qt_85 qk_85 rfl rfl (Nat.le_of_ble_eq_true rfl)) rfl (fun x9 => ?_)
          refine pn_istore_n (ls' := [.ref 85, .int l1, .int x9, .int l3]) dX11_ring_51 rfl rfl (Nat.le_of_ble_eq_true rfl) rfl ?_
          refine pn_iinc (ls' := [.ref 85, .int l1, .int x9, .int (l3 + (1 : Int32))]) dX11_ring_52 rfl (Nat.le_of_ble_eq_true rfl) rfl (congrArg (fun z => l3 + z) ic_1) rfl ?_
          refine pn_goto (pc' := 29) dX11_ring_55 rfl ?_
          exact ih l1 x9 (l3 + (1 : Int32)) σ

set_option maxRecDepth 20000 in
set_option maxHeartbeats 4000000 in
theorem ct_X11_ring (Γ : pn_G) (a1 : Int32) (σ : pn_S) : ∀ r, fX11_ring a1 σ = some r → pn_C Γ 3 mX11_ring [.ref 85, .int a1] σ (pn_i r) := by
  refine pn_of (ls := [.ref 85, .int a1, .null, .null]) (by decide) rfl (pn_cat rfl) rfl (Nat.le_of_ble_eq_true rfl) ?_
  rw [fX11_ring]
  refine pn_aload_n dX11_ring_0 rfl rfl rfl ?_
  refine pn_iconst dX11_ring_1 rfl ic_0 ?_
  refine pn_puti dX11_ring_2 rfl lf_X11_3_10 (fpi_10_0 (0 : Int32)) qt_85 qk_85 qr_85_0 ?_
  refine pn_aload_n dX11_ring_5 rfl rfl rfl ?_
  refine pn_aload_n dX11_ring_6 rfl rfl rfl ?_
  refine pn_iload_n dX11_ring_7 rfl rfl rfl ?_
  refine pn_cp (fun r9 h9 => pn_LKV dX11_ring_8 lm_X11_259 (ct_X11_nobody Γ a1 (pn_up σ 85 0 (0 : Int32)) r9 h9) (by decide) qt_85 qk_85 rfl rfl (Nat.le_of_ble_eq_true rfl)) rfl (fun x1 => ?_)
  refine pn_iconst dX11_ring_11 rfl ic_1 ?_
  refine pn_ci (fun r9 h9 => pn_LKV dX11_ring_12 lm_X11_240 (ct_X11_throwsIf Γ x1 (1 : Int32) (pn_up σ 85 0 (0 : Int32)) r9 h9) (by decide) qt_85 qk_85 rfl rfl (Nat.le_of_ble_eq_true rfl)) rfl (fun x2 σ2 => ?_)
  refine pn_if_eq (tgt := 20) dX11_ring_15 rfl rfl (fun c3 => ?_) (fun c3 => ?_)
  · refine pn_aload_n dX11_ring_20 rfl rfl rfl ?_
    refine pn_iload_n dX11_ring_21 rfl rfl rfl ?_
    refine pn_iconst dX11_ring_22 rfl ic_5 ?_
    refine pn_cp (fun r9 h9 => pn_LKV dX11_ring_23 lm_X11_67 (ct_X11_of Γ a1 (5 : Int32) σ2 r9 h9) (by decide) qt_85 qk_85 rfl rfl (Nat.le_of_ble_eq_true rfl)) rfl (fun x4 => ?_)
    refine pn_istore_n (ls' := [.ref 85, .int a1, .int x4, .null]) dX11_ring_26 rfl rfl (Nat.le_of_ble_eq_true rfl) rfl ?_
    refine pn_iconst dX11_ring_27 rfl ic_0 ?_
    refine pn_istore_n (ls' := [.ref 85, .int a1, .int x4, .int (0 : Int32)]) dX11_ring_28 rfl rfl (Nat.le_of_ble_eq_true rfl) rfl ?_
    exact wX11_ring_29 Γ 5000 a1 x4 (0 : Int32) σ2
  · refine pn_iconst dX11_ring_18 rfl ic_0 ?_
    exact pn_iretv dX11_ring_19 rfl rfl rfl

set_option maxRecDepth 20000 in
set_option maxHeartbeats 4000000 in
theorem wX11_hated_72 (Γ : pn_G)  (rec11 : Int32 → Int32 → Int32 → pn_S → Option (Int32 × pn_S)) (hrec11 : ∀ (l1 : Int32) (l2 : Int32) (l3 : Int32) (σ : pn_S), pn_W9 Γ 3 mX11_hated pn_i 11 [.ref 85, .int l1, .int l2, .int l3, .null, .null] [] σ (rec11 l1 l2 l3 σ)) (l2 : Int32) (l3 : Int32) (l4 : Int32) (s0 : Int32) (σ : pn_S) : pn_W9 Γ 3 mX11_hated pn_i 72 [.ref 85, .null, .int l2, .int l3, .int l4, .null] [.int s0] σ (fX11_hated_72 rec11 l2 l3 l4 s0 σ) := by
  rw [fX11_hated_72]
  refine pn_istore_n (ls' := [.ref 85, .int s0, .int l2, .int l3, .int l4, .null]) dX11_hated_72 rfl rfl (Nat.le_of_ble_eq_true rfl) rfl ?_
  refine pn_iload_n dX11_hated_73 rfl rfl rfl ?_
  refine pn_iload dX11_hated_74 rfl rfl ?_
  refine pn_cp (fun r9 h9 => pn_LKS dX11_hated_76 lm_X11_254 (ct_J9_max_7cf53 Γ l2 l4 σ r9 h9) (by decide) rfl rfl (Nat.le_of_ble_eq_true rfl)) rfl (fun x6 => ?_)
  refine pn_istore_n (ls' := [.ref 85, .int s0, .int x6, .int l3, .int l4, .null]) dX11_hated_79 rfl rfl (Nat.le_of_ble_eq_true rfl) rfl ?_
  refine pn_iinc (ls' := [.ref 85, .int s0, .int x6, .int (l3 + (1 : Int32)), .int l4, .null]) dX11_hated_80 rfl (Nat.le_of_ble_eq_true rfl) rfl (congrArg (fun z => l3 + z) ic_1) rfl ?_
  refine pn_goto (pc' := 11) dX11_hated_83 rfl ?_
  exact pn_wk (pn_leC rfl (pn_leC rfl (pn_leC rfl (pn_leC rfl (pn_leN (pn_leN pn_le0)))))) (hrec11 s0 x6 (l3 + (1 : Int32)) σ)

set_option maxRecDepth 20000 in
set_option maxHeartbeats 4000000 in
theorem wX11_hated_25 (Γ : pn_G)  (rec11 : Int32 → Int32 → Int32 → pn_S → Option (Int32 × pn_S)) (hrec11 : ∀ (l1 : Int32) (l2 : Int32) (l3 : Int32) (σ : pn_S), pn_W9 Γ 3 mX11_hated pn_i 11 [.ref 85, .int l1, .int l2, .int l3, .null, .null] [] σ (rec11 l1 l2 l3 σ)) : ∀ (n9 : Nat) (l1 : Int32) (l2 : Int32) (l3 : Int32) (l4 : Int32) (l5 : Int32) (σ : pn_S), pn_W9 Γ 3 mX11_hated pn_i 25 [.ref 85, .int l1, .int l2, .int l3, .int l4, .int l5] [] σ (fX11_hated_25 rec11 n9 l1 l2 l3 l4 l5 σ) := by
  intro n9
  induction n9 with
  | zero => intro l1 l2 l3 l4 l5 σ; exact pn_none
  | succ n9 ih =>
    intro l1 l2 l3 l4 l5 σ
    rw [fX11_hated_25]
    refine pn_iload dX11_hated_25 rfl rfl ?_
    refine pn_aload_n dX11_hated_27 rfl rfl rfl ?_
    refine pn_cp (fun r9 h9 => pn_LKV dX11_hated_28 lm_X11_55 (ct_X11_people Γ σ r9 h9) (by decide) qt_85 qk_85 rfl rfl (Nat.le_of_ble_eq_true rfl)) rfl (fun x3 => ?_)
    refine pn_icmp_ge (tgt := 61) dX11_hated_31 rfl rfl (fun c4 => ?_) (fun c4 => ?_)
    · refine pn_iload dX11_hated_61 rfl rfl ?_
      refine pn_iload_n dX11_hated_63 rfl rfl rfl ?_
      refine pn_icmp_le (tgt := 71) dX11_hated_64 rfl rfl (fun c5 => ?_) (fun c5 => ?_)
      · refine pn_iload_n dX11_hated_71 rfl rfl rfl ?_
        exact pn_wk (pn_leC rfl (pn_leN (pn_leC rfl (pn_leC rfl (pn_leC rfl (pn_leN pn_le0)))))) (wX11_hated_72 Γ (rec11) (hrec11) l2 l3 l4 l1 σ)
      · refine pn_iload_n dX11_hated_67 rfl rfl rfl ?_
        refine pn_goto (pc' := 72) dX11_hated_68 rfl ?_
        exact pn_wk (pn_leC rfl (pn_leN (pn_leC rfl (pn_leC rfl (pn_leC rfl (pn_leN pn_le0)))))) (wX11_hated_72 Γ (rec11) (hrec11) l2 l3 l4 l3 σ)
    · refine pn_iload dX11_hated_34 rfl rfl ?_
      refine pn_aload_n dX11_hated_36 rfl rfl rfl ?_
      refine pn_iload dX11_hated_37 rfl rfl ?_
      refine pn_iconst dX11_hated_39 rfl ic_5 ?_
      refine pn_cp (fun r9 h9 => pn_LKV dX11_hated_40 lm_X11_67 (ct_X11_of Γ l5 (5 : Int32) σ r9 h9) (by decide) qt_85 qk_85 rfl rfl (Nat.le_of_ble_eq_true rfl)) rfl (fun x7 => ?_)
      refine pn_iload_n dX11_hated_43 rfl rfl rfl ?_
      refine pn_icmp_ne (tgt := 51) dX11_hated_44 rfl rfl (fun c8 => ?_) (fun c8 => ?_)
      · refine pn_iconst dX11_hated_47 rfl ic_1 ?_
        refine pn_goto (pc' := 52) dX11_hated_48 rfl ?_
        refine pn_iadd dX11_hated_52 rfl ?_
        refine pn_istore (ls' := [.ref 85, .int l1, .int l2, .int l3, .int (l4 + (1 : Int32)), .int l5]) dX11_hated_53 rfl (Nat.le_of_ble_eq_true rfl) rfl ?_
        refine pn_iinc (ls' := [.ref 85, .int l1, .int l2, .int l3, .int (l4 + (1 : Int32)), .int (l5 + (1 : Int32))]) dX11_hated_55 rfl (Nat.le_of_ble_eq_true rfl) rfl (congrArg (fun z => l5 + z) ic_1) rfl ?_
        refine pn_goto (pc' := 25) dX11_hated_58 rfl ?_
        exact ih l1 l2 l3 (l4 + (1 : Int32)) (l5 + (1 : Int32)) σ
      · refine pn_iconst dX11_hated_51 rfl ic_0 ?_
        refine pn_iadd dX11_hated_52 rfl ?_
        refine pn_istore (ls' := [.ref 85, .int l1, .int l2, .int l3, .int (l4 + (0 : Int32)), .int l5]) dX11_hated_53 rfl (Nat.le_of_ble_eq_true rfl) rfl ?_
        refine pn_iinc (ls' := [.ref 85, .int l1, .int l2, .int l3, .int (l4 + (0 : Int32)), .int (l5 + (1 : Int32))]) dX11_hated_55 rfl (Nat.le_of_ble_eq_true rfl) rfl (congrArg (fun z => l5 + z) ic_1) rfl ?_
        refine pn_goto (pc' := 25) dX11_hated_58 rfl ?_
        exact ih l1 l2 l3 (l4 + (0 : Int32)) (l5 + (1 : Int32)) σ

set_option maxRecDepth 20000 in
set_option maxHeartbeats 4000000 in
theorem wX11_hated_11 (Γ : pn_G)  : ∀ (n9 : Nat) (l1 : Int32) (l2 : Int32) (l3 : Int32) (σ : pn_S), pn_W9 Γ 3 mX11_hated pn_i 11 [.ref 85, .int l1, .int l2, .int l3, .null, .null] [] σ (fX11_hated_11 n9 l1 l2 l3 σ) := by
  intro n9
  induction n9 with
  | zero => intro l1 l2 l3 σ; exact pn_none
  | succ n9 ih =>
    intro l1 l2 l3 σ
    rw [fX11_hated_11]
    refine pn_iload_n dX11_hated_11 rfl rfl rfl ?_
    refine pn_aload_n dX11_hated_12 rfl rfl rfl ?_
    refine pn_cp (fun r9 h9 => pn_LKV dX11_hated_13 lm_X11_55 (ct_X11_people Γ σ r9 h9) (by decide) qt_85 qk_85 rfl rfl (Nat.le_of_ble_eq_true rfl)) rfl (fun x1 => ?_)
    refine pn_icmp_ge (tgt := 86) dX11_hated_16 rfl rfl (fun c2 => ?_) (fun c2 => ?_)
    · refine pn_iload_n dX11_hated_86 rfl rfl rfl ?_
      exact pn_iretv dX11_hated_87 rfl rfl rfl
    · refine pn_iconst dX11_hated_19 rfl ic_0 ?_
      refine pn_istore (ls' := [.ref 85, .int l1, .int l2, .int l3, .int (0 : Int32), .null]) dX11_hated_20 rfl (Nat.le_of_ble_eq_true rfl) rfl ?_
      refine pn_iconst dX11_hated_22 rfl ic_0 ?_
      refine pn_istore (ls' := [.ref 85, .int l1, .int l2, .int l3, .int (0 : Int32), .int (0 : Int32)]) dX11_hated_23 rfl (Nat.le_of_ble_eq_true rfl) rfl ?_
      exact wX11_hated_25 Γ (fX11_hated_11 n9) (ih) 5000 l1 l2 l3 (0 : Int32) (0 : Int32) σ

set_option maxRecDepth 20000 in
set_option maxHeartbeats 4000000 in
theorem ct_X11_hated (Γ : pn_G)  (σ : pn_S) : ∀ r, fX11_hated  σ = some r → pn_C Γ 3 mX11_hated [.ref 85] σ (pn_i r) := by
  refine pn_of (ls := [.ref 85, .null, .null, .null, .null, .null]) (by decide) rfl (pn_cat rfl) rfl (Nat.le_of_ble_eq_true rfl) ?_
  rw [fX11_hated]
  refine pn_aload_n dX11_hated_0 rfl rfl rfl ?_
  refine pn_iconst dX11_hated_1 rfl ic_0 ?_
  refine pn_puti dX11_hated_2 rfl lf_X11_3_10 (fpi_10_0 (0 : Int32)) qt_85 qk_85 qr_85_0 ?_
  refine pn_iconst dX11_hated_5 rfl ic_m1 ?_
  refine pn_istore_n (ls' := [.ref 85, .int (-1 : Int32), .null, .null, .null, .null]) dX11_hated_6 rfl rfl (Nat.le_of_ble_eq_true rfl) rfl ?_
  refine pn_iconst dX11_hated_7 rfl ic_0 ?_
  refine pn_istore_n (ls' := [.ref 85, .int (-1 : Int32), .int (0 : Int32), .null, .null, .null]) dX11_hated_8 rfl rfl (Nat.le_of_ble_eq_true rfl) rfl ?_
  refine pn_iconst dX11_hated_9 rfl ic_0 ?_
  refine pn_istore_n (ls' := [.ref 85, .int (-1 : Int32), .int (0 : Int32), .int (0 : Int32), .null, .null]) dX11_hated_10 rfl rfl (Nat.le_of_ble_eq_true rfl) rfl ?_
  exact wX11_hated_11 Γ 5000 (-1 : Int32) (0 : Int32) (0 : Int32) (pn_up σ 85 0 (0 : Int32))

set_option maxRecDepth 20000 in
set_option maxHeartbeats 4000000 in
theorem wX11_watchedTo_11 (Γ : pn_G)  : ∀ (n9 : Nat) (l2 : Int32) (l3 : Int32) (l4 : Int32) (σ : pn_S), pn_W9 Γ 9 mX11_watchedTo pn_i 11 [.ref 85, .null, .int l2, .int l3, .int l4] [] σ (fX11_watchedTo_11 n9 l2 l3 l4 σ) := by
  intro n9
  induction n9 with
  | zero => intro l2 l3 l4 σ; exact pn_none
  | succ n9 ih =>
    intro l2 l3 l4 σ
    rw [fX11_watchedTo_11]
    refine pn_iload dX11_watchedTo_11 rfl rfl ?_
    refine pn_aload_n dX11_watchedTo_13 rfl rfl rfl ?_
    refine pn_cp (fun r9 h9 => pn_LKV dX11_watchedTo_14 lm_X11_55 (ct_X11_people Γ σ r9 h9) (by decide) qt_85 qk_85 rfl rfl (Nat.le_of_ble_eq_true rfl)) rfl (fun x2 => ?_)
    refine pn_icmp_ge (tgt := 59) dX11_watchedTo_17 rfl rfl (fun c3 => ?_) (fun c3 => ?_)
    · refine pn_iload_n dX11_watchedTo_59 rfl rfl rfl ?_
      exact pn_iretv dX11_watchedTo_60 rfl rfl rfl
    · refine pn_iload_n dX11_watchedTo_20 rfl rfl rfl ?_
      refine pn_iload_n dX11_watchedTo_21 rfl rfl rfl ?_
      refine pn_iload dX11_watchedTo_22 rfl rfl ?_
      refine pn_cp (fun r9 h9 => pn_LKS dX11_watchedTo_24 lm_X11_274 (ct_X11_has Γ l2 l4 σ r9 h9) (by decide) rfl rfl (Nat.le_of_ble_eq_true rfl)) rfl (fun x4 => ?_)
      refine pn_if_eq (tgt := 50) dX11_watchedTo_27 rfl rfl (fun c5 => ?_) (fun c5 => ?_)
      · refine pn_iconst dX11_watchedTo_50 rfl ic_0 ?_
        refine pn_iadd dX11_watchedTo_51 rfl ?_
        refine pn_istore_n (ls' := [.ref 85, .null, .int l2, .int (l3 + (0 : Int32)), .int l4]) dX11_watchedTo_52 rfl rfl (Nat.le_of_ble_eq_true rfl) rfl ?_
        refine pn_iinc (ls' := [.ref 85, .null, .int l2, .int (l3 + (0 : Int32)), .int (l4 + (1 : Int32))]) dX11_watchedTo_53 rfl (Nat.le_of_ble_eq_true rfl) rfl (congrArg (fun z => l4 + z) ic_1) rfl ?_
        refine pn_goto (pc' := 11) dX11_watchedTo_56 rfl ?_
        exact ih l2 (l3 + (0 : Int32)) (l4 + (1 : Int32)) σ
      · refine pn_aload_n dX11_watchedTo_30 rfl rfl rfl ?_
        refine pn_iload dX11_watchedTo_31 rfl rfl ?_
        refine pn_iconst dX11_watchedTo_33 rfl ic_3 ?_
        refine pn_cp (fun r9 h9 => pn_LKV dX11_watchedTo_34 lm_X11_67 (ct_X11_of Γ l4 (3 : Int32) σ r9 h9) (by decide) qt_85 qk_85 rfl rfl (Nat.le_of_ble_eq_true rfl)) rfl (fun x6 => ?_)
        refine pn_aload_n dX11_watchedTo_37 rfl rfl rfl ?_
        refine pn_geta dX11_watchedTo_38 rfl lf_X11_13_10 qt_85 qk_85 qr_85_1 qt_86 ?_
        refine pn_bipush dX11_watchedTo_41 rfl bc_9 ?_
        refine pn_ialdc dX11_watchedTo_43 rfl qt_86 qk_86 ql_86 (by decide) qn_9 ?_
        refine pn_cp (fun r9 h9 => pn_LKS dX11_watchedTo_44 lm_X11_317 (ct_J9_min_7cf53 Γ x6 (σ 86 9) σ r9 h9) (by decide) rfl rfl (Nat.le_of_ble_eq_true rfl)) rfl (fun x7 => ?_)
        refine pn_goto (pc' := 51) dX11_watchedTo_47 rfl ?_
        refine pn_iadd dX11_watchedTo_51 rfl ?_
        refine pn_istore_n (ls' := [.ref 85, .null, .int l2, .int (l3 + x7), .int l4]) dX11_watchedTo_52 rfl rfl (Nat.le_of_ble_eq_true rfl) rfl ?_
        refine pn_iinc (ls' := [.ref 85, .null, .int l2, .int (l3 + x7), .int (l4 + (1 : Int32))]) dX11_watchedTo_53 rfl (Nat.le_of_ble_eq_true rfl) rfl (congrArg (fun z => l4 + z) ic_1) rfl ?_
        refine pn_goto (pc' := 11) dX11_watchedTo_56 rfl ?_
        exact ih l2 (l3 + x7) (l4 + (1 : Int32)) σ

set_option maxRecDepth 20000 in
set_option maxHeartbeats 4000000 in
theorem ct_X11_watchedTo (Γ : pn_G) (a1 : Int32) (σ : pn_S) : ∀ r, fX11_watchedTo a1 σ = some r → pn_C Γ 9 mX11_watchedTo [.ref 85, .int a1] σ (pn_i r) := by
  refine pn_of (ls := [.ref 85, .int a1, .null, .null, .null]) (by decide) rfl (pn_cat rfl) rfl (Nat.le_of_ble_eq_true rfl) ?_
  rw [fX11_watchedTo]
  refine pn_aload_n dX11_watchedTo_0 rfl rfl rfl ?_
  refine pn_iload_n dX11_watchedTo_1 rfl rfl rfl ?_
  refine pn_ci (fun r9 h9 => pn_LKV dX11_watchedTo_2 lm_X11_293 (ct_X11_crowdOf Γ a1 σ r9 h9) (by decide) qt_85 qk_85 rfl rfl (Nat.le_of_ble_eq_true rfl)) rfl (fun x1 σ1 => ?_)
  refine pn_istore_n (ls' := [.ref 85, .int a1, .int x1, .null, .null]) dX11_watchedTo_5 rfl rfl (Nat.le_of_ble_eq_true rfl) rfl ?_
  refine pn_iconst dX11_watchedTo_6 rfl ic_0 ?_
  refine pn_istore_n (ls' := [.ref 85, .int a1, .int x1, .int (0 : Int32), .null]) dX11_watchedTo_7 rfl rfl (Nat.le_of_ble_eq_true rfl) rfl ?_
  refine pn_iconst dX11_watchedTo_8 rfl ic_0 ?_
  refine pn_istore (ls' := [.ref 85, .int a1, .int x1, .int (0 : Int32), .int (0 : Int32)]) dX11_watchedTo_9 rfl (Nat.le_of_ble_eq_true rfl) rfl ?_
  exact pn_wk (pn_leC rfl (pn_leN (pn_leC rfl (pn_leC rfl (pn_leC rfl pn_le0))))) (wX11_watchedTo_11 Γ 5000 x1 (0 : Int32) (0 : Int32) σ1)

set_option maxRecDepth 20000 in
set_option maxHeartbeats 4000000 in
theorem ct_X11_watched (Γ : pn_G) (a1 : Int32) (σ : pn_S) : ∀ r, fX11_watched a1 σ = some r → pn_C Γ 10 mX11_watched [.ref 85, .int a1] σ (pn_i r) := by
  refine pn_of (ls := [.ref 85, .int a1]) (by decide) rfl (pn_cat rfl) rfl (Nat.le_of_ble_eq_true rfl) ?_
  rw [fX11_watched]
  refine pn_aload_n dX11_watched_0 rfl rfl rfl ?_
  refine pn_iconst dX11_watched_1 rfl ic_0 ?_
  refine pn_puti dX11_watched_2 rfl lf_X11_3_10 (fpi_10_0 (0 : Int32)) qt_85 qk_85 qr_85_0 ?_
  refine pn_aload_n dX11_watched_5 rfl rfl rfl ?_
  refine pn_aload_n dX11_watched_6 rfl rfl rfl ?_
  refine pn_iload_n dX11_watched_7 rfl rfl rfl ?_
  refine pn_cp (fun r9 h9 => pn_LKV dX11_watched_8 lm_X11_259 (ct_X11_nobody Γ a1 (pn_up σ 85 0 (0 : Int32)) r9 h9) (by decide) qt_85 qk_85 rfl rfl (Nat.le_of_ble_eq_true rfl)) rfl (fun x1 => ?_)
  refine pn_iconst dX11_watched_11 rfl ic_1 ?_
  refine pn_ci (fun r9 h9 => pn_LKV dX11_watched_12 lm_X11_240 (ct_X11_throwsIf Γ x1 (1 : Int32) (pn_up σ 85 0 (0 : Int32)) r9 h9) (by decide) qt_85 qk_85 rfl rfl (Nat.le_of_ble_eq_true rfl)) rfl (fun x2 σ2 => ?_)
  refine pn_if_eq (tgt := 22) dX11_watched_15 rfl rfl (fun c3 => ?_) (fun c3 => ?_)
  · refine pn_aload_n dX11_watched_22 rfl rfl rfl ?_
    refine pn_iload_n dX11_watched_23 rfl rfl rfl ?_
    refine pn_ci (fun r9 h9 => pn_LKV dX11_watched_24 lm_X11_386 (ct_X11_watchedTo Γ a1 σ2 r9 h9) (by decide) qt_85 qk_85 rfl rfl (Nat.le_of_ble_eq_true rfl)) rfl (fun x4 σ4 => ?_)
    exact pn_iretv dX11_watched_27 rfl rfl rfl
  · refine pn_iconst dX11_watched_18 rfl ic_0 ?_
    refine pn_goto (pc' := 27) dX11_watched_19 rfl ?_
    exact pn_iretv dX11_watched_27 rfl rfl rfl

set_option maxRecDepth 20000 in
set_option maxHeartbeats 4000000 in
theorem wX11_ripest_37 (Γ : pn_G)  (rec11 : Int32 → Int32 → Int32 → pn_S → Option (Int32 × pn_S)) (hrec11 : ∀ (l1 : Int32) (l2 : Int32) (l3 : Int32) (σ : pn_S), pn_W9 Γ 10 mX11_ripest pn_i 11 [.ref 85, .int l1, .int l2, .int l3, .null] [] σ (rec11 l1 l2 l3 σ)) (l2 : Int32) (l3 : Int32) (l4 : Int32) (s0 : Int32) (σ : pn_S) : pn_W9 Γ 10 mX11_ripest pn_i 37 [.ref 85, .null, .int l2, .int l3, .int l4] [.int s0] σ (fX11_ripest_37 rec11 l2 l3 l4 s0 σ) := by
  rw [fX11_ripest_37]
  refine pn_istore_n (ls' := [.ref 85, .int s0, .int l2, .int l3, .int l4]) dX11_ripest_37 rfl rfl (Nat.le_of_ble_eq_true rfl) rfl ?_
  refine pn_iload_n dX11_ripest_38 rfl rfl rfl ?_
  refine pn_iload dX11_ripest_39 rfl rfl ?_
  refine pn_cp (fun r9 h9 => pn_LKS dX11_ripest_41 lm_X11_254 (ct_J9_max_7cf53 Γ l2 l4 σ r9 h9) (by decide) rfl rfl (Nat.le_of_ble_eq_true rfl)) rfl (fun x5 => ?_)
  refine pn_istore_n (ls' := [.ref 85, .int s0, .int x5, .int l3, .int l4]) dX11_ripest_44 rfl rfl (Nat.le_of_ble_eq_true rfl) rfl ?_
  refine pn_iinc (ls' := [.ref 85, .int s0, .int x5, .int (l3 + (1 : Int32)), .int l4]) dX11_ripest_45 rfl (Nat.le_of_ble_eq_true rfl) rfl (congrArg (fun z => l3 + z) ic_1) rfl ?_
  refine pn_goto (pc' := 11) dX11_ripest_48 rfl ?_
  exact pn_wk (pn_leC rfl (pn_leC rfl (pn_leC rfl (pn_leC rfl (pn_leN pn_le0))))) (hrec11 s0 x5 (l3 + (1 : Int32)) σ)

set_option maxRecDepth 20000 in
set_option maxHeartbeats 4000000 in
theorem wX11_ripest_11 (Γ : pn_G)  : ∀ (n9 : Nat) (l1 : Int32) (l2 : Int32) (l3 : Int32) (σ : pn_S), pn_W9 Γ 10 mX11_ripest pn_i 11 [.ref 85, .int l1, .int l2, .int l3, .null] [] σ (fX11_ripest_11 n9 l1 l2 l3 σ) := by
  intro n9
  induction n9 with
  | zero => intro l1 l2 l3 σ; exact pn_none
  | succ n9 ih =>
    intro l1 l2 l3 σ
    rw [fX11_ripest_11]
    refine pn_iload_n dX11_ripest_11 rfl rfl rfl ?_
    refine pn_aload_n dX11_ripest_12 rfl rfl rfl ?_
    refine pn_cp (fun r9 h9 => pn_LKV dX11_ripest_13 lm_X11_55 (ct_X11_people Γ σ r9 h9) (by decide) qt_85 qk_85 rfl rfl (Nat.le_of_ble_eq_true rfl)) rfl (fun x1 => ?_)
    refine pn_icmp_ge (tgt := 51) dX11_ripest_16 rfl rfl (fun c2 => ?_) (fun c2 => ?_)
    · refine pn_iload_n dX11_ripest_51 rfl rfl rfl ?_
      exact pn_iretv dX11_ripest_52 rfl rfl rfl
    · refine pn_aload_n dX11_ripest_19 rfl rfl rfl ?_
      refine pn_iload_n dX11_ripest_20 rfl rfl rfl ?_
      refine pn_ci (fun r9 h9 => pn_LKV dX11_ripest_21 lm_X11_386 (ct_X11_watchedTo Γ l3 σ r9 h9) (by decide) qt_85 qk_85 rfl rfl (Nat.le_of_ble_eq_true rfl)) rfl (fun x3 σ3 => ?_)
      refine pn_istore (ls' := [.ref 85, .int l1, .int l2, .int l3, .int x3]) dX11_ripest_24 rfl (Nat.le_of_ble_eq_true rfl) rfl ?_
      refine pn_iload dX11_ripest_26 rfl rfl ?_
      refine pn_iload_n dX11_ripest_28 rfl rfl rfl ?_
      refine pn_icmp_le (tgt := 36) dX11_ripest_29 rfl rfl (fun c4 => ?_) (fun c4 => ?_)
      · refine pn_iload_n dX11_ripest_36 rfl rfl rfl ?_
        exact pn_wk (pn_leC rfl (pn_leN (pn_leC rfl (pn_leC rfl (pn_leC rfl pn_le0))))) (wX11_ripest_37 Γ (fX11_ripest_11 n9) (ih) l2 l3 x3 l1 σ3)
      · refine pn_iload_n dX11_ripest_32 rfl rfl rfl ?_
        refine pn_goto (pc' := 37) dX11_ripest_33 rfl ?_
        exact pn_wk (pn_leC rfl (pn_leN (pn_leC rfl (pn_leC rfl (pn_leC rfl pn_le0))))) (wX11_ripest_37 Γ (fX11_ripest_11 n9) (ih) l2 l3 x3 l3 σ3)

set_option maxRecDepth 20000 in
set_option maxHeartbeats 4000000 in
theorem ct_X11_ripest (Γ : pn_G)  (σ : pn_S) : ∀ r, fX11_ripest  σ = some r → pn_C Γ 10 mX11_ripest [.ref 85] σ (pn_i r) := by
  refine pn_of (ls := [.ref 85, .null, .null, .null, .null]) (by decide) rfl (pn_cat rfl) rfl (Nat.le_of_ble_eq_true rfl) ?_
  rw [fX11_ripest]
  refine pn_aload_n dX11_ripest_0 rfl rfl rfl ?_
  refine pn_iconst dX11_ripest_1 rfl ic_0 ?_
  refine pn_puti dX11_ripest_2 rfl lf_X11_3_10 (fpi_10_0 (0 : Int32)) qt_85 qk_85 qr_85_0 ?_
  refine pn_iconst dX11_ripest_5 rfl ic_m1 ?_
  refine pn_istore_n (ls' := [.ref 85, .int (-1 : Int32), .null, .null, .null]) dX11_ripest_6 rfl rfl (Nat.le_of_ble_eq_true rfl) rfl ?_
  refine pn_iconst dX11_ripest_7 rfl ic_0 ?_
  refine pn_istore_n (ls' := [.ref 85, .int (-1 : Int32), .int (0 : Int32), .null, .null]) dX11_ripest_8 rfl rfl (Nat.le_of_ble_eq_true rfl) rfl ?_
  refine pn_iconst dX11_ripest_9 rfl ic_0 ?_
  refine pn_istore_n (ls' := [.ref 85, .int (-1 : Int32), .int (0 : Int32), .int (0 : Int32), .null]) dX11_ripest_10 rfl rfl (Nat.le_of_ble_eq_true rfl) rfl ?_
  exact wX11_ripest_11 Γ 5000 (-1 : Int32) (0 : Int32) (0 : Int32) (pn_up σ 85 0 (0 : Int32))

set_option maxRecDepth 20000 in
set_option maxHeartbeats 4000000 in
theorem wX11_brave_24 (Γ : pn_G)  : ∀ (n9 : Nat) (l1 : Int32) (l2 : Int32) (l3 : Int32) (σ : pn_S), pn_W9 Γ 7 mX11_brave pn_i 24 [.ref 85, .int l1, .int l2, .int l3] [] σ (fX11_brave_24 n9 l1 l2 l3 σ) := by
  intro n9
  induction n9 with
  | zero => intro l1 l2 l3 σ; exact pn_none
  | succ n9 ih =>
    intro l1 l2 l3 σ
    rw [fX11_brave_24]
    refine pn_iload_n dX11_brave_24 rfl rfl rfl ?_
    refine pn_aload_n dX11_brave_25 rfl rfl rfl ?_
    refine pn_cp (fun r9 h9 => pn_LKV dX11_brave_26 lm_X11_55 (ct_X11_people Γ σ r9 h9) (by decide) qt_85 qk_85 rfl rfl (Nat.le_of_ble_eq_true rfl)) rfl (fun x4 => ?_)
    refine pn_icmp_ge (tgt := 65) dX11_brave_29 rfl rfl (fun c5 => ?_) (fun c5 => ?_)
    · refine pn_iload_n dX11_brave_65 rfl rfl rfl ?_
      exact pn_iretv dX11_brave_66 rfl rfl rfl
    · refine pn_iload_n dX11_brave_32 rfl rfl rfl ?_
      refine pn_iload_n dX11_brave_33 rfl rfl rfl ?_
      refine pn_icmp_eq (tgt := 59) dX11_brave_34 rfl rfl (fun c6 => ?_) (fun c6 => ?_)
      · refine pn_iinc (ls' := [.ref 85, .int l1, .int l2, .int (l3 + (1 : Int32))]) dX11_brave_59 rfl (Nat.le_of_ble_eq_true rfl) rfl (congrArg (fun z => l3 + z) ic_1) rfl ?_
        refine pn_goto (pc' := 24) dX11_brave_62 rfl ?_
        exact ih l1 l2 (l3 + (1 : Int32)) σ
      · refine pn_iload_n dX11_brave_37 rfl rfl rfl ?_
        refine pn_iconst dX11_brave_38 rfl ic_m1 ?_
        refine pn_icmp_eq (tgt := 57) dX11_brave_39 rfl rfl (fun c7 => ?_) (fun c7 => ?_)
        · refine pn_iload_n dX11_brave_57 rfl rfl rfl ?_
          refine pn_istore_n (ls' := [.ref 85, .int l1, .int l3, .int l3]) dX11_brave_58 rfl rfl (Nat.le_of_ble_eq_true rfl) rfl ?_
          refine pn_iinc (ls' := [.ref 85, .int l1, .int l3, .int (l3 + (1 : Int32))]) dX11_brave_59 rfl (Nat.le_of_ble_eq_true rfl) rfl (congrArg (fun z => l3 + z) ic_1) rfl ?_
          refine pn_goto (pc' := 24) dX11_brave_62 rfl ?_
          exact ih l1 l3 (l3 + (1 : Int32)) σ
        · refine pn_aload_n dX11_brave_42 rfl rfl rfl ?_
          refine pn_iload_n dX11_brave_43 rfl rfl rfl ?_
          refine pn_iload_n dX11_brave_44 rfl rfl rfl ?_
          refine pn_ci (fun r9 h9 => pn_LKV dX11_brave_45 lm_X11_265 (ct_X11_needsOf Γ l3 l1 σ r9 h9) (by decide) qt_85 qk_85 rfl rfl (Nat.le_of_ble_eq_true rfl)) rfl (fun x8 σ8 => ?_)
          refine pn_aload_n dX11_brave_48 rfl rfl rfl ?_
          refine pn_iload_n dX11_brave_49 rfl rfl rfl ?_
          refine pn_iload_n dX11_brave_50 rfl rfl rfl ?_
          refine pn_ci (fun r9 h9 => pn_LKV dX11_brave_51 lm_X11_265 (ct_X11_needsOf Γ l2 l1 σ8 r9 h9) (by decide) qt_85 qk_85 rfl rfl (Nat.le_of_ble_eq_true rfl)) rfl (fun x9 σ9 => ?_)
          refine pn_icmp_ge (tgt := 59) dX11_brave_54 rfl rfl (fun c10 => ?_) (fun c10 => ?_)
          · refine pn_iinc (ls' := [.ref 85, .int l1, .int l2, .int (l3 + (1 : Int32))]) dX11_brave_59 rfl (Nat.le_of_ble_eq_true rfl) rfl (congrArg (fun z => l3 + z) ic_1) rfl ?_
            refine pn_goto (pc' := 24) dX11_brave_62 rfl ?_
            exact ih l1 l2 (l3 + (1 : Int32)) σ9
          · refine pn_iload_n dX11_brave_57 rfl rfl rfl ?_
            refine pn_istore_n (ls' := [.ref 85, .int l1, .int l3, .int l3]) dX11_brave_58 rfl rfl (Nat.le_of_ble_eq_true rfl) rfl ?_
            refine pn_iinc (ls' := [.ref 85, .int l1, .int l3, .int (l3 + (1 : Int32))]) dX11_brave_59 rfl (Nat.le_of_ble_eq_true rfl) rfl (congrArg (fun z => l3 + z) ic_1) rfl ?_
            refine pn_goto (pc' := 24) dX11_brave_62 rfl ?_
            exact ih l1 l3 (l3 + (1 : Int32)) σ9

set_option maxRecDepth 20000 in
set_option maxHeartbeats 4000000 in
theorem ct_X11_brave (Γ : pn_G) (a1 : Int32) (σ : pn_S) : ∀ r, fX11_brave a1 σ = some r → pn_C Γ 7 mX11_brave [.ref 85, .int a1] σ (pn_i r) := by
  refine pn_of (ls := [.ref 85, .int a1, .null, .null]) (by decide) rfl (pn_cat rfl) rfl (Nat.le_of_ble_eq_true rfl) ?_
  rw [fX11_brave]
  refine pn_aload_n dX11_brave_0 rfl rfl rfl ?_
  refine pn_iconst dX11_brave_1 rfl ic_0 ?_
  refine pn_puti dX11_brave_2 rfl lf_X11_3_10 (fpi_10_0 (0 : Int32)) qt_85 qk_85 qr_85_0 ?_
  refine pn_aload_n dX11_brave_5 rfl rfl rfl ?_
  refine pn_aload_n dX11_brave_6 rfl rfl rfl ?_
  refine pn_iload_n dX11_brave_7 rfl rfl rfl ?_
  refine pn_cp (fun r9 h9 => pn_LKV dX11_brave_8 lm_X11_259 (ct_X11_nobody Γ a1 (pn_up σ 85 0 (0 : Int32)) r9 h9) (by decide) qt_85 qk_85 rfl rfl (Nat.le_of_ble_eq_true rfl)) rfl (fun x1 => ?_)
  refine pn_iconst dX11_brave_11 rfl ic_1 ?_
  refine pn_ci (fun r9 h9 => pn_LKV dX11_brave_12 lm_X11_240 (ct_X11_throwsIf Γ x1 (1 : Int32) (pn_up σ 85 0 (0 : Int32)) r9 h9) (by decide) qt_85 qk_85 rfl rfl (Nat.le_of_ble_eq_true rfl)) rfl (fun x2 σ2 => ?_)
  refine pn_if_eq (tgt := 20) dX11_brave_15 rfl rfl (fun c3 => ?_) (fun c3 => ?_)
  · refine pn_iconst dX11_brave_20 rfl ic_m1 ?_
    refine pn_istore_n (ls' := [.ref 85, .int a1, .int (-1 : Int32), .null]) dX11_brave_21 rfl rfl (Nat.le_of_ble_eq_true rfl) rfl ?_
    refine pn_iconst dX11_brave_22 rfl ic_0 ?_
    refine pn_istore_n (ls' := [.ref 85, .int a1, .int (-1 : Int32), .int (0 : Int32)]) dX11_brave_23 rfl rfl (Nat.le_of_ble_eq_true rfl) rfl ?_
    exact wX11_brave_24 Γ 5000 a1 (-1 : Int32) (0 : Int32) σ2
  · refine pn_iconst dX11_brave_18 rfl ic_0 ?_
    exact pn_iretv dX11_brave_19 rfl rfl rfl

set_option maxRecDepth 20000 in
set_option maxHeartbeats 4000000 in
theorem ct_X11_likens (Γ : pn_G) (a1 : Int32) (a2 : Int32) (σ : pn_S) : ∀ r, fX11_likens a1 a2 σ = some r → pn_C Γ 3 mX11_likens [.ref 85, .int a1, .int a2] σ ((pn_p σ) r) := by
  refine pn_of (ls := [.ref 85, .int a1, .int a2]) (by decide) rfl (pn_cat rfl) rfl (Nat.le_of_ble_eq_true rfl) ?_
  rw [fX11_likens]
  refine pn_aload_n dX11_likens_0 rfl rfl rfl ?_
  refine pn_iload_n dX11_likens_1 rfl rfl rfl ?_
  refine pn_iconst dX11_likens_2 rfl ic_0 ?_
  refine pn_cp (fun r9 h9 => pn_LKV dX11_likens_3 lm_X11_67 (ct_X11_of Γ a1 (0 : Int32) σ r9 h9) (by decide) qt_85 qk_85 rfl rfl (Nat.le_of_ble_eq_true rfl)) rfl (fun x1 => ?_)
  refine pn_aload_n dX11_likens_6 rfl rfl rfl ?_
  refine pn_iload_n dX11_likens_7 rfl rfl rfl ?_
  refine pn_iconst dX11_likens_8 rfl ic_0 ?_
  refine pn_cp (fun r9 h9 => pn_LKV dX11_likens_9 lm_X11_67 (ct_X11_of Γ a2 (0 : Int32) σ r9 h9) (by decide) qt_85 qk_85 rfl rfl (Nat.le_of_ble_eq_true rfl)) rfl (fun x2 => ?_)
  refine pn_icmp_ne (tgt := 49) dX11_likens_12 rfl rfl (fun c3 => ?_) (fun c3 => ?_)
  · refine pn_aload_n dX11_likens_15 rfl rfl rfl ?_
    refine pn_iload_n dX11_likens_16 rfl rfl rfl ?_
    refine pn_iconst dX11_likens_17 rfl ic_1 ?_
    refine pn_cp (fun r9 h9 => pn_LKV dX11_likens_18 lm_X11_67 (ct_X11_of Γ a1 (1 : Int32) σ r9 h9) (by decide) qt_85 qk_85 rfl rfl (Nat.le_of_ble_eq_true rfl)) rfl (fun x4 => ?_)
    refine pn_aload_n dX11_likens_21 rfl rfl rfl ?_
    refine pn_iload_n dX11_likens_22 rfl rfl rfl ?_
    refine pn_iconst dX11_likens_23 rfl ic_1 ?_
    refine pn_cp (fun r9 h9 => pn_LKV dX11_likens_24 lm_X11_67 (ct_X11_of Γ a2 (1 : Int32) σ r9 h9) (by decide) qt_85 qk_85 rfl rfl (Nat.le_of_ble_eq_true rfl)) rfl (fun x5 => ?_)
    refine pn_icmp_ne (tgt := 49) dX11_likens_27 rfl rfl (fun c6 => ?_) (fun c6 => ?_)
    · refine pn_aload_n dX11_likens_30 rfl rfl rfl ?_
      refine pn_iload_n dX11_likens_31 rfl rfl rfl ?_
      refine pn_iconst dX11_likens_32 rfl ic_2 ?_
      refine pn_cp (fun r9 h9 => pn_LKV dX11_likens_33 lm_X11_67 (ct_X11_of Γ a1 (2 : Int32) σ r9 h9) (by decide) qt_85 qk_85 rfl rfl (Nat.le_of_ble_eq_true rfl)) rfl (fun x7 => ?_)
      refine pn_aload_n dX11_likens_36 rfl rfl rfl ?_
      refine pn_iload_n dX11_likens_37 rfl rfl rfl ?_
      refine pn_iconst dX11_likens_38 rfl ic_2 ?_
      refine pn_cp (fun r9 h9 => pn_LKV dX11_likens_39 lm_X11_67 (ct_X11_of Γ a2 (2 : Int32) σ r9 h9) (by decide) qt_85 qk_85 rfl rfl (Nat.le_of_ble_eq_true rfl)) rfl (fun x8 => ?_)
      refine pn_icmp_ne (tgt := 49) dX11_likens_42 rfl rfl (fun c9 => ?_) (fun c9 => ?_)
      · refine pn_iconst dX11_likens_45 rfl ic_1 ?_
        refine pn_goto (pc' := 50) dX11_likens_46 rfl ?_
        exact pn_iretv dX11_likens_50 rfl rfl rfl
      · refine pn_iconst dX11_likens_49 rfl ic_0 ?_
        exact pn_iretv dX11_likens_50 rfl rfl rfl
    · refine pn_iconst dX11_likens_49 rfl ic_0 ?_
      exact pn_iretv dX11_likens_50 rfl rfl rfl
  · refine pn_iconst dX11_likens_49 rfl ic_0 ?_
    exact pn_iretv dX11_likens_50 rfl rfl rfl

set_option maxRecDepth 20000 in
set_option maxHeartbeats 4000000 in
theorem wX11_alike_19 (Γ : pn_G)  (rec9 : Int32 → Int32 → pn_S → Option (Int32 × pn_S)) (hrec9 : ∀ (l1 : Int32) (l2 : Int32) (σ : pn_S), pn_W9 Γ 4 mX11_alike pn_i 9 [.ref 85, .int l1, .int l2, .null] [] σ (rec9 l1 l2 σ)) : ∀ (n9 : Nat) (l1 : Int32) (l2 : Int32) (l3 : Int32) (σ : pn_S), pn_W9 Γ 4 mX11_alike pn_i 19 [.ref 85, .int l1, .int l2, .int l3] [] σ (fX11_alike_19 rec9 n9 l1 l2 l3 σ) := by
  intro n9
  induction n9 with
  | zero => intro l1 l2 l3 σ; exact pn_none
  | succ n9 ih =>
    intro l1 l2 l3 σ
    rw [fX11_alike_19]
    refine pn_iload_n dX11_alike_19 rfl rfl rfl ?_
    refine pn_iload_n dX11_alike_20 rfl rfl rfl ?_
    refine pn_icmp_ge (tgt := 47) dX11_alike_21 rfl rfl (fun c3 => ?_) (fun c3 => ?_)
    · refine pn_iinc (ls' := [.ref 85, .int l1, .int (l2 + (1 : Int32)), .int l3]) dX11_alike_47 rfl (Nat.le_of_ble_eq_true rfl) rfl (congrArg (fun z => l2 + z) ic_1) rfl ?_
      refine pn_goto (pc' := 9) dX11_alike_50 rfl ?_
      exact pn_wk (pn_leC rfl (pn_leC rfl (pn_leC rfl (pn_leN pn_le0)))) (hrec9 l1 (l2 + (1 : Int32)) σ)
    · refine pn_iload_n dX11_alike_24 rfl rfl rfl ?_
      refine pn_aload_n dX11_alike_25 rfl rfl rfl ?_
      refine pn_iload_n dX11_alike_26 rfl rfl rfl ?_
      refine pn_iload_n dX11_alike_27 rfl rfl rfl ?_
      refine pn_cp (fun r9 h9 => pn_LKV dX11_alike_28 lm_X11_389 (ct_X11_likens Γ l2 l3 σ r9 h9) (by decide) qt_85 qk_85 rfl rfl (Nat.le_of_ble_eq_true rfl)) rfl (fun x4 => ?_)
      refine pn_if_eq (tgt := 38) dX11_alike_31 rfl rfl (fun c5 => ?_) (fun c5 => ?_)
      · refine pn_iconst dX11_alike_38 rfl ic_0 ?_
        refine pn_iadd dX11_alike_39 rfl ?_
        refine pn_istore_n (ls' := [.ref 85, .int (l1 + (0 : Int32)), .int l2, .int l3]) dX11_alike_40 rfl rfl (Nat.le_of_ble_eq_true rfl) rfl ?_
        refine pn_iinc (ls' := [.ref 85, .int (l1 + (0 : Int32)), .int l2, .int (l3 + (1 : Int32))]) dX11_alike_41 rfl (Nat.le_of_ble_eq_true rfl) rfl (congrArg (fun z => l3 + z) ic_1) rfl ?_
        refine pn_goto (pc' := 19) dX11_alike_44 rfl ?_
        exact ih (l1 + (0 : Int32)) l2 (l3 + (1 : Int32)) σ
      · refine pn_iconst dX11_alike_34 rfl ic_1 ?_
        refine pn_goto (pc' := 39) dX11_alike_35 rfl ?_
        refine pn_iadd dX11_alike_39 rfl ?_
        refine pn_istore_n (ls' := [.ref 85, .int (l1 + (1 : Int32)), .int l2, .int l3]) dX11_alike_40 rfl rfl (Nat.le_of_ble_eq_true rfl) rfl ?_
        refine pn_iinc (ls' := [.ref 85, .int (l1 + (1 : Int32)), .int l2, .int (l3 + (1 : Int32))]) dX11_alike_41 rfl (Nat.le_of_ble_eq_true rfl) rfl (congrArg (fun z => l3 + z) ic_1) rfl ?_
        refine pn_goto (pc' := 19) dX11_alike_44 rfl ?_
        exact ih (l1 + (1 : Int32)) l2 (l3 + (1 : Int32)) σ

set_option maxRecDepth 20000 in
set_option maxHeartbeats 4000000 in
theorem wX11_alike_9 (Γ : pn_G)  : ∀ (n9 : Nat) (l1 : Int32) (l2 : Int32) (σ : pn_S), pn_W9 Γ 4 mX11_alike pn_i 9 [.ref 85, .int l1, .int l2, .null] [] σ (fX11_alike_9 n9 l1 l2 σ) := by
  intro n9
  induction n9 with
  | zero => intro l1 l2 σ; exact pn_none
  | succ n9 ih =>
    intro l1 l2 σ
    rw [fX11_alike_9]
    refine pn_iload_n dX11_alike_9 rfl rfl rfl ?_
    refine pn_aload_n dX11_alike_10 rfl rfl rfl ?_
    refine pn_cp (fun r9 h9 => pn_LKV dX11_alike_11 lm_X11_55 (ct_X11_people Γ σ r9 h9) (by decide) qt_85 qk_85 rfl rfl (Nat.le_of_ble_eq_true rfl)) rfl (fun x1 => ?_)
    refine pn_icmp_ge (tgt := 53) dX11_alike_14 rfl rfl (fun c2 => ?_) (fun c2 => ?_)
    · refine pn_iload_n dX11_alike_53 rfl rfl rfl ?_
      exact pn_iretv dX11_alike_54 rfl rfl rfl
    · refine pn_iconst dX11_alike_17 rfl ic_0 ?_
      refine pn_istore_n (ls' := [.ref 85, .int l1, .int l2, .int (0 : Int32)]) dX11_alike_18 rfl rfl (Nat.le_of_ble_eq_true rfl) rfl ?_
      exact wX11_alike_19 Γ (fX11_alike_9 n9) (ih) 5000 l1 l2 (0 : Int32) σ

set_option maxRecDepth 20000 in
set_option maxHeartbeats 4000000 in
theorem ct_X11_alike (Γ : pn_G)  (σ : pn_S) : ∀ r, fX11_alike  σ = some r → pn_C Γ 4 mX11_alike [.ref 85] σ (pn_i r) := by
  refine pn_of (ls := [.ref 85, .null, .null, .null]) (by decide) rfl (pn_cat rfl) rfl (Nat.le_of_ble_eq_true rfl) ?_
  rw [fX11_alike]
  refine pn_aload_n dX11_alike_0 rfl rfl rfl ?_
  refine pn_iconst dX11_alike_1 rfl ic_0 ?_
  refine pn_puti dX11_alike_2 rfl lf_X11_3_10 (fpi_10_0 (0 : Int32)) qt_85 qk_85 qr_85_0 ?_
  refine pn_iconst dX11_alike_5 rfl ic_0 ?_
  refine pn_istore_n (ls' := [.ref 85, .int (0 : Int32), .null, .null]) dX11_alike_6 rfl rfl (Nat.le_of_ble_eq_true rfl) rfl ?_
  refine pn_iconst dX11_alike_7 rfl ic_0 ?_
  refine pn_istore_n (ls' := [.ref 85, .int (0 : Int32), .int (0 : Int32), .null]) dX11_alike_8 rfl rfl (Nat.le_of_ble_eq_true rfl) rfl ?_
  exact wX11_alike_9 Γ 5000 (0 : Int32) (0 : Int32) (pn_up σ 85 0 (0 : Int32))

set_option maxRecDepth 20000 in
set_option maxHeartbeats 4000000 in
theorem wX11_share_45 (Γ : pn_G)  (l1 : Int32) (l2 : Int32) (s1 : Int32) (σ : pn_S) : pn_W9 Γ 9 mX11_share pn_i 45 [.ref 85, .int l1, .int l2, .null] [.int s1, .ref 85] σ (fX11_share_45 l1 l2 s1 σ) := by
  rw [fX11_share_45]
  refine pn_iconst dX11_share_45 rfl ic_2 ?_
  refine pn_ci (fun r9 h9 => pn_LKV dX11_share_46 lm_X11_240 (ct_X11_throwsIf Γ s1 (2 : Int32) σ r9 h9) (by decide) qt_85 qk_85 rfl rfl (Nat.le_of_ble_eq_true rfl)) rfl (fun x8 σ8 => ?_)
  refine pn_if_eq (tgt := 54) dX11_share_49 rfl rfl (fun c9 => ?_) (fun c9 => ?_)
  · refine pn_aload_n dX11_share_54 rfl rfl rfl ?_
    refine pn_iload_n dX11_share_55 rfl rfl rfl ?_
    refine pn_ci (fun r9 h9 => pn_LKV dX11_share_56 lm_X11_293 (ct_X11_crowdOf Γ l2 σ8 r9 h9) (by decide) qt_85 qk_85 rfl rfl (Nat.le_of_ble_eq_true rfl)) rfl (fun x10 σ10 => ?_)
    refine pn_istore_n (ls' := [.ref 85, .int l1, .int l2, .int x10]) dX11_share_59 rfl rfl (Nat.le_of_ble_eq_true rfl) rfl ?_
    refine pn_iload_n dX11_share_60 rfl rfl rfl ?_
    refine pn_iload_n dX11_share_61 rfl rfl rfl ?_
    refine pn_cp (fun r9 h9 => pn_LKS dX11_share_62 lm_X11_274 (ct_X11_has Γ x10 l1 σ10 r9 h9) (by decide) rfl rfl (Nat.le_of_ble_eq_true rfl)) rfl (fun x11 => ?_)
    refine pn_if_eq (tgt := 87) dX11_share_65 rfl rfl (fun c12 => ?_) (fun c12 => ?_)
    · refine pn_iconst dX11_share_87 rfl ic_0 ?_
      exact pn_iretv dX11_share_88 rfl rfl rfl
    · refine pn_bipush dX11_share_68 rfl bc_100 ?_
      refine pn_aload_n dX11_share_70 rfl rfl rfl ?_
      refine pn_iload_n dX11_share_71 rfl rfl rfl ?_
      refine pn_iload_n dX11_share_72 rfl rfl rfl ?_
      refine pn_ci (fun r9 h9 => pn_LKV dX11_share_73 lm_X11_262 (ct_X11_pansOf Γ l1 l2 σ10 r9 h9) (by decide) qt_85 qk_85 rfl rfl (Nat.le_of_ble_eq_true rfl)) rfl (fun x13 σ13 => ?_)
      refine pn_imul dX11_share_76 rfl ?_
      refine pn_aload_n dX11_share_77 rfl rfl rfl ?_
      refine pn_iload_n dX11_share_78 rfl rfl rfl ?_
      refine pn_iload_n dX11_share_79 rfl rfl rfl ?_
      refine pn_ci (fun r9 h9 => pn_LKV dX11_share_80 lm_X11_296 (ct_X11_noiseOf Γ x10 l2 σ13 r9 h9) (by decide) qt_85 qk_85 rfl rfl (Nat.le_of_ble_eq_true rfl)) rfl (fun x14 σ14 => ?_)
      refine pn_idiv dX11_share_83 rfl ?_
      refine pn_goto (pc' := 88) dX11_share_84 rfl ?_
      exact pn_iretv dX11_share_88 rfl rfl rfl
  · refine pn_iconst dX11_share_52 rfl ic_0 ?_
    exact pn_iretv dX11_share_53 rfl rfl rfl

set_option maxRecDepth 20000 in
set_option maxHeartbeats 4000000 in
theorem wX11_share_27 (Γ : pn_G)  (l1 : Int32) (l2 : Int32) (s1 : Int32) (σ : pn_S) : pn_W9 Γ 9 mX11_share pn_i 27 [.ref 85, .int l1, .int l2, .null] [.int s1, .ref 85] σ (fX11_share_27 l1 l2 s1 σ) := by
  rw [fX11_share_27]
  refine pn_iconst dX11_share_27 rfl ic_1 ?_
  refine pn_ci (fun r9 h9 => pn_LKV dX11_share_28 lm_X11_240 (ct_X11_throwsIf Γ s1 (1 : Int32) σ r9 h9) (by decide) qt_85 qk_85 rfl rfl (Nat.le_of_ble_eq_true rfl)) rfl (fun x5 σ5 => ?_)
  refine pn_if_ne (tgt := 52) dX11_share_31 rfl rfl (fun c6 => ?_) (fun c6 => ?_)
  · refine pn_aload_n dX11_share_34 rfl rfl rfl ?_
    refine pn_iload_n dX11_share_35 rfl rfl rfl ?_
    refine pn_iload_n dX11_share_36 rfl rfl rfl ?_
    refine pn_icmp_ne (tgt := 44) dX11_share_37 rfl rfl (fun c7 => ?_) (fun c7 => ?_)
    · refine pn_iconst dX11_share_40 rfl ic_1 ?_
      refine pn_goto (pc' := 45) dX11_share_41 rfl ?_
      exact wX11_share_45 Γ l1 l2 (1 : Int32) σ5
    · refine pn_iconst dX11_share_44 rfl ic_0 ?_
      exact wX11_share_45 Γ l1 l2 (0 : Int32) σ5
  · refine pn_iconst dX11_share_52 rfl ic_0 ?_
    exact pn_iretv dX11_share_53 rfl rfl rfl

set_option maxRecDepth 20000 in
set_option maxHeartbeats 4000000 in
theorem wX11_share_22 (Γ : pn_G)  (l1 : Int32) (l2 : Int32) (σ : pn_S) : pn_W9 Γ 9 mX11_share pn_i 22 [.ref 85, .int l1, .int l2, .null] [.ref 85] σ (fX11_share_22 l1 l2 σ) := by
  rw [fX11_share_22]
  refine pn_iconst dX11_share_22 rfl ic_1 ?_
  refine pn_goto (pc' := 27) dX11_share_23 rfl ?_
  exact wX11_share_27 Γ l1 l2 (1 : Int32) σ

set_option maxRecDepth 20000 in
set_option maxHeartbeats 4000000 in
theorem ct_X11_share (Γ : pn_G) (a1 : Int32) (a2 : Int32) (σ : pn_S) : ∀ r, fX11_share a1 a2 σ = some r → pn_C Γ 9 mX11_share [.ref 85, .int a1, .int a2] σ (pn_i r) := by
  refine pn_of (ls := [.ref 85, .int a1, .int a2, .null]) (by decide) rfl (pn_cat rfl) rfl (Nat.le_of_ble_eq_true rfl) ?_
  rw [fX11_share]
  refine pn_aload_n dX11_share_0 rfl rfl rfl ?_
  refine pn_iconst dX11_share_1 rfl ic_0 ?_
  refine pn_puti dX11_share_2 rfl lf_X11_3_10 (fpi_10_0 (0 : Int32)) qt_85 qk_85 qr_85_0 ?_
  refine pn_aload_n dX11_share_5 rfl rfl rfl ?_
  refine pn_aload_n dX11_share_6 rfl rfl rfl ?_
  refine pn_iload_n dX11_share_7 rfl rfl rfl ?_
  refine pn_cp (fun r9 h9 => pn_LKV dX11_share_8 lm_X11_259 (ct_X11_nobody Γ a1 (pn_up σ 85 0 (0 : Int32)) r9 h9) (by decide) qt_85 qk_85 rfl rfl (Nat.le_of_ble_eq_true rfl)) rfl (fun x1 => ?_)
  refine pn_if_ne (tgt := 22) dX11_share_11 rfl rfl (fun c2 => ?_) (fun c2 => ?_)
  · refine pn_aload_n dX11_share_14 rfl rfl rfl ?_
    refine pn_iload_n dX11_share_15 rfl rfl rfl ?_
    refine pn_cp (fun r9 h9 => pn_LKV dX11_share_16 lm_X11_259 (ct_X11_nobody Γ a2 (pn_up σ 85 0 (0 : Int32)) r9 h9) (by decide) qt_85 qk_85 rfl rfl (Nat.le_of_ble_eq_true rfl)) rfl (fun x3 => ?_)
    refine pn_if_eq (tgt := 26) dX11_share_19 rfl rfl (fun c4 => ?_) (fun c4 => ?_)
    · refine pn_iconst dX11_share_26 rfl ic_0 ?_
      exact wX11_share_27 Γ a1 a2 (0 : Int32) (pn_up σ 85 0 (0 : Int32))
    · exact wX11_share_22 Γ a1 a2 (pn_up σ 85 0 (0 : Int32))
  · exact wX11_share_22 Γ a1 a2 (pn_up σ 85 0 (0 : Int32))

set_option maxRecDepth 20000 in
set_option maxHeartbeats 4000000 in
theorem wX11_pursesOfAll_4 (Γ : pn_G)  (σ : pn_S) : ∀ (n9 : Nat) (l1 : Int32) (l2 : Int32), pn_W9 Γ 3 mX11_pursesOfAll (pn_p σ) 4 [.ref 85, .int l1, .int l2] [] σ (fX11_pursesOfAll_4 n9 l1 l2 σ) := by
  intro n9
  induction n9 with
  | zero => intro l1 l2; exact pn_none
  | succ n9 ih =>
    intro l1 l2
    rw [fX11_pursesOfAll_4]
    refine pn_iload_n dX11_pursesOfAll_4 rfl rfl rfl ?_
    refine pn_aload_n dX11_pursesOfAll_5 rfl rfl rfl ?_
    refine pn_cp (fun r9 h9 => pn_LKV dX11_pursesOfAll_6 lm_X11_55 (ct_X11_people Γ σ r9 h9) (by decide) qt_85 qk_85 rfl rfl (Nat.le_of_ble_eq_true rfl)) rfl (fun x1 => ?_)
    refine pn_icmp_ge (tgt := 27) dX11_pursesOfAll_9 rfl rfl (fun c2 => ?_) (fun c2 => ?_)
    · refine pn_iload_n dX11_pursesOfAll_27 rfl rfl rfl ?_
      exact pn_iretv dX11_pursesOfAll_28 rfl rfl rfl
    · refine pn_iload_n dX11_pursesOfAll_12 rfl rfl rfl ?_
      refine pn_aload_n dX11_pursesOfAll_13 rfl rfl rfl ?_
      refine pn_iload_n dX11_pursesOfAll_14 rfl rfl rfl ?_
      refine pn_iconst dX11_pursesOfAll_15 rfl ic_3 ?_
      refine pn_cp (fun r9 h9 => pn_LKV dX11_pursesOfAll_16 lm_X11_67 (ct_X11_of Γ l2 (3 : Int32) σ r9 h9) (by decide) qt_85 qk_85 rfl rfl (Nat.le_of_ble_eq_true rfl)) rfl (fun x3 => ?_)
      refine pn_iadd dX11_pursesOfAll_19 rfl ?_
      refine pn_istore_n (ls' := [.ref 85, .int (l1 + x3), .int l2]) dX11_pursesOfAll_20 rfl rfl (Nat.le_of_ble_eq_true rfl) rfl ?_
      refine pn_iinc (ls' := [.ref 85, .int (l1 + x3), .int (l2 + (1 : Int32))]) dX11_pursesOfAll_21 rfl (Nat.le_of_ble_eq_true rfl) rfl (congrArg (fun z => l2 + z) ic_1) rfl ?_
      refine pn_goto (pc' := 4) dX11_pursesOfAll_24 rfl ?_
      exact ih (l1 + x3) (l2 + (1 : Int32))

set_option maxRecDepth 20000 in
set_option maxHeartbeats 4000000 in
theorem ct_X11_pursesOfAll (Γ : pn_G)  (σ : pn_S) : ∀ r, fX11_pursesOfAll  σ = some r → pn_C Γ 3 mX11_pursesOfAll [.ref 85] σ ((pn_p σ) r) := by
  refine pn_of (ls := [.ref 85, .null, .null]) (by decide) rfl (pn_cat rfl) rfl (Nat.le_of_ble_eq_true rfl) ?_
  rw [fX11_pursesOfAll]
  refine pn_iconst dX11_pursesOfAll_0 rfl ic_0 ?_
  refine pn_istore_n (ls' := [.ref 85, .int (0 : Int32), .null]) dX11_pursesOfAll_1 rfl rfl (Nat.le_of_ble_eq_true rfl) rfl ?_
  refine pn_iconst dX11_pursesOfAll_2 rfl ic_0 ?_
  refine pn_istore_n (ls' := [.ref 85, .int (0 : Int32), .int (0 : Int32)]) dX11_pursesOfAll_3 rfl rfl (Nat.le_of_ble_eq_true rfl) rfl ?_
  exact wX11_pursesOfAll_4 Γ σ 5000 (0 : Int32) (0 : Int32)

set_option maxRecDepth 20000 in
set_option maxHeartbeats 4000000 in
theorem wX11_trial_47 (Γ : pn_G)  (s0 : Int32) (σ : pn_S) : pn_W9 Γ 12 mX11_trial pn_i 47 [.ref 85, .null, .null, .null] [.int s0] σ (fX11_trial_47 s0 σ) := by
  rw [fX11_trial_47]
  refine pn_istore_n (ls' := [.ref 85, .null, .null, .int s0]) dX11_trial_47 rfl rfl (Nat.le_of_ble_eq_true rfl) rfl ?_
  refine pn_aload_n dX11_trial_48 rfl rfl rfl ?_
  refine pn_cv (fun r9 h9 => pn_LKV dX11_trial_49 lm_X11_352 (ct_X11_bringsBack Γ σ r9 h9) (by decide) qt_85 qk_85 rfl rfl (Nat.le_of_ble_eq_true rfl)) rfl (fun σ8 => ?_)
  refine pn_iload_n dX11_trial_52 rfl rfl rfl ?_
  exact pn_iretv dX11_trial_53 rfl rfl rfl

set_option maxRecDepth 20000 in
set_option maxHeartbeats 4000000 in
theorem ct_X11_trial (Γ : pn_G) (a1 : Int32) (a2 : Int32) (σ : pn_S) : ∀ r, fX11_trial a1 a2 σ = some r → pn_C Γ 12 mX11_trial [.ref 85, .int a1, .int a2] σ (pn_i r) := by
  refine pn_of (ls := [.ref 85, .int a1, .int a2, .null]) (by decide) rfl (pn_cat rfl) rfl (Nat.le_of_ble_eq_true rfl) ?_
  rw [fX11_trial]
  refine pn_aload_n dX11_trial_0 rfl rfl rfl ?_
  refine pn_iconst dX11_trial_1 rfl ic_0 ?_
  refine pn_puti dX11_trial_2 rfl lf_X11_3_10 (fpi_10_0 (0 : Int32)) qt_85 qk_85 qr_85_0 ?_
  refine pn_aload_n dX11_trial_5 rfl rfl rfl ?_
  refine pn_iload_n dX11_trial_6 rfl rfl rfl ?_
  refine pn_cp (fun r9 h9 => pn_LKS dX11_trial_7 lm_X11_355 (ct_X11_noAhead Γ a1 (pn_up σ 85 0 (0 : Int32)) r9 h9) (by decide) rfl rfl (Nat.le_of_ble_eq_true rfl)) rfl (fun x1 => ?_)
  refine pn_iconst dX11_trial_10 rfl ic_1 ?_
  refine pn_ci (fun r9 h9 => pn_LKV dX11_trial_11 lm_X11_240 (ct_X11_throwsIf Γ x1 (1 : Int32) (pn_up σ 85 0 (0 : Int32)) r9 h9) (by decide) qt_85 qk_85 rfl rfl (Nat.le_of_ble_eq_true rfl)) rfl (fun x2 σ2 => ?_)
  refine pn_if_eq (tgt := 19) dX11_trial_14 rfl rfl (fun c3 => ?_) (fun c3 => ?_)
  · refine pn_aload_n dX11_trial_19 rfl rfl rfl ?_
    refine pn_cv (fun r9 h9 => pn_LKV dX11_trial_20 lm_X11_349 (ct_X11_keepsAll Γ σ2 r9 h9) (by decide) qt_85 qk_85 rfl rfl (Nat.le_of_ble_eq_true rfl)) rfl (fun σ4 => ?_)
    refine pn_aload_n dX11_trial_23 rfl rfl rfl ?_
    refine pn_iload_n dX11_trial_24 rfl rfl rfl ?_
    refine pn_iconst dX11_trial_25 rfl ic_0 ?_
    refine pn_ci (fun r9 h9 => pn_LKV dX11_trial_26 lm_X11_343 (ct_X11_goesOn Γ a1 (0 : Int32) σ4 r9 h9) (by decide) qt_85 qk_85 rfl rfl (Nat.le_of_ble_eq_true rfl)) rfl (fun x5 σ5 => ?_)
    refine pn_popi dX11_trial_29 rfl ?_
    refine pn_iload_n dX11_trial_30 rfl rfl rfl ?_
    refine pn_if_eq (tgt := 43) dX11_trial_31 rfl rfl (fun c6 => ?_) (fun c6 => ?_)
    · refine pn_aload_n dX11_trial_43 rfl rfl rfl ?_
      refine pn_cp (fun r9 h9 => pn_LKV dX11_trial_44 lm_X11_392 (ct_X11_pursesOfAll Γ σ5 r9 h9) (by decide) qt_85 qk_85 rfl rfl (Nat.le_of_ble_eq_true rfl)) rfl (fun x7 => ?_)
      exact pn_wk (pn_leC rfl (pn_leN (pn_leN (pn_leN pn_le0)))) (wX11_trial_47 Γ x7 σ5)
    · refine pn_aload_n dX11_trial_34 rfl rfl rfl ?_
      refine pn_geta dX11_trial_35 rfl lf_X11_13_10 qt_85 qk_85 qr_85_1 qt_86 ?_
      refine pn_iconst dX11_trial_38 rfl ic_5 ?_
      refine pn_ialdc dX11_trial_39 rfl qt_86 qk_86 ql_86 (by decide) qn_5 ?_
      refine pn_goto (pc' := 47) dX11_trial_40 rfl ?_
      exact pn_wk (pn_leC rfl (pn_leN (pn_leN (pn_leN pn_le0)))) (wX11_trial_47 Γ (σ5 86 5) σ5)
  · refine pn_iconst dX11_trial_17 rfl ic_0 ?_
    exact pn_iretv dX11_trial_18 rfl rfl rfl

set_option maxRecDepth 20000 in
set_option maxHeartbeats 4000000 in
theorem wX11_span_28 (Γ : pn_G)  : ∀ (n9 : Nat) (l1 : Int32) (l2 : Int32) (l3 : Int32) (l4 : Int32) (σ : pn_S), pn_W9 Γ 12 mX11_span pn_i 28 [.ref 85, .int l1, .int l2, .int l3, .int l4, .null] [] σ (fX11_span_28 n9 l1 l2 l3 l4 σ) := by
  intro n9
  induction n9 with
  | zero => intro l1 l2 l3 l4 σ; exact pn_none
  | succ n9 ih =>
    intro l1 l2 l3 l4 σ
    rw [fX11_span_28]
    refine pn_iload dX11_span_28 rfl rfl ?_
    refine pn_bipush dX11_span_30 rfl bc_6 ?_
    refine pn_icmp_gt (tgt := 96) dX11_span_32 rfl rfl (fun c5 => ?_) (fun c5 => ?_)
    · refine pn_iload_n dX11_span_96 rfl rfl rfl ?_
      exact pn_iretv dX11_span_97 rfl rfl rfl
    · refine pn_aload_n dX11_span_35 rfl rfl rfl ?_
      refine pn_geta dX11_span_36 rfl lf_X11_13_10 qt_85 qk_85 qr_85_1 qt_86 ?_
      refine pn_bipush dX11_span_39 rfl bc_12 ?_
      refine pn_iload dX11_span_41 rfl rfl ?_
      refine pn_iastc dX11_span_43 rfl qt_86 qk_86 ql_86 (by decide) qn_12 ?_
      refine pn_aload_n dX11_span_44 rfl rfl rfl ?_
      refine pn_iload_n dX11_span_45 rfl rfl rfl ?_
      refine pn_iconst dX11_span_46 rfl ic_0 ?_
      refine pn_ci (fun r9 h9 => pn_LKV dX11_span_47 lm_X11_343 (ct_X11_goesOn Γ l1 (0 : Int32) (pn_up σ 86 12 l4) r9 h9) (by decide) qt_85 qk_85 rfl rfl (Nat.le_of_ble_eq_true rfl)) rfl (fun x6 σ6 => ?_)
      refine pn_popi dX11_span_50 rfl ?_
      refine pn_aload_n dX11_span_51 rfl rfl rfl ?_
      refine pn_cp (fun r9 h9 => pn_LKV dX11_span_52 lm_X11_392 (ct_X11_pursesOfAll Γ σ6 r9 h9) (by decide) qt_85 qk_85 rfl rfl (Nat.le_of_ble_eq_true rfl)) rfl (fun x7 => ?_)
      refine pn_istore (ls' := [.ref 85, .int l1, .int l2, .int l3, .int l4, .int x7]) dX11_span_55 rfl (Nat.le_of_ble_eq_true rfl) rfl ?_
      refine pn_aload_n dX11_span_57 rfl rfl rfl ?_
      refine pn_cv (fun r9 h9 => pn_LKV dX11_span_58 lm_X11_352 (ct_X11_bringsBack Γ σ6 r9 h9) (by decide) qt_85 qk_85 rfl rfl (Nat.le_of_ble_eq_true rfl)) rfl (fun σ8 => ?_)
      refine pn_iload_n dX11_span_61 rfl rfl rfl ?_
      refine pn_if_ge (tgt := 70) dX11_span_62 rfl rfl (fun c9 => ?_) (fun c9 => ?_)
      · refine pn_iload_n dX11_span_70 rfl rfl rfl ?_
        refine pn_if_eq (tgt := 83) dX11_span_71 rfl rfl (fun c10 => ?_) (fun c10 => ?_)
        · refine pn_iload_n dX11_span_83 rfl rfl rfl ?_
          refine pn_iload dX11_span_84 rfl rfl ?_
          refine pn_cp (fun r9 h9 => pn_LKS dX11_span_86 lm_X11_317 (ct_J9_min_7cf53 Γ l3 x7 σ8 r9 h9) (by decide) rfl rfl (Nat.le_of_ble_eq_true rfl)) rfl (fun x11 => ?_)
          refine pn_istore_n (ls' := [.ref 85, .int l1, .int l2, .int x11, .int l4, .int x7]) dX11_span_89 rfl rfl (Nat.le_of_ble_eq_true rfl) rfl ?_
          refine pn_iinc (ls' := [.ref 85, .int l1, .int l2, .int x11, .int (l4 + (1 : Int32)), .int x7]) dX11_span_90 rfl (Nat.le_of_ble_eq_true rfl) rfl (congrArg (fun z => l4 + z) ic_1) rfl ?_
          refine pn_goto (pc' := 28) dX11_span_93 rfl ?_
          exact pn_wk (pn_leC rfl (pn_leC rfl (pn_leC rfl (pn_leC rfl (pn_leC rfl (pn_leN pn_le0)))))) (ih l1 l2 x11 (l4 + (1 : Int32)) σ8)
        · refine pn_iload_n dX11_span_74 rfl rfl rfl ?_
          refine pn_iload dX11_span_75 rfl rfl ?_
          refine pn_cp (fun r9 h9 => pn_LKS dX11_span_77 lm_X11_254 (ct_J9_max_7cf53 Γ l3 x7 σ8 r9 h9) (by decide) rfl rfl (Nat.le_of_ble_eq_true rfl)) rfl (fun x12 => ?_)
          refine pn_goto (pc' := 89) dX11_span_80 rfl ?_
          refine pn_istore_n (ls' := [.ref 85, .int l1, .int l2, .int x12, .int l4, .int x7]) dX11_span_89 rfl rfl (Nat.le_of_ble_eq_true rfl) rfl ?_
          refine pn_iinc (ls' := [.ref 85, .int l1, .int l2, .int x12, .int (l4 + (1 : Int32)), .int x7]) dX11_span_90 rfl (Nat.le_of_ble_eq_true rfl) rfl (congrArg (fun z => l4 + z) ic_1) rfl ?_
          refine pn_goto (pc' := 28) dX11_span_93 rfl ?_
          exact pn_wk (pn_leC rfl (pn_leC rfl (pn_leC rfl (pn_leC rfl (pn_leC rfl (pn_leN pn_le0)))))) (ih l1 l2 x12 (l4 + (1 : Int32)) σ8)
      · refine pn_iload dX11_span_65 rfl rfl ?_
        refine pn_goto (pc' := 89) dX11_span_67 rfl ?_
        refine pn_istore_n (ls' := [.ref 85, .int l1, .int l2, .int x7, .int l4, .int x7]) dX11_span_89 rfl rfl (Nat.le_of_ble_eq_true rfl) rfl ?_
        refine pn_iinc (ls' := [.ref 85, .int l1, .int l2, .int x7, .int (l4 + (1 : Int32)), .int x7]) dX11_span_90 rfl (Nat.le_of_ble_eq_true rfl) rfl (congrArg (fun z => l4 + z) ic_1) rfl ?_
        refine pn_goto (pc' := 28) dX11_span_93 rfl ?_
        exact pn_wk (pn_leC rfl (pn_leC rfl (pn_leC rfl (pn_leC rfl (pn_leC rfl (pn_leN pn_le0)))))) (ih l1 l2 x7 (l4 + (1 : Int32)) σ8)

set_option maxRecDepth 20000 in
set_option maxHeartbeats 4000000 in
theorem ct_X11_span (Γ : pn_G) (a1 : Int32) (a2 : Int32) (σ : pn_S) : ∀ r, fX11_span a1 a2 σ = some r → pn_C Γ 12 mX11_span [.ref 85, .int a1, .int a2] σ (pn_i r) := by
  refine pn_of (ls := [.ref 85, .int a1, .int a2, .null, .null, .null]) (by decide) rfl (pn_cat rfl) rfl (Nat.le_of_ble_eq_true rfl) ?_
  rw [fX11_span]
  refine pn_aload_n dX11_span_0 rfl rfl rfl ?_
  refine pn_iconst dX11_span_1 rfl ic_0 ?_
  refine pn_puti dX11_span_2 rfl lf_X11_3_10 (fpi_10_0 (0 : Int32)) qt_85 qk_85 qr_85_0 ?_
  refine pn_aload_n dX11_span_5 rfl rfl rfl ?_
  refine pn_iload_n dX11_span_6 rfl rfl rfl ?_
  refine pn_cp (fun r9 h9 => pn_LKS dX11_span_7 lm_X11_355 (ct_X11_noAhead Γ a1 (pn_up σ 85 0 (0 : Int32)) r9 h9) (by decide) rfl rfl (Nat.le_of_ble_eq_true rfl)) rfl (fun x1 => ?_)
  refine pn_iconst dX11_span_10 rfl ic_1 ?_
  refine pn_ci (fun r9 h9 => pn_LKV dX11_span_11 lm_X11_240 (ct_X11_throwsIf Γ x1 (1 : Int32) (pn_up σ 85 0 (0 : Int32)) r9 h9) (by decide) qt_85 qk_85 rfl rfl (Nat.le_of_ble_eq_true rfl)) rfl (fun x2 σ2 => ?_)
  refine pn_if_eq (tgt := 19) dX11_span_14 rfl rfl (fun c3 => ?_) (fun c3 => ?_)
  · refine pn_aload_n dX11_span_19 rfl rfl rfl ?_
    refine pn_cv (fun r9 h9 => pn_LKV dX11_span_20 lm_X11_349 (ct_X11_keepsAll Γ σ2 r9 h9) (by decide) qt_85 qk_85 rfl rfl (Nat.le_of_ble_eq_true rfl)) rfl (fun σ4 => ?_)
    refine pn_iconst dX11_span_23 rfl ic_m1 ?_
    refine pn_istore_n (ls' := [.ref 85, .int a1, .int a2, .int (-1 : Int32), .null, .null]) dX11_span_24 rfl rfl (Nat.le_of_ble_eq_true rfl) rfl ?_
    refine pn_iconst dX11_span_25 rfl ic_1 ?_
    refine pn_istore (ls' := [.ref 85, .int a1, .int a2, .int (-1 : Int32), .int (1 : Int32), .null]) dX11_span_26 rfl (Nat.le_of_ble_eq_true rfl) rfl ?_
    exact wX11_span_28 Γ 5000 a1 a2 (-1 : Int32) (1 : Int32) σ4
  · refine pn_iconst dX11_span_17 rfl ic_0 ?_
    exact pn_iretv dX11_span_18 rfl rfl rfl

set_option maxRecDepth 20000 in
set_option maxHeartbeats 4000000 in
theorem ct_X11_ofLog (Γ : pn_G) (a1 : Int32) (a2 : Int32) (σ : pn_S) : ∀ r, fX11_ofLog a1 a2 σ = some r → pn_C Γ 1 mX11_ofLog [.ref 85, .int a1, .int a2] σ ((pn_p σ) r) := by
  refine pn_of (ls := [.ref 85, .int a1, .int a2]) (by decide) rfl (pn_cat rfl) rfl (Nat.le_of_ble_eq_true rfl) ?_
  rw [fX11_ofLog]
  refine pn_aload_n dX11_ofLog_0 rfl rfl rfl ?_
  refine pn_geta dX11_ofLog_1 rfl lf_X11_13_10 qt_85 qk_85 qr_85_1 qt_86 ?_
  refine pn_bipush dX11_ofLog_4 rfl bc_77 ?_
  refine pn_iconst dX11_ofLog_6 rfl ic_4 ?_
  refine pn_iload_n dX11_ofLog_7 rfl rfl rfl ?_
  refine pn_imul dX11_ofLog_8 rfl ?_
  refine pn_iadd dX11_ofLog_9 rfl ?_
  refine pn_iload_n dX11_ofLog_10 rfl rfl rfl ?_
  refine pn_iadd dX11_ofLog_11 rfl ?_
  refine pn_iald dX11_ofLog_12 rfl qt_86 qk_86 ql_86 ?_
  exact pn_iretv dX11_ofLog_13 rfl rfl rfl

set_option maxRecDepth 20000 in
set_option maxHeartbeats 4000000 in
theorem wX11_led_36 (Γ : pn_G)  : ∀ (n9 : Nat) (l1 : Int32) (l2 : Int32) (l3 : Int32) (l4 : Int32) (l5 : Int32) (σ : pn_S), pn_W9 Γ 3 mX11_led pn_i 36 [.ref 85, .int l1, .int l2, .int l3, .int l4, .int l5] [] σ (fX11_led_36 n9 l1 l2 l3 l4 l5 σ) := by
  intro n9
  induction n9 with
  | zero => intro l1 l2 l3 l4 l5 σ; exact pn_none
  | succ n9 ih =>
    intro l1 l2 l3 l4 l5 σ
    rw [fX11_led_36]
    refine pn_iload dX11_led_36 rfl rfl ?_
    refine pn_if_lt (tgt := 73) dX11_led_38 rfl rfl (fun c4 => ?_) (fun c4 => ?_)
    · refine pn_iload_n dX11_led_73 rfl rfl rfl ?_
      refine pn_if_eq (tgt := 82) dX11_led_74 rfl rfl (fun c5 => ?_) (fun c5 => ?_)
      · refine pn_iload_n dX11_led_82 rfl rfl rfl ?_
        exact pn_iretv dX11_led_83 rfl rfl rfl
      · refine pn_iload dX11_led_77 rfl rfl ?_
        refine pn_goto (pc' := 83) dX11_led_79 rfl ?_
        exact pn_iretv dX11_led_83 rfl rfl rfl
    · refine pn_aload_n dX11_led_41 rfl rfl rfl ?_
      refine pn_iload dX11_led_42 rfl rfl ?_
      refine pn_iconst dX11_led_44 rfl ic_1 ?_
      refine pn_cp (fun r9 h9 => pn_LKV dX11_led_45 lm_X11_395 (ct_X11_ofLog Γ l5 (1 : Int32) σ r9 h9) (by decide) qt_85 qk_85 rfl rfl (Nat.le_of_ble_eq_true rfl)) rfl (fun x6 => ?_)
      refine pn_iload_n dX11_led_48 rfl rfl rfl ?_
      refine pn_icmp_eq (tgt := 55) dX11_led_49 rfl rfl (fun c7 => ?_) (fun c7 => ?_)
      · refine pn_iinc (ls' := [.ref 85, .int l1, .int l2, .int (l3 + (1 : Int32)), .int l4, .int l5]) dX11_led_55 rfl (Nat.le_of_ble_eq_true rfl) rfl (congrArg (fun z => l3 + z) ic_1) rfl ?_
        refine pn_aload_n dX11_led_58 rfl rfl rfl ?_
        refine pn_iload dX11_led_59 rfl rfl ?_
        refine pn_iconst dX11_led_61 rfl ic_0 ?_
        refine pn_cp (fun r9 h9 => pn_LKV dX11_led_62 lm_X11_395 (ct_X11_ofLog Γ l5 (0 : Int32) σ r9 h9) (by decide) qt_85 qk_85 rfl rfl (Nat.le_of_ble_eq_true rfl)) rfl (fun x8 => ?_)
        refine pn_istore (ls' := [.ref 85, .int l1, .int l2, .int (l3 + (1 : Int32)), .int x8, .int l5]) dX11_led_65 rfl (Nat.le_of_ble_eq_true rfl) rfl ?_
        refine pn_iinc (ls' := [.ref 85, .int l1, .int l2, .int (l3 + (1 : Int32)), .int x8, .int (l5 + (-1 : Int32))]) dX11_led_67 rfl (Nat.le_of_ble_eq_true rfl) rfl (congrArg (fun z => l5 + z) ic_m1) rfl ?_
        refine pn_goto (pc' := 36) dX11_led_70 rfl ?_
        exact ih l1 l2 (l3 + (1 : Int32)) x8 (l5 + (-1 : Int32)) σ
      · refine pn_goto (pc' := 67) dX11_led_52 rfl ?_
        refine pn_iinc (ls' := [.ref 85, .int l1, .int l2, .int l3, .int l4, .int (l5 + (-1 : Int32))]) dX11_led_67 rfl (Nat.le_of_ble_eq_true rfl) rfl (congrArg (fun z => l5 + z) ic_m1) rfl ?_
        refine pn_goto (pc' := 36) dX11_led_70 rfl ?_
        exact ih l1 l2 l3 l4 (l5 + (-1 : Int32)) σ

set_option maxRecDepth 20000 in
set_option maxHeartbeats 4000000 in
theorem ct_X11_led (Γ : pn_G) (a1 : Int32) (a2 : Int32) (σ : pn_S) : ∀ r, fX11_led a1 a2 σ = some r → pn_C Γ 3 mX11_led [.ref 85, .int a1, .int a2] σ (pn_i r) := by
  refine pn_of (ls := [.ref 85, .int a1, .int a2, .null, .null, .null]) (by decide) rfl (pn_cat rfl) rfl (Nat.le_of_ble_eq_true rfl) ?_
  rw [fX11_led]
  refine pn_aload_n dX11_led_0 rfl rfl rfl ?_
  refine pn_iconst dX11_led_1 rfl ic_0 ?_
  refine pn_puti dX11_led_2 rfl lf_X11_3_10 (fpi_10_0 (0 : Int32)) qt_85 qk_85 qr_85_0 ?_
  refine pn_aload_n dX11_led_5 rfl rfl rfl ?_
  refine pn_aload_n dX11_led_6 rfl rfl rfl ?_
  refine pn_iload_n dX11_led_7 rfl rfl rfl ?_
  refine pn_cp (fun r9 h9 => pn_LKV dX11_led_8 lm_X11_259 (ct_X11_nobody Γ a1 (pn_up σ 85 0 (0 : Int32)) r9 h9) (by decide) qt_85 qk_85 rfl rfl (Nat.le_of_ble_eq_true rfl)) rfl (fun x1 => ?_)
  refine pn_iconst dX11_led_11 rfl ic_1 ?_
  refine pn_ci (fun r9 h9 => pn_LKV dX11_led_12 lm_X11_240 (ct_X11_throwsIf Γ x1 (1 : Int32) (pn_up σ 85 0 (0 : Int32)) r9 h9) (by decide) qt_85 qk_85 rfl rfl (Nat.le_of_ble_eq_true rfl)) rfl (fun x2 σ2 => ?_)
  refine pn_if_eq (tgt := 20) dX11_led_15 rfl rfl (fun c3 => ?_) (fun c3 => ?_)
  · refine pn_iconst dX11_led_20 rfl ic_0 ?_
    refine pn_istore_n (ls' := [.ref 85, .int a1, .int a2, .int (0 : Int32), .null, .null]) dX11_led_21 rfl rfl (Nat.le_of_ble_eq_true rfl) rfl ?_
    refine pn_iconst dX11_led_22 rfl ic_m1 ?_
    refine pn_istore (ls' := [.ref 85, .int a1, .int a2, .int (0 : Int32), .int (-1 : Int32), .null]) dX11_led_23 rfl (Nat.le_of_ble_eq_true rfl) rfl ?_
    refine pn_aload_n dX11_led_25 rfl rfl rfl ?_
    refine pn_geta dX11_led_26 rfl lf_X11_13_10 qt_85 qk_85 qr_85_1 qt_86 ?_
    refine pn_bipush dX11_led_29 rfl bc_11 ?_
    refine pn_ialdc dX11_led_31 rfl qt_86 qk_86 ql_86 (by decide) qn_11 ?_
    refine pn_iconst dX11_led_32 rfl ic_1 ?_
    refine pn_isub dX11_led_33 rfl ?_
    refine pn_istore (ls' := [.ref 85, .int a1, .int a2, .int (0 : Int32), .int (-1 : Int32), .int ((σ2 86 11) - (1 : Int32))]) dX11_led_34 rfl (Nat.le_of_ble_eq_true rfl) rfl ?_
    exact wX11_led_36 Γ 5000 a1 a2 (0 : Int32) (-1 : Int32) ((σ2 86 11) - (1 : Int32)) σ2
  · refine pn_iconst dX11_led_18 rfl ic_0 ?_
    exact pn_iretv dX11_led_19 rfl rfl rfl

set_option maxRecDepth 20000 in
set_option maxHeartbeats 4000000 in
theorem wX11_log_20 (Γ : pn_G)  (l1 : Int32) (l2 : Int32) (s1 : Int32) (σ : pn_S) : pn_W9 Γ 2 mX11_log pn_i 20 [.ref 85, .int l1, .int l2] [.int s1, .ref 85] σ (fX11_log_20 l1 l2 s1 σ) := by
  rw [fX11_log_20]
  refine pn_iconst dX11_log_20 rfl ic_1 ?_
  refine pn_ci (fun r9 h9 => pn_LKV dX11_log_21 lm_X11_240 (ct_X11_throwsIf Γ s1 (1 : Int32) σ r9 h9) (by decide) qt_85 qk_85 rfl rfl (Nat.le_of_ble_eq_true rfl)) rfl (fun x3 σ3 => ?_)
  refine pn_if_eq (tgt := 29) dX11_log_24 rfl rfl (fun c4 => ?_) (fun c4 => ?_)
  · refine pn_iload_n dX11_log_29 rfl rfl rfl ?_
    refine pn_iconst dX11_log_30 rfl ic_0 ?_
    refine pn_aload_n dX11_log_31 rfl rfl rfl ?_
    refine pn_geta dX11_log_32 rfl lf_X11_13_10 qt_85 qk_85 qr_85_1 qt_86 ?_
    refine pn_bipush dX11_log_35 rfl bc_11 ?_
    refine pn_ialdc dX11_log_37 rfl qt_86 qk_86 ql_86 (by decide) qn_11 ?_
    refine pn_iconst dX11_log_38 rfl ic_1 ?_
    refine pn_isub dX11_log_39 rfl ?_
    refine pn_cp (fun r9 h9 => pn_LKS dX11_log_40 lm_X11_63 (ct_X11_in Γ l1 (0 : Int32) ((σ3 86 11) - (1 : Int32)) σ3 r9 h9) (by decide) rfl rfl (Nat.le_of_ble_eq_true rfl)) rfl (fun x5 => ?_)
    refine pn_if_eq (tgt := 55) dX11_log_43 rfl rfl (fun c6 => ?_) (fun c6 => ?_)
    · refine pn_iconst dX11_log_55 rfl ic_m1 ?_
      exact pn_iretv dX11_log_56 rfl rfl rfl
    · refine pn_aload_n dX11_log_46 rfl rfl rfl ?_
      refine pn_iload_n dX11_log_47 rfl rfl rfl ?_
      refine pn_iload_n dX11_log_48 rfl rfl rfl ?_
      refine pn_cp (fun r9 h9 => pn_LKV dX11_log_49 lm_X11_395 (ct_X11_ofLog Γ l1 l2 σ3 r9 h9) (by decide) qt_85 qk_85 rfl rfl (Nat.le_of_ble_eq_true rfl)) rfl (fun x7 => ?_)
      refine pn_goto (pc' := 56) dX11_log_52 rfl ?_
      exact pn_iretv dX11_log_56 rfl rfl rfl
  · refine pn_iconst dX11_log_27 rfl ic_0 ?_
    exact pn_iretv dX11_log_28 rfl rfl rfl

set_option maxRecDepth 20000 in
set_option maxHeartbeats 4000000 in
theorem ct_X11_log (Γ : pn_G) (a1 : Int32) (a2 : Int32) (σ : pn_S) : ∀ r, fX11_log a1 a2 σ = some r → pn_C Γ 2 mX11_log [.ref 85, .int a1, .int a2] σ (pn_i r) := by
  refine pn_of (ls := [.ref 85, .int a1, .int a2]) (by decide) rfl (pn_cat rfl) rfl (Nat.le_of_ble_eq_true rfl) ?_
  rw [fX11_log]
  refine pn_aload_n dX11_log_0 rfl rfl rfl ?_
  refine pn_iconst dX11_log_1 rfl ic_0 ?_
  refine pn_puti dX11_log_2 rfl lf_X11_3_10 (fpi_10_0 (0 : Int32)) qt_85 qk_85 qr_85_0 ?_
  refine pn_aload_n dX11_log_5 rfl rfl rfl ?_
  refine pn_iload_n dX11_log_6 rfl rfl rfl ?_
  refine pn_iconst dX11_log_7 rfl ic_0 ?_
  refine pn_iconst dX11_log_8 rfl ic_3 ?_
  refine pn_cp (fun r9 h9 => pn_LKS dX11_log_9 lm_X11_63 (ct_X11_in Γ a2 (0 : Int32) (3 : Int32) (pn_up σ 85 0 (0 : Int32)) r9 h9) (by decide) rfl rfl (Nat.le_of_ble_eq_true rfl)) rfl (fun x1 => ?_)
  refine pn_if_ne (tgt := 19) dX11_log_12 rfl rfl (fun c2 => ?_) (fun c2 => ?_)
  · refine pn_iconst dX11_log_15 rfl ic_1 ?_
    refine pn_goto (pc' := 20) dX11_log_16 rfl ?_
    exact wX11_log_20 Γ a1 a2 (1 : Int32) (pn_up σ 85 0 (0 : Int32))
  · refine pn_iconst dX11_log_19 rfl ic_0 ?_
    exact wX11_log_20 Γ a1 a2 (0 : Int32) (pn_up σ 85 0 (0 : Int32))

set_option maxRecDepth 20000 in
set_option maxHeartbeats 4000000 in
theorem ct_X11_seed (Γ : pn_G) (a1 : Int32) (σ : pn_S) : ∀ r, fX11_seed a1 σ = some r → pn_C Γ 1 mX11_seed [.ref 85, .int a1] σ (pn_i r) := by
  refine pn_of (ls := [.ref 85, .int a1, .null]) (by decide) rfl (pn_cat rfl) rfl (Nat.le_of_ble_eq_true rfl) ?_
  rw [fX11_seed]
  refine pn_aload_n dX11_seed_0 rfl rfl rfl ?_
  refine pn_iconst dX11_seed_1 rfl ic_0 ?_
  refine pn_puti dX11_seed_2 rfl lf_X11_3_10 (fpi_10_0 (0 : Int32)) qt_85 qk_85 qr_85_0 ?_
  refine pn_aload_n dX11_seed_5 rfl rfl rfl ?_
  refine pn_geta dX11_seed_6 rfl lf_X11_13_10 qt_85 qk_85 qr_85_1 qt_86 ?_
  refine pn_bipush dX11_seed_9 rfl bc_12 ?_
  refine pn_ialdc dX11_seed_11 rfl qt_86 qk_86 ql_86 (by decide) qn_12 ?_
  refine pn_istore_n (ls' := [.ref 85, .int a1, .int ((pn_up σ 85 0 (0 : Int32)) 86 12)]) dX11_seed_12 rfl rfl (Nat.le_of_ble_eq_true rfl) rfl ?_
  refine pn_aload_n dX11_seed_13 rfl rfl rfl ?_
  refine pn_geta dX11_seed_14 rfl lf_X11_13_10 qt_85 qk_85 qr_85_1 qt_86 ?_
  refine pn_bipush dX11_seed_17 rfl bc_12 ?_
  refine pn_iload_n dX11_seed_19 rfl rfl rfl ?_
  refine pn_iastc dX11_seed_20 rfl qt_86 qk_86 ql_86 (by decide) qn_12 ?_
  refine pn_iload_n dX11_seed_21 rfl rfl rfl ?_
  exact pn_iretv dX11_seed_22 rfl rfl rfl

set_option maxRecDepth 20000 in
set_option maxHeartbeats 4000000 in
theorem ct_X11_count (Γ : pn_G) (a1 : Int32) (σ : pn_S) : ∀ r, fX11_count a1 σ = some r → pn_C Γ 4 mX11_count [.ref 85, .int a1] σ (pn_i r) := by
  refine pn_of (ls := [.ref 85, .int a1]) (by decide) rfl (pn_cat rfl) rfl (Nat.le_of_ble_eq_true rfl) ?_
  rw [fX11_count]
  refine pn_aload_n dX11_count_0 rfl rfl rfl ?_
  refine pn_iconst dX11_count_1 rfl ic_0 ?_
  refine pn_puti dX11_count_2 rfl lf_X11_3_10 (fpi_10_0 (0 : Int32)) qt_85 qk_85 qr_85_0 ?_
  refine pn_iload_n dX11_count_5 rfl rfl rfl ?_
  refine pn_tabc (v := (2 : Int32)) (tgt := 72) (off := 66) dX11_count_6 (by decide) (by decide) (by decide) rfl (fun c1 => ?_) (fun c1 => ?_)
  · refine pn_aload_n dX11_count_72 rfl rfl rfl ?_
    refine pn_geta dX11_count_73 rfl lf_X11_13_10 qt_85 qk_85 qr_85_1 qt_86 ?_
    refine pn_iconst dX11_count_76 rfl ic_2 ?_
    refine pn_ialdc dX11_count_77 rfl qt_86 qk_86 ql_86 (by decide) qn_2 ?_
    refine pn_iconst dX11_count_78 rfl ic_1 ?_
    refine pn_icmp_ne (tgt := 93) dX11_count_79 rfl rfl (fun c2 => ?_) (fun c2 => ?_)
    · refine pn_aload_n dX11_count_82 rfl rfl rfl ?_
      refine pn_geta dX11_count_83 rfl lf_X11_13_10 qt_85 qk_85 qr_85_1 qt_86 ?_
      refine pn_sipush dX11_count_86 rfl sc_317 ?_
      refine pn_ialdc dX11_count_89 rfl qt_86 qk_86 ql_86 (by decide) qn_317 ?_
      refine pn_goto (pc' := 94) dX11_count_90 rfl ?_
      exact pn_iretv dX11_count_94 rfl rfl rfl
    · refine pn_iconst dX11_count_93 rfl ic_m1 ?_
      exact pn_iretv dX11_count_94 rfl rfl rfl
  refine pn_tabc (v := (11 : Int32)) (tgt := 95) (off := 89) dX11_count_6 (by decide) (by decide) (by decide) rfl (fun c3 => ?_) (fun c3 => ?_)
  · refine pn_aload_n dX11_count_95 rfl rfl rfl ?_
    refine pn_cp (fun r9 h9 => pn_LKV dX11_count_96 lm_X11_287 (ct_X11_beginners Γ (pn_up σ 85 0 (0 : Int32)) r9 h9) (by decide) qt_85 qk_85 rfl rfl (Nat.le_of_ble_eq_true rfl)) rfl (fun x4 => ?_)
    exact pn_iretv dX11_count_99 rfl rfl rfl
  refine pn_tabc (v := (12 : Int32)) (tgt := 100) (off := 94) dX11_count_6 (by decide) (by decide) (by decide) rfl (fun c5 => ?_) (fun c5 => ?_)
  · refine pn_aload_n dX11_count_100 rfl rfl rfl ?_
    refine pn_cp (fun r9 h9 => pn_LKV dX11_count_101 lm_X11_392 (ct_X11_pursesOfAll Γ (pn_up σ 85 0 (0 : Int32)) r9 h9) (by decide) qt_85 qk_85 rfl rfl (Nat.le_of_ble_eq_true rfl)) rfl (fun x6 => ?_)
    exact pn_iretv dX11_count_104 rfl rfl rfl
  refine pn_tabc (v := (13 : Int32)) (tgt := 105) (off := 99) dX11_count_6 (by decide) (by decide) (by decide) rfl (fun c7 => ?_) (fun c7 => ?_)
  · refine pn_aload_n dX11_count_105 rfl rfl rfl ?_
    refine pn_geta dX11_count_106 rfl lf_X11_13_10 qt_85 qk_85 qr_85_1 qt_86 ?_
    refine pn_bipush dX11_count_109 rfl bc_11 ?_
    refine pn_ialdc dX11_count_111 rfl qt_86 qk_86 ql_86 (by decide) qn_11 ?_
    exact pn_iretv dX11_count_112 rfl rfl rfl
  refine pn_tabc (v := (14 : Int32)) (tgt := 113) (off := 107) dX11_count_6 (by decide) (by decide) (by decide) rfl (fun c8 => ?_) (fun c8 => ?_)
  · refine pn_aload_n dX11_count_113 rfl rfl rfl ?_
    refine pn_geti dX11_count_114 rfl lf_X11_52_10 qt_85 qk_85 qr_85_7 ?_
    exact pn_iretv dX11_count_117 rfl rfl rfl
  refine pn_tabd (tgt := 118) [(2 : Int32), (11 : Int32), (12 : Int32), (13 : Int32), (14 : Int32)] dX11_count_6 (by decide) (by decide) rfl (pn_an c1 (pn_an c3 (pn_an c5 (pn_an c7 (pn_an c8 pn_a0))))) ?_
  refine pn_iload_n dX11_count_118 rfl rfl rfl ?_
  refine pn_iconst dX11_count_119 rfl ic_0 ?_
  refine pn_bipush dX11_count_120 rfl bc_10 ?_
  refine pn_cp (fun r9 h9 => pn_LKS dX11_count_122 lm_X11_63 (ct_X11_in Γ a1 (0 : Int32) (10 : Int32) (pn_up σ 85 0 (0 : Int32)) r9 h9) (by decide) rfl rfl (Nat.le_of_ble_eq_true rfl)) rfl (fun x9 => ?_)
  refine pn_if_eq (tgt := 137) dX11_count_125 rfl rfl (fun c10 => ?_) (fun c10 => ?_)
  · refine pn_iconst dX11_count_137 rfl ic_m1 ?_
    exact pn_iretv dX11_count_138 rfl rfl rfl
  · refine pn_aload_n dX11_count_128 rfl rfl rfl ?_
    refine pn_geta dX11_count_129 rfl lf_X11_13_10 qt_85 qk_85 qr_85_1 qt_86 ?_
    refine pn_iload_n dX11_count_132 rfl rfl rfl ?_
    refine pn_iald dX11_count_133 rfl qt_86 qk_86 ql_86 ?_
    refine pn_goto (pc' := 138) dX11_count_134 rfl ?_
    exact pn_iretv dX11_count_138 rfl rfl rfl

