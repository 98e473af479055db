set_option maxRecDepth 20000 in
set_option maxHeartbeats 4000000 in
theorem ct_X2_push (Γ : pn_G) (w0 : Nat) (hw0 : pn_isW w0) (a1 : Int32) (σ : pn_S) : ∀ r, fX2_push w0 a1 σ = some r → pn_C Γ 1 mX2_push [.ref w0, .int a1] σ (pn_v r) := by
  refine pn_of (ls := [.ref w0, .int a1]) (by decide) rfl (pn_cat rfl) rfl (Nat.le_of_ble_eq_true rfl) ?_
  rw [fX2_push]
  refine pn_aload_n dX2_push_0 rfl rfl rfl ?_
  refine pn_geti dX2_push_1 rfl lf_X2_37_2 hw0.1.1 hw0.1.2 (pn_RWi hw0.1.2 (by decide)) ?_
  refine pn_if_lt (tgt := 39) dX2_push_4 rfl rfl (fun c1 => ?_) (fun c1 => ?_)
  · exact pn_vretv dX2_push_39 rfl rfl
  · refine pn_aload_n dX2_push_7 rfl rfl rfl ?_
    refine pn_geti dX2_push_8 rfl lf_X2_37_2 hw0.1.1 hw0.1.2 (pn_RWi hw0.1.2 (by decide)) ?_
    refine pn_aload_n dX2_push_11 rfl rfl rfl ?_
    refine pn_geta dX2_push_12 rfl lf_X2_24_2 hw0.1.1 hw0.1.2 (pn_RW4 hw0.1.2) hw0.2.2.2.2.2.1.1 ?_
    refine pn_alen dX2_push_15 rfl hw0.2.2.2.2.2.1.1 hw0.2.2.2.2.2.1.2.1 hw0.2.2.2.2.2.1.2.2 ?_
    refine pn_icmp_ge (tgt := 39) dX2_push_16 rfl rfl (fun c2 => ?_) (fun c2 => ?_)
    · exact pn_vretv dX2_push_39 rfl rfl
    · refine pn_aload_n dX2_push_19 rfl rfl rfl ?_
      refine pn_geta dX2_push_20 rfl lf_X2_24_2 hw0.1.1 hw0.1.2 (pn_RW4 hw0.1.2) hw0.2.2.2.2.2.1.1 ?_
      refine pn_aload_n dX2_push_23 rfl rfl rfl ?_
      refine pn_geti dX2_push_24 rfl lf_X2_37_2 hw0.1.1 hw0.1.2 (pn_RWi hw0.1.2 (by decide)) ?_
      refine pn_iload_n dX2_push_27 rfl rfl rfl ?_
      refine pn_iast dX2_push_28 rfl hw0.2.2.2.2.2.1.1 hw0.2.2.2.2.2.1.2.1 hw0.2.2.2.2.2.1.2.2 ?_
      refine pn_aload_n dX2_push_29 rfl rfl rfl ?_
      refine pn_dupa dX2_push_30 rfl ?_
      refine pn_geti dX2_push_31 rfl lf_X2_37_2 hw0.1.1 hw0.1.2 (pn_RWi hw0.1.2 (by decide)) ?_
      refine pn_iconst dX2_push_34 rfl ic_1 ?_
      refine pn_iadd dX2_push_35 rfl ?_
      refine pn_puti dX2_push_36 rfl lf_X2_37_2 (fpi_2_8 (((pn_up σ (w0 + 5) (Int32.toNatClampNeg (σ w0 8)) a1) w0 8) + (1 : Int32))) hw0.1.1 hw0.1.2 (pn_RWi hw0.1.2 (by decide)) ?_
      exact pn_vretv dX2_push_39 rfl rfl

set_option maxRecDepth 20000 in
set_option maxHeartbeats 4000000 in
theorem ct_X2_pop (Γ : pn_G) (w0 : Nat) (hw0 : pn_isW w0) (σ : pn_S) : ∀ r, fX2_pop w0 σ = some r → pn_C Γ 1 mX2_pop [.ref w0] σ (pn_i r) := by
  refine pn_of (ls := [.ref w0]) (by decide) rfl (pn_cat rfl) rfl (Nat.le_of_ble_eq_true rfl) ?_
  rw [fX2_pop]
  refine pn_aload_n dX2_pop_0 rfl rfl rfl ?_
  refine pn_geti dX2_pop_1 rfl lf_X2_37_2 hw0.1.1 hw0.1.2 (pn_RWi hw0.1.2 (by decide)) ?_
  refine pn_if_le (tgt := 19) dX2_pop_4 rfl rfl (fun c1 => ?_) (fun c1 => ?_)
  · refine pn_iconst dX2_pop_19 rfl ic_0 ?_
    exact pn_iretv dX2_pop_20 rfl rfl rfl
  · refine pn_aload_n dX2_pop_7 rfl rfl rfl ?_
    refine pn_geti dX2_pop_8 rfl lf_X2_37_2 hw0.1.1 hw0.1.2 (pn_RWi hw0.1.2 (by decide)) ?_
    refine pn_aload_n dX2_pop_11 rfl rfl rfl ?_
    refine pn_geta dX2_pop_12 rfl lf_X2_24_2 hw0.1.1 hw0.1.2 (pn_RW4 hw0.1.2) hw0.2.2.2.2.2.1.1 ?_
    refine pn_alen dX2_pop_15 rfl hw0.2.2.2.2.2.1.1 hw0.2.2.2.2.2.1.2.1 hw0.2.2.2.2.2.1.2.2 ?_
    refine pn_icmp_le (tgt := 21) dX2_pop_16 rfl rfl (fun c2 => ?_) (fun c2 => ?_)
    · refine pn_aload_n dX2_pop_21 rfl rfl rfl ?_
      refine pn_dupa dX2_pop_22 rfl ?_
      refine pn_geti dX2_pop_23 rfl lf_X2_37_2 hw0.1.1 hw0.1.2 (pn_RWi hw0.1.2 (by decide)) ?_
      refine pn_iconst dX2_pop_26 rfl ic_1 ?_
      refine pn_isub dX2_pop_27 rfl ?_
      refine pn_puti dX2_pop_28 rfl lf_X2_37_2 (fpi_2_8 ((σ w0 8) - (1 : Int32))) hw0.1.1 hw0.1.2 (pn_RWi hw0.1.2 (by decide)) ?_
      refine pn_aload_n dX2_pop_31 rfl rfl rfl ?_
      refine pn_geta dX2_pop_32 rfl lf_X2_24_2 hw0.1.1 hw0.1.2 (pn_RW4 hw0.1.2) hw0.2.2.2.2.2.1.1 ?_
      refine pn_aload_n dX2_pop_35 rfl rfl rfl ?_
      refine pn_geti dX2_pop_36 rfl lf_X2_37_2 hw0.1.1 hw0.1.2 (pn_RWi hw0.1.2 (by decide)) ?_
      refine pn_iald dX2_pop_39 rfl hw0.2.2.2.2.2.1.1 hw0.2.2.2.2.2.1.2.1 hw0.2.2.2.2.2.1.2.2 ?_
      exact pn_iretv dX2_pop_40 rfl rfl rfl
    · refine pn_iconst dX2_pop_19 rfl ic_0 ?_
      exact pn_iretv dX2_pop_20 rfl rfl rfl

set_option maxRecDepth 20000 in
set_option maxHeartbeats 4000000 in
theorem ct_X2_joined (Γ : pn_G) (a0 : Int32) (a1 : Int32) (a2 : Int32) (σ : pn_S) : ∀ r, fX2_joined a0 a1 a2 σ = some r → pn_C Γ 1 mX2_joined [.int a0, .int a1, .int a2] σ ((pn_p σ) r) := by
  refine pn_of (ls := [.int a0, .int a1, .int a2]) (by decide) rfl (pn_cat rfl) rfl (Nat.le_of_ble_eq_true rfl) ?_
  rw [fX2_joined]
  refine pn_iload_n dX2_joined_0 rfl rfl rfl ?_
  refine pn_lokc (v := (1021 : Int32)) (tgt := 70) 69 dX2_joined_1 (by decide) (by decide) rfl (fun c1 => ?_) (fun c1 => ?_)
  · refine pn_iload_n dX2_joined_70 rfl rfl rfl ?_
    refine pn_iload_n dX2_joined_71 rfl rfl rfl ?_
    refine pn_iand dX2_joined_72 rfl ?_
    exact pn_iretv dX2_joined_73 rfl rfl rfl
  refine pn_lokc (v := (2043 : Int32)) (tgt := 44) 43 dX2_joined_1 (by decide) (by decide) rfl (fun c2 => ?_) (fun c2 => ?_)
  · refine pn_iload_n dX2_joined_44 rfl rfl rfl ?_
    refine pn_iload_n dX2_joined_45 rfl rfl rfl ?_
    refine pn_iadd dX2_joined_46 rfl ?_
    exact pn_iretv dX2_joined_47 rfl rfl rfl
  refine pn_lokc (v := (2060 : Int32)) (tgt := 48) 47 dX2_joined_1 (by decide) (by decide) rfl (fun c3 => ?_) (fun c3 => ?_)
  · refine pn_iload_n dX2_joined_48 rfl rfl rfl ?_
    refine pn_iload_n dX2_joined_49 rfl rfl rfl ?_
    refine pn_icmp_ge (tgt := 57) dX2_joined_50 rfl rfl (fun c4 => ?_) (fun c4 => ?_)
    · refine pn_iconst dX2_joined_57 rfl ic_0 ?_
      exact pn_iretv dX2_joined_58 rfl rfl rfl
    · refine pn_iconst dX2_joined_53 rfl ic_1 ?_
      refine pn_goto (pc' := 58) dX2_joined_54 rfl ?_
      exact pn_iretv dX2_joined_58 rfl rfl rfl
  refine pn_lokc (v := (2062 : Int32)) (tgt := 59) 58 dX2_joined_1 (by decide) (by decide) rfl (fun c5 => ?_) (fun c5 => ?_)
  · refine pn_iload_n dX2_joined_59 rfl rfl rfl ?_
    refine pn_iload_n dX2_joined_60 rfl rfl rfl ?_
    refine pn_icmp_le (tgt := 68) dX2_joined_61 rfl rfl (fun c6 => ?_) (fun c6 => ?_)
    · refine pn_iconst dX2_joined_68 rfl ic_0 ?_
      exact pn_iretv dX2_joined_69 rfl rfl rfl
    · refine pn_iconst dX2_joined_64 rfl ic_1 ?_
      refine pn_goto (pc' := 69) dX2_joined_65 rfl ?_
      exact pn_iretv dX2_joined_69 rfl rfl rfl
  refine pn_lokd (tgt := 74) (off := 73) dX2_joined_1 (by decide) (by show Op.lookupswitch.offset [(1021, 69), (2043, 43), (2060, 47), (2062, 58)] 73 (Int32.toInt a0) = 73; rw [lv_osw (k := (1021 : Int32)) c1 (by decide), lv_osw (k := (2043 : Int32)) c2 (by decide), lv_osw (k := (2060 : Int32)) c3 (by decide), lv_osw (k := (2062 : Int32)) c5 (by decide)]; rfl) rfl ?_
  refine pn_iload_n dX2_joined_74 rfl rfl rfl ?_
  refine pn_iload_n dX2_joined_75 rfl rfl rfl ?_
  refine pn_ior dX2_joined_76 rfl ?_
  exact pn_iretv dX2_joined_77 rfl rfl rfl

set_option maxRecDepth 20000 in
set_option maxHeartbeats 4000000 in
theorem wX2_holds_155 (Γ : pn_G) (w0 : Nat) (hw0 : pn_isW w0)  (σ : pn_S) : pn_W9 Γ 2 mX2_holds pn_i 155 [.ref w0, .null, .null, .null, .null, .null] [] σ (fX2_holds_155 w0  σ) := by
  rw [fX2_holds_155]
  refine pn_aload_n dX2_holds_155 rfl rfl rfl ?_
  refine pn_ci (fun r9 h9 => pn_LKV dX2_holds_156 lm_X2_88 (ct_X2_pop Γ w0 hw0 σ r9 h9) (by decide) hw0.1.1 hw0.1.2 rfl rfl (Nat.le_of_ble_eq_true rfl)) rfl (fun x3 σ3 => ?_)
  refine pn_if_eq (tgt := 166) dX2_holds_159 rfl rfl (fun c4 => ?_) (fun c4 => ?_)
  · refine pn_iconst dX2_holds_166 rfl ic_0 ?_
    exact pn_iretv dX2_holds_167 rfl rfl rfl
  · refine pn_iconst dX2_holds_162 rfl ic_1 ?_
    refine pn_goto (pc' := 167) dX2_holds_163 rfl ?_
    exact pn_iretv dX2_holds_167 rfl rfl rfl

set_option maxRecDepth 20000 in
set_option maxHeartbeats 4000000 in
theorem wX2_holds_98 (Γ : pn_G) (w0 : Nat) (hw0 : pn_isW w0) (rec12 : Int32 → Int32 → pn_S → Option (Int32 × pn_S)) (hrec12 : ∀ (l2 : Int32) (l3 : Int32) (σ : pn_S), pn_W9 Γ 2 mX2_holds pn_i 12 [.ref w0, .null, .int l2, .int l3, .null, .null] [] σ (rec12 l2 l3 σ)) (l2 : Int32) (l3 : Int32) (l4 : Int32) (σ : pn_S) : pn_W9 Γ 2 mX2_holds pn_i 98 [.ref w0, .null, .int l2, .int l3, .int l4, .null] [] σ (fX2_holds_98 w0 rec12 l2 l3 l4 σ) := by
  rw [fX2_holds_98]
  refine pn_aload_n dX2_holds_98 rfl rfl rfl ?_
  refine pn_ci (fun r9 h9 => pn_LKV dX2_holds_99 lm_X2_88 (ct_X2_pop Γ w0 hw0 σ r9 h9) (by decide) hw0.1.1 hw0.1.2 rfl rfl (Nat.le_of_ble_eq_true rfl)) rfl (fun x12 σ12 => ?_)
  refine pn_istore (ls' := [.ref w0, .null, .int l2, .int l3, .int l4, .int x12]) dX2_holds_102 rfl (Nat.le_of_ble_eq_true rfl) rfl ?_
  refine pn_aload_n dX2_holds_104 rfl rfl rfl ?_
  refine pn_iload dX2_holds_105 rfl rfl ?_
  refine pn_aload_n dX2_holds_107 rfl rfl rfl ?_
  refine pn_ci (fun r9 h9 => pn_LKV dX2_holds_108 lm_X2_88 (ct_X2_pop Γ w0 hw0 σ12 r9 h9) (by decide) hw0.1.1 hw0.1.2 rfl rfl (Nat.le_of_ble_eq_true rfl)) rfl (fun x13 σ13 => ?_)
  refine pn_iload dX2_holds_111 rfl rfl ?_
  refine pn_cp (fun r9 h9 => pn_LKS dX2_holds_113 lm_X2_92 (ct_X2_joined Γ l4 x13 x12 σ13 r9 h9) (by decide) rfl rfl (Nat.le_of_ble_eq_true rfl)) rfl (fun x14 => ?_)
  refine pn_cv (fun r9 h9 => pn_LKV dX2_holds_116 lm_X2_84 (ct_X2_push Γ w0 hw0 x14 σ13 r9 h9) (by decide) hw0.1.1 hw0.1.2 rfl rfl (Nat.le_of_ble_eq_true rfl)) rfl (fun σ15 => ?_)
  refine pn_goto (pc' := 149) dX2_holds_119 rfl ?_
  refine pn_iinc (ls' := [.ref w0, .null, .int l2, .int (l3 + (1 : Int32)), .int l4, .int x12]) dX2_holds_149 rfl (Nat.le_of_ble_eq_true rfl) rfl (congrArg (fun z => l3 + z) ic_1) rfl ?_
  refine pn_goto (pc' := 12) dX2_holds_152 rfl ?_
  exact pn_wk (pn_leC rfl (pn_leN (pn_leC rfl (pn_leC rfl (pn_leN (pn_leN pn_le0)))))) (hrec12 l2 (l3 + (1 : Int32)) σ15)

set_option maxRecDepth 20000 in
set_option maxHeartbeats 4000000 in
theorem wX2_holds_146 (Γ : pn_G) (w0 : Nat) (hw0 : pn_isW w0) (rec12 : Int32 → Int32 → pn_S → Option (Int32 × pn_S)) (hrec12 : ∀ (l2 : Int32) (l3 : Int32) (σ : pn_S), pn_W9 Γ 2 mX2_holds pn_i 12 [.ref w0, .null, .int l2, .int l3, .null, .null] [] σ (rec12 l2 l3 σ)) (l2 : Int32) (l3 : Int32) (s1 : Int32) (σ : pn_S) : pn_W9 Γ 2 mX2_holds pn_i 146 [.ref w0, .null, .int l2, .int l3, .null, .null] [.int s1, .ref w0] σ (fX2_holds_146 w0 rec12 l2 l3 s1 σ) := by
  rw [fX2_holds_146]
  refine pn_cv (fun r9 h9 => pn_LKV dX2_holds_146 lm_X2_84 (ct_X2_push Γ w0 hw0 s1 σ r9 h9) (by decide) hw0.1.1 hw0.1.2 rfl rfl (Nat.le_of_ble_eq_true rfl)) rfl (fun σ19 => ?_)
  refine pn_iinc (ls' := [.ref w0, .null, .int l2, .int (l3 + (1 : Int32)), .null, .null]) dX2_holds_149 rfl (Nat.le_of_ble_eq_true rfl) rfl (congrArg (fun z => l3 + z) ic_1) rfl ?_
  refine pn_goto (pc' := 12) dX2_holds_152 rfl ?_
  exact hrec12 l2 (l3 + (1 : Int32)) σ19

set_option maxRecDepth 20000 in
set_option maxHeartbeats 4000000 in
theorem wX2_holds_12 (Γ : pn_G) (w0 : Nat) (hw0 : pn_isW w0) : ∀ (n9 : Nat) (l2 : Int32) (l3 : Int32) (σ : pn_S), pn_W9 Γ 2 mX2_holds pn_i 12 [.ref w0, .null, .int l2, .int l3, .null, .null] [] σ (fX2_holds_12 w0 n9 l2 l3 σ) := by
  intro n9
  induction n9 with
  | zero => intro l2 l3 σ; exact pn_none
  | succ n9 ih =>
    intro l2 l3 σ
    rw [fX2_holds_12]
    refine pn_iload_n dX2_holds_12 rfl rfl rfl ?_
    refine pn_if_lt (tgt := 155) dX2_holds_13 rfl rfl (fun c2 => ?_) (fun c2 => ?_)
    · exact pn_wk (pn_leC rfl (pn_leN (pn_leN (pn_leN (pn_leN (pn_leN pn_le0)))))) (wX2_holds_155 Γ w0 hw0 σ)
    · refine pn_iload_n dX2_holds_16 rfl rfl rfl ?_
      refine pn_iload_n dX2_holds_17 rfl rfl rfl ?_
      refine pn_icmp_ge (tgt := 155) dX2_holds_18 rfl rfl (fun c5 => ?_) (fun c5 => ?_)
      · exact pn_wk (pn_leC rfl (pn_leN (pn_leN (pn_leN (pn_leN (pn_leN pn_le0)))))) (wX2_holds_155 Γ w0 hw0 σ)
      · refine pn_iload_n dX2_holds_21 rfl rfl rfl ?_
        refine pn_sipush dX2_holds_22 rfl sc_400 ?_
        refine pn_icmp_ge (tgt := 155) dX2_holds_25 rfl rfl (fun c6 => ?_) (fun c6 => ?_)
        · exact pn_wk (pn_leC rfl (pn_leN (pn_leN (pn_leN (pn_leN (pn_leN pn_le0)))))) (wX2_holds_155 Γ w0 hw0 σ)
        · refine pn_aload_n dX2_holds_28 rfl rfl rfl ?_
          refine pn_geta dX2_holds_29 rfl lf_X2_21_2 hw0.1.1 hw0.1.2 (pn_RW3 hw0.1.2) hw0.2.2.2.2.1.1 ?_
          refine pn_iload_n dX2_holds_32 rfl rfl rfl ?_
          refine pn_iald dX2_holds_33 rfl hw0.2.2.2.2.1.1 hw0.2.2.2.2.1.2.1 hw0.2.2.2.2.1.2.2 ?_
          refine pn_istore (ls' := [.ref w0, .null, .int l2, .int l3, .int (σ (w0 + 4) (Int32.toNatClampNeg l3)), .null]) dX2_holds_34 rfl (Nat.le_of_ble_eq_true rfl) rfl ?_
          refine pn_iload dX2_holds_36 rfl rfl ?_
          refine pn_sipush dX2_holds_38 rfl sc_1000 ?_
          refine pn_icmp_ge (tgt := 53) dX2_holds_41 rfl rfl (fun c7 => ?_) (fun c7 => ?_)
          · refine pn_iload dX2_holds_53 rfl rfl ?_
            refine pn_sipush dX2_holds_55 rfl sc_1022 ?_
            refine pn_icmp_ne (tgt := 74) dX2_holds_58 rfl rfl (fun c8 => ?_) (fun c8 => ?_)
            · refine pn_aload_n dX2_holds_61 rfl rfl rfl ?_
              refine pn_iconst dX2_holds_62 rfl ic_1 ?_
              refine pn_aload_n dX2_holds_63 rfl rfl rfl ?_
              refine pn_ci (fun r9 h9 => pn_LKV dX2_holds_64 lm_X2_88 (ct_X2_pop Γ w0 hw0 σ r9 h9) (by decide) hw0.1.1 hw0.1.2 rfl rfl (Nat.le_of_ble_eq_true rfl)) rfl (fun x9 σ9 => ?_)
              refine pn_isub dX2_holds_67 rfl ?_
              refine pn_cv (fun r9 h9 => pn_LKV dX2_holds_68 lm_X2_84 (ct_X2_push Γ w0 hw0 ((1 : Int32) - x9) σ9 r9 h9) (by decide) hw0.1.1 hw0.1.2 rfl rfl (Nat.le_of_ble_eq_true rfl)) rfl (fun σ10 => ?_)
              refine pn_goto (pc' := 149) dX2_holds_71 rfl ?_
              refine pn_iinc (ls' := [.ref w0, .null, .int l2, .int (l3 + (1 : Int32)), .int (σ (w0 + 4) (Int32.toNatClampNeg l3)), .null]) dX2_holds_149 rfl (Nat.le_of_ble_eq_true rfl) rfl (congrArg (fun z => l3 + z) ic_1) rfl ?_
              refine pn_goto (pc' := 12) dX2_holds_152 rfl ?_
              exact pn_wk (pn_leC rfl (pn_leN (pn_leC rfl (pn_leC rfl (pn_leN (pn_leN pn_le0)))))) (ih l2 (l3 + (1 : Int32)) σ10)
            · refine pn_iload dX2_holds_74 rfl rfl ?_
              refine pn_sipush dX2_holds_76 rfl sc_1021 ?_
              refine pn_icmp_eq (tgt := 98) dX2_holds_79 rfl rfl (fun c11 => ?_) (fun c11 => ?_)
              · exact wX2_holds_98 Γ w0 hw0 (fX2_holds_12 w0 n9) (ih) l2 l3 (σ (w0 + 4) (Int32.toNatClampNeg l3)) σ
              · refine pn_iload dX2_holds_82 rfl rfl ?_
                refine pn_sipush dX2_holds_84 rfl sc_1020 ?_
                refine pn_icmp_eq (tgt := 98) dX2_holds_87 rfl rfl (fun c16 => ?_) (fun c16 => ?_)
                · exact wX2_holds_98 Γ w0 hw0 (fX2_holds_12 w0 n9) (ih) l2 l3 (σ (w0 + 4) (Int32.toNatClampNeg l3)) σ
                · refine pn_iload dX2_holds_90 rfl rfl ?_
                  refine pn_sipush dX2_holds_92 rfl sc_2000 ?_
                  refine pn_icmp_lt (tgt := 122) dX2_holds_95 rfl rfl (fun c17 => ?_) (fun c17 => ?_)
                  · refine pn_aload_n dX2_holds_122 rfl rfl rfl ?_
                    refine pn_iload dX2_holds_123 rfl rfl ?_
                    refine pn_sipush dX2_holds_125 rfl sc_1027 ?_
                    refine pn_icmp_ge (tgt := 145) dX2_holds_128 rfl rfl (fun c18 => ?_) (fun c18 => ?_)
                    · refine pn_iconst dX2_holds_145 rfl ic_0 ?_
                      exact pn_wk (pn_leC rfl (pn_leN (pn_leC rfl (pn_leC rfl (pn_leN (pn_leN pn_le0)))))) (wX2_holds_146 Γ w0 hw0 (fX2_holds_12 w0 n9) (ih) l2 l3 (0 : Int32) σ)
                    · refine pn_aload_n dX2_holds_131 rfl rfl rfl ?_
                      refine pn_geta dX2_holds_132 rfl lf_X2_27_2 hw0.1.1 hw0.1.2 (pn_RW5 hw0.1.2) hw0.2.2.2.2.2.2.1 ?_
                      refine pn_iload dX2_holds_135 rfl rfl ?_
                      refine pn_sipush dX2_holds_137 rfl sc_1000 ?_
                      refine pn_isub dX2_holds_140 rfl ?_
                      refine pn_iald dX2_holds_141 rfl hw0.2.2.2.2.2.2.1 hw0.2.2.2.2.2.2.2.1 hw0.2.2.2.2.2.2.2.2 ?_
                      refine pn_goto (pc' := 146) dX2_holds_142 rfl ?_
                      exact pn_wk (pn_leC rfl (pn_leN (pn_leC rfl (pn_leC rfl (pn_leN (pn_leN pn_le0)))))) (wX2_holds_146 Γ w0 hw0 (fX2_holds_12 w0 n9) (ih) l2 l3 (σ (w0 + 6) (Int32.toNatClampNeg ((σ (w0 + 4) (Int32.toNatClampNeg l3)) - (1000 : Int32)))) σ)
                  · exact wX2_holds_98 Γ w0 hw0 (fX2_holds_12 w0 n9) (ih) l2 l3 (σ (w0 + 4) (Int32.toNatClampNeg l3)) σ
          · refine pn_aload_n dX2_holds_44 rfl rfl rfl ?_
            refine pn_iload dX2_holds_45 rfl rfl ?_
            refine pn_cv (fun r9 h9 => pn_LKV dX2_holds_47 lm_X2_84 (ct_X2_push Γ w0 hw0 (σ (w0 + 4) (Int32.toNatClampNeg l3)) σ r9 h9) (by decide) hw0.1.1 hw0.1.2 rfl rfl (Nat.le_of_ble_eq_true rfl)) rfl (fun σ20 => ?_)
            refine pn_goto (pc' := 149) dX2_holds_50 rfl ?_
            refine pn_iinc (ls' := [.ref w0, .null, .int l2, .int (l3 + (1 : Int32)), .int (σ (w0 + 4) (Int32.toNatClampNeg l3)), .null]) dX2_holds_149 rfl (Nat.le_of_ble_eq_true rfl) rfl (congrArg (fun z => l3 + z) ic_1) rfl ?_
            refine pn_goto (pc' := 12) dX2_holds_152 rfl ?_
            exact pn_wk (pn_leC rfl (pn_leN (pn_leC rfl (pn_leC rfl (pn_leN (pn_leN pn_le0)))))) (ih l2 (l3 + (1 : Int32)) σ20)

set_option maxRecDepth 20000 in
set_option maxHeartbeats 4000000 in
theorem ct_X2_holds (Γ : pn_G) (w0 : Nat) (hw0 : pn_isW w0) (a1 : Int32) (a2 : Int32) (σ : pn_S) : ∀ r, fX2_holds w0 a1 a2 σ = some r → pn_C Γ 2 mX2_holds [.ref w0, .int a1, .int a2] σ (pn_i r) := by
  refine pn_of (ls := [.ref w0, .int a1, .int a2, .null, .null, .null]) (by decide) rfl (pn_cat rfl) rfl (Nat.le_of_ble_eq_true rfl) ?_
  rw [fX2_holds]
  refine pn_aload_n dX2_holds_0 rfl rfl rfl ?_
  refine pn_iconst dX2_holds_1 rfl ic_0 ?_
  refine pn_puti dX2_holds_2 rfl lf_X2_37_2 (fpi_2_8 (0 : Int32)) hw0.1.1 hw0.1.2 (pn_RWi hw0.1.2 (by decide)) ?_
  refine pn_aload_n dX2_holds_5 rfl rfl rfl ?_
  refine pn_iconst dX2_holds_6 rfl ic_1 ?_
  refine pn_cv (fun r9 h9 => pn_LKV dX2_holds_7 lm_X2_84 (ct_X2_push Γ w0 hw0 (1 : Int32) (pn_up σ w0 8 (0 : Int32)) r9 h9) (by decide) hw0.1.1 hw0.1.2 rfl rfl (Nat.le_of_ble_eq_true rfl)) rfl (fun σ1 => ?_)
  refine pn_iload_n dX2_holds_10 rfl rfl rfl ?_
  refine pn_istore_n (ls' := [.ref w0, .int a1, .int a2, .int a1, .null, .null]) dX2_holds_11 rfl rfl (Nat.le_of_ble_eq_true rfl) rfl ?_
  exact pn_wk (pn_leC rfl (pn_leN (pn_leC rfl (pn_leC rfl (pn_leN (pn_leN pn_le0)))))) (wX2_holds_12 Γ w0 hw0 5000 a2 a1 σ1)

set_option maxRecDepth 20000 in
set_option maxHeartbeats 4000000 in
theorem wX2_weigh_148 (Γ : pn_G) (w0 : Nat) (hw0 : pn_isW w0) (v1 : Nat) (hv1 : pn_isV v1)  (σ : pn_S) : pn_W9 Γ 3 mX2_weigh pn_v 148 [.ref w0, .null, .null, .null, .null, .null] [] σ (fX2_weigh_148 w0 v1  σ) := by
  rw [fX2_weigh_148]
  refine pn_aload_n dX2_weigh_148 rfl rfl rfl ?_
  refine pn_iconst dX2_weigh_149 rfl ic_0 ?_
  refine pn_aload_n dX2_weigh_150 rfl rfl rfl ?_
  refine pn_geti dX2_weigh_151 rfl lf_X2_40_2 hw0.1.1 hw0.1.2 (pn_RWi hw0.1.2 (by decide)) ?_
  refine pn_cp (fun r9 h9 => pn_LKS dX2_weigh_154 lm_X2_66 (ct_J9_max_7cf53 Γ (0 : Int32) (σ w0 9) σ r9 h9) (by decide) rfl rfl (Nat.le_of_ble_eq_true rfl)) rfl (fun x4 => ?_)
  refine pn_puti dX2_weigh_157 rfl lf_X2_40_2 (fpi_2_9 x4) hw0.1.1 hw0.1.2 (pn_RWi hw0.1.2 (by decide)) ?_
  exact pn_vretv dX2_weigh_160 rfl rfl

set_option maxRecDepth 20000 in
set_option maxHeartbeats 4000000 in
theorem wX2_weigh_75 (Γ : pn_G) (w0 : Nat) (hw0 : pn_isW w0) (v1 : Nat) (hv1 : pn_isV v1) (rec25 : Int32 → pn_S → Option (pn_S)) (hrec25 : ∀ (l4 : Int32) (σ : pn_S), pn_W9 Γ 3 mX2_weigh pn_v 25 [.ref w0, .null, .null, .null, .int l4, .null] [] σ (rec25 l4 σ)) (l4 : Int32) (s0 : Int32) (σ : pn_S) : pn_W9 Γ 3 mX2_weigh pn_v 75 [.ref w0, .null, .null, .null, .int l4, .null] [.int s0] σ (fX2_weigh_75 w0 v1 rec25 l4 s0 σ) := by
  rw [fX2_weigh_75]
  refine pn_istore (ls' := [.ref w0, .null, .null, .null, .int l4, .int s0]) dX2_weigh_75 rfl (Nat.le_of_ble_eq_true rfl) rfl ?_
  refine pn_aload_n dX2_weigh_77 rfl rfl rfl ?_
  refine pn_geta dX2_weigh_78 rfl lf_X2_9_2 hw0.1.1 hw0.1.2 (pn_RW0 hw0.1.2) hw0.2.1.1 ?_
  refine pn_iload dX2_weigh_81 rfl rfl ?_
  refine pn_iald dX2_weigh_83 rfl hw0.2.1.1 hw0.2.1.2.1 hw0.2.1.2.2 ?_
  refine pn_sipush dX2_weigh_84 rfl sc_1016 ?_
  refine pn_icmp_ne (tgt := 104) dX2_weigh_87 rfl rfl (fun c8 => ?_) (fun c8 => ?_)
  · refine pn_aload_n dX2_weigh_90 rfl rfl rfl ?_
    refine pn_dupa dX2_weigh_91 rfl ?_
    refine pn_geti dX2_weigh_92 rfl lf_X2_40_2 hw0.1.1 hw0.1.2 (pn_RWi hw0.1.2 (by decide)) ?_
    refine pn_iload dX2_weigh_95 rfl rfl ?_
    refine pn_iadd dX2_weigh_97 rfl ?_
    refine pn_puti dX2_weigh_98 rfl lf_X2_40_2 (fpi_2_9 ((σ w0 9) + s0)) hw0.1.1 hw0.1.2 (pn_RWi hw0.1.2 (by decide)) ?_
    refine pn_goto (pc' := 142) dX2_weigh_101 rfl ?_
    refine pn_iinc (ls' := [.ref w0, .null, .null, .null, .int (l4 + (1 : Int32)), .int s0]) dX2_weigh_142 rfl (Nat.le_of_ble_eq_true rfl) rfl (congrArg (fun z => l4 + z) ic_1) rfl ?_
    refine pn_goto (pc' := 25) dX2_weigh_145 rfl ?_
    exact pn_wk (pn_leC rfl (pn_leN (pn_leN (pn_leN (pn_leC rfl (pn_leN pn_le0)))))) (hrec25 (l4 + (1 : Int32)) (pn_up σ w0 9 ((σ w0 9) + s0)))
  · refine pn_aload_n dX2_weigh_104 rfl rfl rfl ?_
    refine pn_geta dX2_weigh_105 rfl lf_X2_9_2 hw0.1.1 hw0.1.2 (pn_RW0 hw0.1.2) hw0.2.1.1 ?_
    refine pn_iload dX2_weigh_108 rfl rfl ?_
    refine pn_iald dX2_weigh_110 rfl hw0.2.1.1 hw0.2.1.2.1 hw0.2.1.2.2 ?_
    refine pn_sipush dX2_weigh_111 rfl sc_1017 ?_
    refine pn_icmp_ne (tgt := 131) dX2_weigh_114 rfl rfl (fun c9 => ?_) (fun c9 => ?_)
    · refine pn_aload_n dX2_weigh_117 rfl rfl rfl ?_
      refine pn_dupa dX2_weigh_118 rfl ?_
      refine pn_geti dX2_weigh_119 rfl lf_X2_40_2 hw0.1.1 hw0.1.2 (pn_RWi hw0.1.2 (by decide)) ?_
      refine pn_iload dX2_weigh_122 rfl rfl ?_
      refine pn_isub dX2_weigh_124 rfl ?_
      refine pn_puti dX2_weigh_125 rfl lf_X2_40_2 (fpi_2_9 ((σ w0 9) - s0)) hw0.1.1 hw0.1.2 (pn_RWi hw0.1.2 (by decide)) ?_
      refine pn_goto (pc' := 142) dX2_weigh_128 rfl ?_
      refine pn_iinc (ls' := [.ref w0, .null, .null, .null, .int (l4 + (1 : Int32)), .int s0]) dX2_weigh_142 rfl (Nat.le_of_ble_eq_true rfl) rfl (congrArg (fun z => l4 + z) ic_1) rfl ?_
      refine pn_goto (pc' := 25) dX2_weigh_145 rfl ?_
      exact pn_wk (pn_leC rfl (pn_leN (pn_leN (pn_leN (pn_leC rfl (pn_leN pn_le0)))))) (hrec25 (l4 + (1 : Int32)) (pn_up σ w0 9 ((σ w0 9) - s0)))
    · refine pn_aload_n dX2_weigh_131 rfl rfl rfl ?_
      refine pn_dupa dX2_weigh_132 rfl ?_
      refine pn_geti dX2_weigh_133 rfl lf_X2_43_2 hw0.1.1 hw0.1.2 (pn_RWi hw0.1.2 (by decide)) ?_
      refine pn_iload dX2_weigh_136 rfl rfl ?_
      refine pn_iadd dX2_weigh_138 rfl ?_
      refine pn_puti dX2_weigh_139 rfl lf_X2_43_2 (fpi_2_10 ((σ w0 10) + s0)) hw0.1.1 hw0.1.2 (pn_RWi hw0.1.2 (by decide)) ?_
      refine pn_iinc (ls' := [.ref w0, .null, .null, .null, .int (l4 + (1 : Int32)), .int s0]) dX2_weigh_142 rfl (Nat.le_of_ble_eq_true rfl) rfl (congrArg (fun z => l4 + z) ic_1) rfl ?_
      refine pn_goto (pc' := 25) dX2_weigh_145 rfl ?_
      exact pn_wk (pn_leC rfl (pn_leN (pn_leN (pn_leN (pn_leC rfl (pn_leN pn_le0)))))) (hrec25 (l4 + (1 : Int32)) (pn_up σ w0 10 ((σ w0 10) + s0)))

set_option maxRecDepth 20000 in
set_option maxHeartbeats 4000000 in
theorem wX2_weigh_25 (Γ : pn_G) (w0 : Nat) (hw0 : pn_isW w0) (v1 : Nat) (hv1 : pn_isV v1) : ∀ (n9 : Nat) (l4 : Int32) (σ : pn_S), pn_W9 Γ 3 mX2_weigh pn_v 25 [.ref w0, .null, .null, .null, .int l4, .null] [] σ (fX2_weigh_25 w0 v1 n9 l4 σ) := by
  intro n9
  induction n9 with
  | zero => intro l4 σ; exact pn_none
  | succ n9 ih =>
    intro l4 σ
    rw [fX2_weigh_25]
    refine pn_iload dX2_weigh_25 rfl rfl ?_
    refine pn_aload_n dX2_weigh_27 rfl rfl rfl ?_
    refine pn_geti dX2_weigh_28 rfl lf_X2_30_2 hw0.1.1 hw0.1.2 (pn_RWi hw0.1.2 (by decide)) ?_
    refine pn_icmp_ge (tgt := 148) dX2_weigh_31 rfl rfl (fun c3 => ?_) (fun c3 => ?_)
    · exact pn_wk (pn_leC rfl (pn_leN (pn_leN (pn_leN (pn_leN (pn_leN pn_le0)))))) (wX2_weigh_148 Γ w0 hw0 v1 hv1 σ)
    · refine pn_iload dX2_weigh_34 rfl rfl ?_
      refine pn_bipush dX2_weigh_36 rfl bc_12 ?_
      refine pn_icmp_ge (tgt := 148) dX2_weigh_38 rfl rfl (fun c5 => ?_) (fun c5 => ?_)
      · exact pn_wk (pn_leC rfl (pn_leN (pn_leN (pn_leN (pn_leN (pn_leN pn_le0)))))) (wX2_weigh_148 Γ w0 hw0 v1 hv1 σ)
      · refine pn_aload_n dX2_weigh_41 rfl rfl rfl ?_
        refine pn_aload_n dX2_weigh_42 rfl rfl rfl ?_
        refine pn_geta dX2_weigh_43 rfl lf_X2_18_2 hw0.1.1 hw0.1.2 (pn_RW2 hw0.1.2) hw0.2.2.2.1.1 ?_
        refine pn_iload dX2_weigh_46 rfl rfl ?_
        refine pn_iald dX2_weigh_48 rfl hw0.2.2.2.1.1 hw0.2.2.2.1.2.1 hw0.2.2.2.1.2.2 ?_
        refine pn_aload_n dX2_weigh_49 rfl rfl rfl ?_
        refine pn_geta dX2_weigh_50 rfl lf_X2_18_2 hw0.1.1 hw0.1.2 (pn_RW2 hw0.1.2) hw0.2.2.2.1.1 ?_
        refine pn_iload dX2_weigh_53 rfl rfl ?_
        refine pn_iconst dX2_weigh_55 rfl ic_1 ?_
        refine pn_iadd dX2_weigh_56 rfl ?_
        refine pn_iald dX2_weigh_57 rfl hw0.2.2.2.1.1 hw0.2.2.2.1.2.1 hw0.2.2.2.1.2.2 ?_
        refine pn_ci (fun r9 h9 => pn_LKV dX2_weigh_58 lm_X2_62 (ct_X2_holds Γ w0 hw0 (σ (w0 + 3) (Int32.toNatClampNeg l4)) (σ (w0 + 3) (Int32.toNatClampNeg (l4 + (1 : Int32)))) σ r9 h9) (by decide) hw0.1.1 hw0.1.2 rfl rfl (Nat.le_of_ble_eq_true rfl)) rfl (fun x6 σ6 => ?_)
        refine pn_if_eq (tgt := 74) dX2_weigh_61 rfl rfl (fun c7 => ?_) (fun c7 => ?_)
        · refine pn_iconst dX2_weigh_74 rfl ic_0 ?_
          exact wX2_weigh_75 Γ w0 hw0 v1 hv1 (fX2_weigh_25 w0 v1 n9) (ih) l4 (0 : Int32) σ6
        · refine pn_aload_n dX2_weigh_64 rfl rfl rfl ?_
          refine pn_geta dX2_weigh_65 rfl lf_X2_15_2 hw0.1.1 hw0.1.2 (pn_RW1 hw0.1.2) hw0.2.2.1.1 ?_
          refine pn_iload dX2_weigh_68 rfl rfl ?_
          refine pn_iald dX2_weigh_70 rfl hw0.2.2.1.1 hw0.2.2.1.2.1 hw0.2.2.1.2.2 ?_
          refine pn_goto (pc' := 75) dX2_weigh_71 rfl ?_
          exact wX2_weigh_75 Γ w0 hw0 v1 hv1 (fX2_weigh_25 w0 v1 n9) (ih) l4 (σ6 (w0 + 2) (Int32.toNatClampNeg l4)) σ6

set_option maxRecDepth 20000 in
set_option maxHeartbeats 4000000 in
theorem ct_X2_weigh (Γ : pn_G) (w0 : Nat) (hw0 : pn_isW w0) (v1 : Nat) (hv1 : pn_isV v1) (a2 : Int32) (a3 : Int32) (σ : pn_S) : ∀ r, fX2_weigh w0 v1 a2 a3 σ = some r → pn_C Γ 3 mX2_weigh [.ref w0, .ref v1, .int a2, .int a3] σ (pn_v r) := by
  refine pn_of (ls := [.ref w0, .ref v1, .int a2, .int a3, .null, .null]) (by decide) rfl (pn_cat rfl) rfl (Nat.le_of_ble_eq_true rfl) ?_
  rw [fX2_weigh]
  refine pn_aload_n dX2_weigh_0 rfl rfl rfl ?_
  refine pn_aload_n dX2_weigh_1 rfl rfl rfl ?_
  refine pn_iload_n dX2_weigh_2 rfl rfl rfl ?_
  refine pn_iload_n dX2_weigh_3 rfl rfl rfl ?_
  refine pn_cv (fun r9 h9 => pn_LKV dX2_weigh_4 lm_X2_52 (ct_X2_gatherFacts Γ w0 hw0 v1 hv1 a2 a3 σ r9 h9) (by decide) hw0.1.1 hw0.1.2 rfl rfl (Nat.le_of_ble_eq_true rfl)) rfl (fun σ1 => ?_)
  refine pn_aload_n dX2_weigh_7 rfl rfl rfl ?_
  refine pn_aload_n dX2_weigh_8 rfl rfl rfl ?_
  refine pn_iload_n dX2_weigh_9 rfl rfl rfl ?_
  refine pn_iconst dX2_weigh_10 rfl ic_0 ?_
  refine pn_cp (fun r9 h9 => pn_LKV dX2_weigh_11 lm_X2_56 (ct_X8_of Γ v1 hv1 a2 (0 : Int32) σ1 r9 h9) (by decide) hv1.1.1 hv1.1.2 rfl rfl (Nat.le_of_ble_eq_true rfl)) rfl (fun x2 => ?_)
  refine pn_puti dX2_weigh_14 rfl lf_X2_40_2 (fpi_2_9 x2) hw0.1.1 hw0.1.2 (pn_RWi hw0.1.2 (by decide)) ?_
  refine pn_aload_n dX2_weigh_17 rfl rfl rfl ?_
  refine pn_iconst dX2_weigh_18 rfl ic_1 ?_
  refine pn_puti dX2_weigh_19 rfl lf_X2_43_2 (fpi_2_10 (1 : Int32)) hw0.1.1 hw0.1.2 (pn_RWi hw0.1.2 (by decide)) ?_
  refine pn_iconst dX2_weigh_22 rfl ic_0 ?_
  refine pn_istore (ls' := [.ref w0, .ref v1, .int a2, .int a3, .int (0 : Int32), .null]) dX2_weigh_23 rfl (Nat.le_of_ble_eq_true rfl) rfl ?_
  exact pn_wk (pn_leC rfl (pn_leN (pn_leN (pn_leN (pn_leC rfl (pn_leN pn_le0)))))) (wX2_weigh_25 Γ w0 hw0 v1 hv1 5000 (0 : Int32) (pn_up (pn_up σ1 w0 9 x2) w0 10 (1 : Int32)))

set_option maxRecDepth 20000 in
set_option maxHeartbeats 4000000 in
theorem ct_X10_against (Γ : pn_G) (a1 : Int32) (a2 : Int32) (a3 : Int32) (σ : pn_S) : ∀ r, fX10_against a1 a2 a3 σ = some r → pn_C Γ 4 mX10_against [.ref 0, .int a1, .int a2, .int a3] σ (pn_xi r) := by
  refine pn_of (ls := [.ref 0, .int a1, .int a2, .int a3]) (by decide) rfl (pn_cat rfl) rfl (Nat.le_of_ble_eq_true rfl) ?_
  rw [fX10_against]
  refine pn_aload_n dX10_against_0 rfl rfl rfl ?_
  refine pn_iload_n dX10_against_1 rfl rfl rfl ?_
  refine pn_iload_n dX10_against_2 rfl rfl rfl ?_
  refine pn_cxv (fun _ _ => rfl) rfl (fun r9 h9 => pn_LKV dX10_against_3 lm_X10_159 (ct_X10_checkTwo Γ a1 a2 σ r9 h9) (by decide) qt_0 qk_0 rfl rfl (Nat.le_of_ble_eq_true rfl)) rfl (fun σ1 => ?_)
  refine pn_aload_n dX10_against_6 rfl rfl rfl ?_
  refine pn_geta dX10_against_7 rfl lf_X10_32_9 qt_0 qk_0 qr_0_4 qt_14 ?_
  refine pn_aload_n dX10_against_10 rfl rfl rfl ?_
  refine pn_geta dX10_against_11 rfl lf_X10_19_9 qt_0 qk_0 qr_0_1 qt_5 ?_
  refine pn_iload_n dX10_against_14 rfl rfl rfl ?_
  refine pn_iload_n dX10_against_15 rfl rfl rfl ?_
  refine pn_cv (fun r9 h9 => pn_LKV dX10_against_16 lm_X10_163 (ct_X2_weigh Γ 14 qw_14 5 qv_5 a1 a2 σ1 r9 h9) (by decide) qt_14 qk_14 rfl rfl (Nat.le_of_ble_eq_true rfl)) rfl (fun σ2 => ?_)
  refine pn_iload_n dX10_against_19 rfl rfl rfl ?_
  refine pn_if_eq (tgt := 33) dX10_against_20 rfl rfl (fun c3 => ?_) (fun c3 => ?_)
  · refine pn_aload_n dX10_against_33 rfl rfl rfl ?_
    refine pn_geta dX10_against_34 rfl lf_X10_32_9 qt_0 qk_0 qr_0_4 qt_14 ?_
    refine pn_geti dX10_against_37 rfl lf_X10_170_2 qt_14 qk_14 qr_14_9 ?_
    exact pn_iretv dX10_against_40 rfl rfl rfl
  · refine pn_aload_n dX10_against_23 rfl rfl rfl ?_
    refine pn_geta dX10_against_24 rfl lf_X10_32_9 qt_0 qk_0 qr_0_4 qt_14 ?_
    refine pn_geti dX10_against_27 rfl lf_X10_167_2 qt_14 qk_14 qr_14_10 ?_
    refine pn_goto (pc' := 40) dX10_against_30 rfl ?_
    exact pn_iretv dX10_against_40 rfl rfl rfl

set_option maxRecDepth 20000 in
theorem ct_X5_stateAt (Γ : pn_G) (a1 : Int32) (σ : pn_S) (hib : pn_ib a1 12 = true) : pn_CR Γ 1 mX5_stateAt [.ref 41, .int a1] σ (43 + 3 * Int32.toNatClampNeg a1) := by
  refine pn_ofR (ls := [.ref 41, .int a1]) (by decide) rfl (pn_cat rfl) rfl (Nat.le_of_ble_eq_true rfl) ?_
  intro p e R s m args below meth c H locs cells slots jls A9 hH hS hl
  have hib9 := of_decide_eq_true hib
  have g0 : jls[0]? = some (.val (.ref (pn_b Γ + 41))) := pn_ls_get (i := 0) (v := .ref 41) hl rfl rfl
  have g1 : jls[1]? = some (.val (.int a1)) := pn_ls_get (i := 1) (v := .int a1) hl rfl rfl
  refine lv_iload_n A9.1 A9.2.1 dX5_stateAt_0 rfl g1 ?_
  refine lv_if_lt (tgt := 22) A9.1 A9.2.1 dX5_stateAt_1 rfl (fun h => ?_) (fun _ => ?_)
  · exfalso
    have h9 : a1.toInt < 0 := Int32.lt_iff_toInt_lt.mp h
    omega
  refine lv_iload_n A9.1 A9.2.1 dX5_stateAt_4 rfl g1 ?_
  refine lv_aload_n A9.1 A9.2.1 dX5_stateAt_5 rfl g0 ?_
  refine pn_getW (v := .ref (pn_b Γ + 42)) A9 hH dX5_stateAt_6 lf_X5_11_4 qt_41 qk_41 (by unfold pn_fv; rw [qr_41_0]) ?_
  refine pn_alenW (v := (12 : Int32)) A9 hH dX5_stateAt_9 qt_42 qk_42 (by rw [ql_42]; rfl) ?_
  refine lv_icmp_ge (tgt := 22) A9.1 A9.2.1 dX5_stateAt_10 rfl (fun h => ?_) (fun _ => ?_)
  · exfalso
    have h9 : (12 : Int32).toInt ≤ a1.toInt := Int32.le_iff_toInt_le.mp h
    rw [show (12 : Int32).toInt = 12 from rfl] at h9
    omega
  refine lv_aload_n A9.1 A9.2.1 dX5_stateAt_13 rfl g0 ?_
  refine pn_getW (v := .ref (pn_b Γ + 42)) A9 hH dX5_stateAt_14 lf_X5_11_4 qt_41 qk_41 (by unfold pn_fv; rw [qr_41_0]) ?_
  refine lv_iload_n A9.1 A9.2.1 dX5_stateAt_17 rfl g1 ?_
  refine pn_aaldW A9 hH dX5_stateAt_18 qt_42 qk_42 ql_42 hib ?_
  refine lv_goto (tgt := 23) A9.1 A9.2.1 dX5_stateAt_19 rfl ?_
  refine vx_ret ?_
  exact W.aret (rt := .object "PanNights$Village") A9.1 A9.2.1 A9.2.2.1 (Or.inl ⟨_, rfl⟩) (Or.inr ⟨_, rfl⟩) (fun t ht hW => ⟨rfl, by rw [ht]; exact hH, hS.F ht⟩) hS.2.2 dX5_stateAt_23 A9.2.2.2.2.2.2.2.1

set_option maxRecDepth 20000 in
set_option maxHeartbeats 4000000 in
theorem ct_J9_min_7cf53 (Γ : pn_G) (a0 : Int32) (a1 : Int32) (σ : pn_S) : ∀ r, fJ9_min_7cf53 a0 a1 σ = some r → pn_C Γ 1 mJ9_min_7cf53 [.int a0, .int a1] σ ((pn_p σ) r) := by
  refine pn_ofF (ls := [.int a0, .int a1]) (by decide +kernel) rfl (pn_cat rfl) rfl (Nat.le_of_ble_eq_true rfl) ?_
  rw [fJ9_min_7cf53]
  refine pn_iload_n dJ9_min_7cf53_0 rfl rfl rfl ?_
  refine pn_iload_n dJ9_min_7cf53_1 rfl rfl rfl ?_
  refine pn_icmp_gt (tgt := 9) dJ9_min_7cf53_2 rfl rfl (fun c1 => ?_) (fun c1 => ?_)
  · refine pn_iload_n dJ9_min_7cf53_9 rfl rfl rfl ?_
    exact pn_iretv dJ9_min_7cf53_10 rfl rfl rfl
  · refine pn_iload_n dJ9_min_7cf53_5 rfl rfl rfl ?_
    refine pn_goto (pc' := 10) dJ9_min_7cf53_6 rfl ?_
    exact pn_iretv dJ9_min_7cf53_10 rfl rfl rfl

set_option maxRecDepth 20000 in
set_option maxHeartbeats 4000000 in
theorem ct_X5_remember (Γ : pn_G) (v0 : Nat) (hv0 : pn_isV v0) (σ : pn_S) : ∀ r, fX5_remember v0 σ = some r → pn_C Γ 2 mX5_remember [.ref 41, .ref v0] σ (pn_v r) := by
  refine pn_of (ls := [.ref 41, .ref v0, .null]) (by decide) rfl (pn_cat rfl) rfl (Nat.le_of_ble_eq_true rfl) ?_
  rw [fX5_remember]
  refine pn_aload_n dX5_remember_0 rfl rfl rfl ?_
  refine pn_aload_n dX5_remember_1 rfl rfl rfl ?_
  refine pn_geti dX5_remember_2 rfl lf_X5_21_4 qt_41 qk_41 qr_41_2 ?_
  refine pn_cr dX5_remember_5 lm_X5_25 (fun b1 => ct_X5_stateAt Γ (σ 41 2) σ b1) (by decide) qt_41 qk_41 rfl rfl (Nat.le_of_ble_eq_true rfl) rfl (fun b1 => (pn_isV_past b1).1.1) (fun b1 => ?_)
  have hb1 := pn_isV_past b1
  refine pn_astore_n (ls' := [.ref 41, .ref v0, .ref (43 + 3 * Int32.toNatClampNeg (σ 41 2))]) dX5_remember_8 rfl rfl (Nat.le_of_ble_eq_true rfl) rfl ?_
  refine pn_aload_n dX5_remember_9 rfl rfl rfl ?_
  refine pn_ifnonnull (pc' := 14) dX5_remember_10 rfl ?_
  refine pn_aload_n dX5_remember_14 rfl rfl rfl ?_
  refine pn_aload_n dX5_remember_15 rfl rfl rfl ?_
  refine pn_cv (fun r9 h9 => pn_LKV dX5_remember_16 lm_X5_29 (ct_X8_copy Γ (43 + 3 * Int32.toNatClampNeg (σ 41 2)) hb1 v0 hv0 σ r9 h9) (by decide) hb1.1.1 hb1.1.2 rfl rfl (Nat.le_of_ble_eq_true rfl)) rfl (fun σ2 => ?_)
  refine pn_aload_n dX5_remember_19 rfl rfl rfl ?_
  refine pn_aload_n dX5_remember_20 rfl rfl rfl ?_
  refine pn_geti dX5_remember_21 rfl lf_X5_21_4 qt_41 qk_41 qr_41_2 ?_
  refine pn_iconst dX5_remember_24 rfl ic_1 ?_
  refine pn_iadd dX5_remember_25 rfl ?_
  refine pn_bipush dX5_remember_26 rfl bc_12 ?_
  refine pn_iremc dX5_remember_28 rfl (by decide) ?_
  refine pn_puti dX5_remember_29 rfl lf_X5_21_4 (fpi_4_2 (((σ2 41 2) + (1 : Int32)) - ((σ2 41 2) + (1 : Int32)) / (12 : Int32) * (12 : Int32))) qt_41 qk_41 qr_41_2 ?_
  refine pn_aload_n dX5_remember_32 rfl rfl rfl ?_
  refine pn_bipush dX5_remember_33 rfl bc_12 ?_
  refine pn_aload_n dX5_remember_35 rfl rfl rfl ?_
  refine pn_geti dX5_remember_36 rfl lf_X5_17_4 qt_41 qk_41 qr_41_1 ?_
  refine pn_iconst dX5_remember_39 rfl ic_1 ?_
  refine pn_iadd dX5_remember_40 rfl ?_
  refine pn_cp (fun r9 h9 => pn_LKS dX5_remember_41 lm_X5_33 (ct_J9_min_7cf53 Γ (12 : Int32) (((pn_up σ2 41 2 (((σ2 41 2) + (1 : Int32)) - ((σ2 41 2) + (1 : Int32)) / (12 : Int32) * (12 : Int32))) 41 1) + (1 : Int32)) (pn_up σ2 41 2 (((σ2 41 2) + (1 : Int32)) - ((σ2 41 2) + (1 : Int32)) / (12 : Int32) * (12 : Int32))) r9 h9) (by decide) rfl rfl (Nat.le_of_ble_eq_true rfl)) rfl (fun x3 => ?_)
  refine pn_puti dX5_remember_44 rfl lf_X5_17_4 (fpi_4_1 x3) qt_41 qk_41 qr_41_1 ?_
  exact pn_vretv dX5_remember_47 rfl rfl

set_option maxRecDepth 20000 in
set_option maxHeartbeats 4000000 in
theorem ct_X10_name (Γ : pn_G) (a1 : Int32) (σ : pn_S) : ∀ r, fX10_name a1 σ = some r → pn_C Γ 3 mX10_name [.ref 0, .int a1] σ (pn_xi r) := by
  refine pn_of (ls := [.ref 0, .int a1, .null]) (by decide) rfl (pn_cat rfl) rfl (Nat.le_of_ble_eq_true rfl) ?_
  rw [fX10_name]
  refine pn_aload_n dX10_name_0 rfl rfl rfl ?_
  refine pn_iload_n dX10_name_1 rfl rfl rfl ?_
  refine pn_cxv (fun _ _ => rfl) rfl (fun r9 h9 => pn_LKV dX10_name_2 lm_X10_149 (ct_X10_checkPerson Γ a1 σ r9 h9) (by decide) qt_0 qk_0 rfl rfl (Nat.le_of_ble_eq_true rfl)) rfl (fun σ1 => ?_)
  refine pn_aload_n dX10_name_5 rfl rfl rfl ?_
  refine pn_geta dX10_name_6 rfl lf_X10_19_9 qt_0 qk_0 qr_0_1 qt_5 ?_
  refine pn_iload_n dX10_name_9 rfl rfl rfl ?_
  refine pn_iconst dX10_name_10 rfl ic_4 ?_
  refine pn_cp (fun r9 h9 => pn_LKV dX10_name_11 lm_X10_155 (ct_X8_of Γ 5 qv_5 a1 (4 : Int32) σ1 r9 h9) (by decide) qt_5 qk_5 rfl rfl (Nat.le_of_ble_eq_true rfl)) rfl (fun x2 => ?_)
  refine pn_if_ne (tgt := 25) dX10_name_14 rfl rfl (fun c3 => ?_) (fun c3 => ?_)
  · exact pn_throw (fun _ _ => rfl) rfl th_X10_173 dX10_name_17 dX10_name_20 dX10_name_21 dX10_name_24
  · refine pn_aload_n dX10_name_25 rfl rfl rfl ?_
    refine pn_geta dX10_name_26 rfl lf_X10_70_9 qt_0 qk_0 qr_0_10 qt_41 ?_
    refine pn_aload_n dX10_name_29 rfl rfl rfl ?_
    refine pn_geta dX10_name_30 rfl lf_X10_19_9 qt_0 qk_0 qr_0_1 qt_5 ?_
    refine pn_cv (fun r9 h9 => pn_LKV dX10_name_33 lm_X10_176 (ct_X5_remember Γ 5 qv_5 σ1 r9 h9) (by decide) qt_41 qk_41 rfl rfl (Nat.le_of_ble_eq_true rfl)) rfl (fun σ4 => ?_)
    refine pn_aload_n dX10_name_36 rfl rfl rfl ?_
    refine pn_geta dX10_name_37 rfl lf_X10_19_9 qt_0 qk_0 qr_0_1 qt_5 ?_
    refine pn_geti dX10_name_40 rfl lf_X10_179_7 qt_5 qk_5 qr_5_4 ?_
    refine pn_istore_n (ls' := [.ref 0, .int a1, .int (σ4 5 4)]) dX10_name_43 rfl rfl (Nat.le_of_ble_eq_true rfl) rfl ?_
    refine pn_aload_n dX10_name_44 rfl rfl rfl ?_
    refine pn_geta dX10_name_45 rfl lf_X10_19_9 qt_0 qk_0 qr_0_1 qt_5 ?_
    refine pn_iload_n dX10_name_48 rfl rfl rfl ?_
    refine pn_cv (fun r9 h9 => pn_LKV dX10_name_49 lm_X10_182 (ct_X8_aim Γ 5 qv_5 a1 σ4 r9 h9) (by decide) qt_5 qk_5 rfl rfl (Nat.le_of_ble_eq_true rfl)) rfl (fun σ5 => ?_)
    refine pn_iload_n dX10_name_52 rfl rfl rfl ?_
    exact pn_iretv dX10_name_53 rfl rfl rfl

set_option maxRecDepth 20000 in
set_option maxHeartbeats 4000000 in
theorem wX10_begin_25 (Γ : pn_G)  (l1 : Int32) (s0 : Int32) (σ : pn_S) : pn_W9 Γ 3 mX10_begin pn_xi 25 [.ref 0, .int l1, .null, .null] [.int s0] σ (fX10_begin_25 l1 s0 σ) := by
  rw [fX10_begin_25]
  refine pn_istore_n (ls' := [.ref 0, .int l1, .null, .int s0]) dX10_begin_25 rfl rfl (Nat.le_of_ble_eq_true rfl) rfl ?_
  refine pn_aload_n dX10_begin_26 rfl rfl rfl ?_
  refine pn_geta dX10_begin_27 rfl lf_X10_19_9 qt_0 qk_0 qr_0_1 qt_5 ?_
  refine pn_iload_n dX10_begin_30 rfl rfl rfl ?_
  refine pn_bipush dX10_begin_31 rfl bc_7 ?_
  refine pn_iload_n dX10_begin_33 rfl rfl rfl ?_
  refine pn_ci (fun r9 h9 => pn_LKV dX10_begin_34 lm_X10_185 (ct_X8_tell Γ 5 qv_5 l1 (7 : Int32) s0 σ r9 h9) (by decide) qt_5 qk_5 rfl rfl (Nat.le_of_ble_eq_true rfl)) rfl (fun x4 σ4 => ?_)
  refine pn_iload_n dX10_begin_37 rfl rfl rfl ?_
  refine pn_icmp_eq (tgt := 45) dX10_begin_38 rfl rfl (fun c5 => ?_) (fun c5 => ?_)
  · refine pn_iconst dX10_begin_45 rfl ic_0 ?_
    exact pn_iretv dX10_begin_46 rfl rfl rfl
  · refine pn_iconst dX10_begin_41 rfl ic_1 ?_
    refine pn_goto (pc' := 46) dX10_begin_42 rfl ?_
    exact pn_iretv dX10_begin_46 rfl rfl rfl

set_option maxRecDepth 20000 in
set_option maxHeartbeats 4000000 in
theorem ct_X10_begin (Γ : pn_G) (a1 : Int32) (a2 : Int32) (σ : pn_S) : ∀ r, fX10_begin a1 a2 σ = some r → pn_C Γ 3 mX10_begin [.ref 0, .int a1, .int a2] σ (pn_xi r) := by
  refine pn_of (ls := [.ref 0, .int a1, .int a2, .null]) (by decide) rfl (pn_cat rfl) rfl (Nat.le_of_ble_eq_true rfl) ?_
  rw [fX10_begin]
  refine pn_aload_n dX10_begin_0 rfl rfl rfl ?_
  refine pn_iload_n dX10_begin_1 rfl rfl rfl ?_
  refine pn_cxv (fun _ _ => rfl) rfl (fun r9 h9 => pn_LKV dX10_begin_2 lm_X10_149 (ct_X10_checkPerson Γ a1 σ r9 h9) (by decide) qt_0 qk_0 rfl rfl (Nat.le_of_ble_eq_true rfl)) rfl (fun σ1 => ?_)
  refine pn_aload_n dX10_begin_5 rfl rfl rfl ?_
  refine pn_geta dX10_begin_6 rfl lf_X10_70_9 qt_0 qk_0 qr_0_10 qt_41 ?_
  refine pn_aload_n dX10_begin_9 rfl rfl rfl ?_
  refine pn_geta dX10_begin_10 rfl lf_X10_19_9 qt_0 qk_0 qr_0_1 qt_5 ?_
  refine pn_cv (fun r9 h9 => pn_LKV dX10_begin_13 lm_X10_176 (ct_X5_remember Γ 5 qv_5 σ1 r9 h9) (by decide) qt_41 qk_41 rfl rfl (Nat.le_of_ble_eq_true rfl)) rfl (fun σ2 => ?_)
  refine pn_iload_n dX10_begin_16 rfl rfl rfl ?_
  refine pn_if_eq (tgt := 24) dX10_begin_17 rfl rfl (fun c3 => ?_) (fun c3 => ?_)
  · refine pn_iconst dX10_begin_24 rfl ic_0 ?_
    exact pn_wk (pn_leC rfl (pn_leC rfl (pn_leN (pn_leN pn_le0)))) (wX10_begin_25 Γ a1 (0 : Int32) σ2)
  · refine pn_iconst dX10_begin_20 rfl ic_1 ?_
    refine pn_goto (pc' := 25) dX10_begin_21 rfl ?_
    exact pn_wk (pn_leC rfl (pn_leC rfl (pn_leN (pn_leN pn_le0)))) (wX10_begin_25 Γ a1 (1 : Int32) σ2)

set_option maxRecDepth 20000 in
set_option maxHeartbeats 4000000 in
theorem wX0_invite_8 (Γ : pn_G) (v0 : Nat) (hv0 : pn_isV v0) (w1 : Nat) (hw1 : pn_isW w1) : ∀ (n9 : Nat) (l3 : Int32) (l4 : Int32) (σ : pn_S), pn_W9 Γ 4 mX0_invite pn_v 8 [.ref 37, .ref v0, .ref w1, .int l3, .int l4] [] σ (fX0_invite_8 v0 w1 n9 l3 l4 σ) := by
  intro n9
  induction n9 with
  | zero => intro l3 l4 σ; exact pn_none
  | succ n9 ih =>
    intro l3 l4 σ
    rw [fX0_invite_8]
    refine pn_iload dX0_invite_8 rfl rfl ?_
    refine pn_aload_n dX0_invite_10 rfl rfl rfl ?_
    refine pn_geti dX0_invite_11 rfl lf_X0_37_7 hv0.1.1 hv0.1.2 (pn_RVi hv0.1.2 (by decide)) ?_
    refine pn_icmp_ge (tgt := 79) dX0_invite_14 rfl rfl (fun c1 => ?_) (fun c1 => ?_)
    · exact pn_vretv dX0_invite_79 rfl rfl
    · refine pn_iload dX0_invite_17 rfl rfl ?_
      refine pn_bipush dX0_invite_19 rfl bc_8 ?_
      refine pn_icmp_ge (tgt := 79) dX0_invite_21 rfl rfl (fun c2 => ?_) (fun c2 => ?_)
      · exact pn_vretv dX0_invite_79 rfl rfl
      · refine pn_iload dX0_invite_24 rfl rfl ?_
        refine pn_iload_n dX0_invite_26 rfl rfl rfl ?_
        refine pn_icmp_eq (tgt := 73) dX0_invite_27 rfl rfl (fun c3 => ?_) (fun c3 => ?_)
        · refine pn_iinc (ls' := [.ref 37, .ref v0, .ref w1, .int l3, .int (l4 + (1 : Int32))]) dX0_invite_73 rfl (Nat.le_of_ble_eq_true rfl) rfl (congrArg (fun z => l4 + z) ic_1) rfl ?_
          refine pn_goto (pc' := 8) dX0_invite_76 rfl ?_
          exact ih l3 (l4 + (1 : Int32)) σ
        · refine pn_aload_n dX0_invite_30 rfl rfl rfl ?_
          refine pn_dupa dX0_invite_31 rfl ?_
          refine pn_geti dX0_invite_32 rfl lf_X0_21_0 qt_37 qk_37 qr_37_3 ?_
          refine pn_iconst dX0_invite_35 rfl ic_1 ?_
          refine pn_iload dX0_invite_36 rfl rfl ?_
          refine pn_ishl dX0_invite_38 rfl ?_
          refine pn_ior dX0_invite_39 rfl ?_
          refine pn_puti dX0_invite_40 rfl lf_X0_21_0 (fpi_0_3 ((σ 37 3) ||| ((1 : Int32) <<< (l4 &&& 31)))) qt_37 qk_37 qr_37_3 ?_
          refine pn_aload_n dX0_invite_43 rfl rfl rfl ?_
          refine pn_aload_n dX0_invite_44 rfl rfl rfl ?_
          refine pn_iload dX0_invite_45 rfl rfl ?_
          refine pn_iload_n dX0_invite_47 rfl rfl rfl ?_
          refine pn_cv (fun r9 h9 => pn_LKV dX0_invite_48 lm_X0_42 (ct_X2_weigh Γ w1 hw1 v0 hv0 l4 l3 (pn_up σ 37 3 ((σ 37 3) ||| ((1 : Int32) <<< (l4 &&& 31)))) r9 h9) (by decide) hw1.1.1 hw1.1.2 rfl rfl (Nat.le_of_ble_eq_true rfl)) rfl (fun σ4 => ?_)
          refine pn_aload_n dX0_invite_51 rfl rfl rfl ?_
          refine pn_geta dX0_invite_52 rfl lf_X0_9_0 qt_37 qk_37 qr_37_0 qt_38 ?_
          refine pn_iload dX0_invite_55 rfl rfl ?_
          refine pn_aload_n dX0_invite_57 rfl rfl rfl ?_
          refine pn_geti dX0_invite_58 rfl lf_X0_48_2 hw1.1.1 hw1.1.2 (pn_RWi hw1.1.2 (by decide)) ?_
          refine pn_iast dX0_invite_61 rfl qt_38 qk_38 ql_38 ?_
          refine pn_aload_n dX0_invite_62 rfl rfl rfl ?_
          refine pn_geta dX0_invite_63 rfl lf_X0_15_0 qt_37 qk_37 qr_37_1 qt_39 ?_
          refine pn_iload dX0_invite_66 rfl rfl ?_
          refine pn_aload_n dX0_invite_68 rfl rfl rfl ?_
          refine pn_geti dX0_invite_69 rfl lf_X0_50_2 hw1.1.1 hw1.1.2 (pn_RWi hw1.1.2 (by decide)) ?_
          refine pn_iast dX0_invite_72 rfl qt_39 qk_39 ql_39 ?_
          refine pn_iinc (ls' := [.ref 37, .ref v0, .ref w1, .int l3, .int (l4 + (1 : Int32))]) dX0_invite_73 rfl (Nat.le_of_ble_eq_true rfl) rfl (congrArg (fun z => l4 + z) ic_1) rfl ?_
          refine pn_goto (pc' := 8) dX0_invite_76 rfl ?_
          exact ih l3 (l4 + (1 : Int32)) (pn_up (pn_up σ4 38 (Int32.toNatClampNeg l4) (σ4 w1 9)) 39 (Int32.toNatClampNeg l4) ((pn_up σ4 38 (Int32.toNatClampNeg l4) (σ4 w1 9)) w1 10))

set_option maxRecDepth 20000 in
set_option maxHeartbeats 4000000 in
theorem ct_X0_invite (Γ : pn_G) (v0 : Nat) (hv0 : pn_isV v0) (w1 : Nat) (hw1 : pn_isW w1) (a3 : Int32) (σ : pn_S) : ∀ r, fX0_invite v0 w1 a3 σ = some r → pn_C Γ 4 mX0_invite [.ref 37, .ref v0, .ref w1, .int a3] σ (pn_v r) := by
  refine pn_of (ls := [.ref 37, .ref v0, .ref w1, .int a3, .null]) (by decide) rfl (pn_cat rfl) rfl (Nat.le_of_ble_eq_true rfl) ?_
  rw [fX0_invite]
  refine pn_aload_n dX0_invite_0 rfl rfl rfl ?_
  refine pn_iconst dX0_invite_1 rfl ic_0 ?_
  refine pn_puti dX0_invite_2 rfl lf_X0_21_0 (fpi_0_3 (0 : Int32)) qt_37 qk_37 qr_37_3 ?_
  refine pn_iconst dX0_invite_5 rfl ic_0 ?_
  refine pn_istore (ls' := [.ref 37, .ref v0, .ref w1, .int a3, .int (0 : Int32)]) dX0_invite_6 rfl (Nat.le_of_ble_eq_true rfl) rfl ?_
  exact wX0_invite_8 Γ v0 hv0 w1 hw1 5000 a3 (0 : Int32) (pn_up σ 37 3 (0 : Int32))

set_option maxRecDepth 20000 in
set_option maxHeartbeats 4000000 in
theorem wX8_beginners_4 (Γ : pn_G) (v0 : Nat) (hv0 : pn_isV v0) (σ : pn_S) : ∀ (n9 : Nat) (l1 : Int32) (l2 : Int32), pn_W9 Γ 2 mX8_beginners (pn_p σ) 4 [.ref v0, .int l1, .int l2] [] σ (fX8_beginners_4 v0 n9 l1 l2 σ) := by
  intro n9
  induction n9 with
  | zero => intro l1 l2; exact pn_none
  | succ n9 ih =>
    intro l1 l2
    rw [fX8_beginners_4]
    refine pn_iload_n dX8_beginners_4 rfl rfl rfl ?_
    refine pn_aload_n dX8_beginners_5 rfl rfl rfl ?_
    refine pn_geti dX8_beginners_6 rfl lf_X8_18_7 hv0.1.1 hv0.1.2 (pn_RVi hv0.1.2 (by decide)) ?_
    refine pn_icmp_ge (tgt := 30) dX8_beginners_9 rfl rfl (fun c1 => ?_) (fun c1 => ?_)
    · refine pn_iload_n dX8_beginners_30 rfl rfl rfl ?_
      exact pn_iretv dX8_beginners_31 rfl rfl rfl
    · refine pn_iload_n dX8_beginners_12 rfl rfl rfl ?_
      refine pn_aload_n dX8_beginners_13 rfl rfl rfl ?_
      refine pn_iload_n dX8_beginners_14 rfl rfl rfl ?_
      refine pn_bipush dX8_beginners_15 rfl bc_7 ?_
      refine pn_cp (fun r9 h9 => pn_LKV dX8_beginners_17 lm_X8_76 (ct_X8_of Γ v0 hv0 l2 (7 : Int32) σ r9 h9) (by decide) hv0.1.1 hv0.1.2 rfl rfl (Nat.le_of_ble_eq_true rfl)) rfl (fun x2 => ?_)
      refine pn_iload_n dX8_beginners_20 rfl rfl rfl ?_
      refine pn_ishl dX8_beginners_21 rfl ?_
      refine pn_ior dX8_beginners_22 rfl ?_
      refine pn_istore_n (ls' := [.ref v0, .int (l1 ||| (x2 <<< (l2 &&& 31))), .int l2]) dX8_beginners_23 rfl rfl (Nat.le_of_ble_eq_true rfl) rfl ?_
      refine pn_iinc (ls' := [.ref v0, .int (l1 ||| (x2 <<< (l2 &&& 31))), .int (l2 + (1 : Int32))]) dX8_beginners_24 rfl (Nat.le_of_ble_eq_true rfl) rfl (congrArg (fun z => l2 + z) ic_1) rfl ?_
      refine pn_goto (pc' := 4) dX8_beginners_27 rfl ?_
      exact ih (l1 ||| (x2 <<< (l2 &&& 31))) (l2 + (1 : Int32))

set_option maxRecDepth 20000 in
set_option maxHeartbeats 4000000 in
theorem ct_X8_beginners (Γ : pn_G) (v0 : Nat) (hv0 : pn_isV v0) (σ : pn_S) : ∀ r, fX8_beginners v0 σ = some r → pn_C Γ 2 mX8_beginners [.ref v0] σ ((pn_p σ) r) := by
  refine pn_of (ls := [.ref v0, .null, .null]) (by decide) rfl (pn_cat rfl) rfl (Nat.le_of_ble_eq_true rfl) ?_
  rw [fX8_beginners]
  refine pn_iconst dX8_beginners_0 rfl ic_0 ?_
  refine pn_istore_n (ls' := [.ref v0, .int (0 : Int32), .null]) dX8_beginners_1 rfl rfl (Nat.le_of_ble_eq_true rfl) rfl ?_
  refine pn_iconst dX8_beginners_2 rfl ic_0 ?_
  refine pn_istore_n (ls' := [.ref v0, .int (0 : Int32), .int (0 : Int32)]) dX8_beginners_3 rfl rfl (Nat.le_of_ble_eq_true rfl) rfl ?_
  exact wX8_beginners_4 Γ v0 hv0 σ 5000 (0 : Int32) (0 : Int32)

set_option maxRecDepth 20000 in
set_option maxHeartbeats 4000000 in
theorem wJ7_fill_53178_5 (Γ : pn_G) (r0 : Nat) (n0 : Nat) (hr0 : pn_isI r0 n0) : ∀ (n9 : Nat) (l1 : Int32) (l2 : Int32) (l3 : Int32) (σ : pn_S), pn_W9 Γ 1 mJ7_fill_53178 pn_v 5 [.ref r0, .int l1, .int l2, .int l3] [] σ (fJ7_fill_53178_5 r0 n0 n9 l1 l2 l3 σ) := by
  intro n9
  induction n9 with
  | zero => intro l1 l2 l3 σ; exact pn_none
  | succ n9 ih =>
    intro l1 l2 l3 σ
    rw [fJ7_fill_53178_5]
    refine pn_iload_n dJ7_fill_53178_5 rfl rfl rfl ?_
    refine pn_iload_n dJ7_fill_53178_6 rfl rfl rfl ?_
    refine pn_icmp_ge (tgt := 20) dJ7_fill_53178_7 rfl rfl (fun c1 => ?_) (fun c1 => ?_)
    · exact pn_vretv dJ7_fill_53178_20 rfl rfl
    · refine pn_aload_n dJ7_fill_53178_10 rfl rfl rfl ?_
      refine pn_iload_n dJ7_fill_53178_11 rfl rfl rfl ?_
      refine pn_iload_n dJ7_fill_53178_12 rfl rfl rfl ?_
      refine pn_iast dJ7_fill_53178_13 rfl hr0.1 hr0.2.1 hr0.2.2 ?_
      refine pn_iinc (ls' := [.ref r0, .int l1, .int (l2 + (1 : Int32)), .int l3]) dJ7_fill_53178_14 rfl (Nat.le_of_ble_eq_true rfl) rfl (congrArg (fun z => l2 + z) ic_1) rfl ?_
      refine pn_goto (pc' := 5) dJ7_fill_53178_17 rfl ?_
      exact ih l1 (l2 + (1 : Int32)) l3 (pn_up σ r0 (Int32.toNatClampNeg l2) l1)

set_option maxRecDepth 20000 in
set_option maxHeartbeats 4000000 in
theorem ct_J7_fill_53178 (Γ : pn_G) (r0 : Nat) (n0 : Nat) (hr0 : pn_isI r0 n0) (a1 : Int32) (σ : pn_S) : ∀ r, fJ7_fill_53178 r0 n0 a1 σ = some r → pn_C Γ 1 mJ7_fill_53178 [.ref r0, .int a1] σ (pn_v r) := by
  refine pn_of (ls := [.ref r0, .int a1, .null, .null]) (by decide) rfl (pn_cat rfl) rfl (Nat.le_of_ble_eq_true rfl) ?_
  rw [fJ7_fill_53178]
  refine pn_iconst dJ7_fill_53178_0 rfl ic_0 ?_
  refine pn_istore_n (ls' := [.ref r0, .int a1, .int (0 : Int32), .null]) dJ7_fill_53178_1 rfl rfl (Nat.le_of_ble_eq_true rfl) rfl ?_
  refine pn_aload_n dJ7_fill_53178_2 rfl rfl rfl ?_
  refine pn_alen dJ7_fill_53178_3 rfl hr0.1 hr0.2.1 hr0.2.2 ?_
  refine pn_istore_n (ls' := [.ref r0, .int a1, .int (0 : Int32), .int (Int32.ofNat n0)]) dJ7_fill_53178_4 rfl rfl (Nat.le_of_ble_eq_true rfl) rfl ?_
  exact wJ7_fill_53178_5 Γ r0 n0 hr0 5000 a1 (0 : Int32) (Int32.ofNat n0) σ

set_option maxRecDepth 20000 in
set_option maxHeartbeats 4000000 in
theorem wJ6_bitCount_0f7a4_48 (Γ : pn_G)  (σ : pn_S) (l0 : Int32) : pn_W9 Γ 1 mJ6_bitCount_0f7a4 (pn_p σ) 48 [.int l0] [] σ (fJ6_bitCount_0f7a4_48 l0 σ) := by
  rw [fJ6_bitCount_0f7a4_48]
  refine pn_iload_n dJ6_bitCount_0f7a4_48 rfl rfl rfl ?_
  refine pn_bipush dJ6_bitCount_0f7a4_49 rfl bc_63 ?_
  refine pn_iand dJ6_bitCount_0f7a4_51 rfl ?_
  exact pn_iretv dJ6_bitCount_0f7a4_52 rfl rfl rfl

set_option maxRecDepth 20000 in
set_option maxHeartbeats 4000000 in
theorem wJ6_bitCount_0f7a4_34 (Γ : pn_G)  (σ : pn_S) (l0 : Int32) : pn_W9 Γ 1 mJ6_bitCount_0f7a4 (pn_p σ) 34 [.int l0] [] σ (fJ6_bitCount_0f7a4_34 l0 σ) := by
  rw [fJ6_bitCount_0f7a4_34]
  refine pn_iload_n dJ6_bitCount_0f7a4_34 rfl rfl rfl ?_
  refine pn_iload_n dJ6_bitCount_0f7a4_35 rfl rfl rfl ?_
  refine pn_bipush dJ6_bitCount_0f7a4_36 rfl bc_8 ?_
  refine pn_iushr dJ6_bitCount_0f7a4_38 rfl ?_
  refine pn_iadd dJ6_bitCount_0f7a4_39 rfl ?_
  refine pn_istore_n (ls' := [.int (l0 + ((Int32.toUInt32 l0 >>> (Int32.toUInt32 (8 : Int32) &&& Int32.toUInt32 31)).toInt32))]) dJ6_bitCount_0f7a4_40 rfl rfl (Nat.le_of_ble_eq_true rfl) rfl ?_
  refine pn_iload_n dJ6_bitCount_0f7a4_41 rfl rfl rfl ?_
  refine pn_iload_n dJ6_bitCount_0f7a4_42 rfl rfl rfl ?_
  refine pn_bipush dJ6_bitCount_0f7a4_43 rfl bc_16 ?_
  refine pn_iushr dJ6_bitCount_0f7a4_45 rfl ?_
  refine pn_iadd dJ6_bitCount_0f7a4_46 rfl ?_
  refine pn_istore_n (ls' := [.int ((l0 + ((Int32.toUInt32 l0 >>> (Int32.toUInt32 (8 : Int32) &&& Int32.toUInt32 31)).toInt32)) + ((Int32.toUInt32 (l0 + ((Int32.toUInt32 l0 >>> (Int32.toUInt32 (8 : Int32) &&& Int32.toUInt32 31)).toInt32)) >>> (Int32.toUInt32 (16 : Int32) &&& Int32.toUInt32 31)).toInt32))]) dJ6_bitCount_0f7a4_47 rfl rfl (Nat.le_of_ble_eq_true rfl) rfl ?_
  exact wJ6_bitCount_0f7a4_48 Γ σ ((l0 + ((Int32.toUInt32 l0 >>> (Int32.toUInt32 (8 : Int32) &&& Int32.toUInt32 31)).toInt32)) + ((Int32.toUInt32 (l0 + ((Int32.toUInt32 l0 >>> (Int32.toUInt32 (8 : Int32) &&& Int32.toUInt32 31)).toInt32)) >>> (Int32.toUInt32 (16 : Int32) &&& Int32.toUInt32 31)).toInt32))

set_option maxRecDepth 20000 in
set_option maxHeartbeats 4000000 in
theorem wJ6_bitCount_0f7a4_24 (Γ : pn_G)  (σ : pn_S) (l0 : Int32) : pn_W9 Γ 1 mJ6_bitCount_0f7a4 (pn_p σ) 24 [.int l0] [] σ (fJ6_bitCount_0f7a4_24 l0 σ) := by
  rw [fJ6_bitCount_0f7a4_24]
  refine pn_iload_n dJ6_bitCount_0f7a4_24 rfl rfl rfl ?_
  refine pn_iload_n dJ6_bitCount_0f7a4_25 rfl rfl rfl ?_
  refine pn_iconst dJ6_bitCount_0f7a4_26 rfl ic_4 ?_
  refine pn_iushr dJ6_bitCount_0f7a4_27 rfl ?_
  refine pn_iadd dJ6_bitCount_0f7a4_28 rfl ?_
  refine pn_ldcw dJ6_bitCount_0f7a4_29 rfl lc_J6_267 ?_
  refine pn_iand dJ6_bitCount_0f7a4_32 rfl ?_
  refine pn_istore_n (ls' := [.int ((l0 + ((Int32.toUInt32 l0 >>> (Int32.toUInt32 (4 : Int32) &&& Int32.toUInt32 31)).toInt32)) &&& (252645135 : Int32))]) dJ6_bitCount_0f7a4_33 rfl rfl (Nat.le_of_ble_eq_true rfl) rfl ?_
  exact wJ6_bitCount_0f7a4_34 Γ σ ((l0 + ((Int32.toUInt32 l0 >>> (Int32.toUInt32 (4 : Int32) &&& Int32.toUInt32 31)).toInt32)) &&& (252645135 : Int32))

set_option maxRecDepth 20000 in
set_option maxHeartbeats 4000000 in
theorem wJ6_bitCount_0f7a4_10 (Γ : pn_G)  (σ : pn_S) (l0 : Int32) : pn_W9 Γ 1 mJ6_bitCount_0f7a4 (pn_p σ) 10 [.int l0] [] σ (fJ6_bitCount_0f7a4_10 l0 σ) := by
  rw [fJ6_bitCount_0f7a4_10]
  refine pn_iload_n dJ6_bitCount_0f7a4_10 rfl rfl rfl ?_
  refine pn_ldcw dJ6_bitCount_0f7a4_11 rfl lc_J6_266 ?_
  refine pn_iand dJ6_bitCount_0f7a4_14 rfl ?_
  refine pn_iload_n dJ6_bitCount_0f7a4_15 rfl rfl rfl ?_
  refine pn_iconst dJ6_bitCount_0f7a4_16 rfl ic_2 ?_
  refine pn_iushr dJ6_bitCount_0f7a4_17 rfl ?_
  refine pn_ldcw dJ6_bitCount_0f7a4_18 rfl lc_J6_266 ?_
  refine pn_iand dJ6_bitCount_0f7a4_21 rfl ?_
  refine pn_iadd dJ6_bitCount_0f7a4_22 rfl ?_
  refine pn_istore_n (ls' := [.int ((l0 &&& (858993459 : Int32)) + (((Int32.toUInt32 l0 >>> (Int32.toUInt32 (2 : Int32) &&& Int32.toUInt32 31)).toInt32) &&& (858993459 : Int32)))]) dJ6_bitCount_0f7a4_23 rfl rfl (Nat.le_of_ble_eq_true rfl) rfl ?_
  exact wJ6_bitCount_0f7a4_24 Γ σ ((l0 &&& (858993459 : Int32)) + (((Int32.toUInt32 l0 >>> (Int32.toUInt32 (2 : Int32) &&& Int32.toUInt32 31)).toInt32) &&& (858993459 : Int32)))

set_option maxRecDepth 20000 in
set_option maxHeartbeats 4000000 in
theorem ct_J6_bitCount_0f7a4 (Γ : pn_G) (a0 : Int32) (σ : pn_S) : ∀ r, fJ6_bitCount_0f7a4 a0 σ = some r → pn_C Γ 1 mJ6_bitCount_0f7a4 [.int a0] σ ((pn_p σ) r) := by
  refine pn_of (ls := [.int a0]) (by decide) rfl (pn_cat rfl) rfl (Nat.le_of_ble_eq_true rfl) ?_
  rw [fJ6_bitCount_0f7a4]
  refine pn_iload_n dJ6_bitCount_0f7a4_0 rfl rfl rfl ?_
  refine pn_iload_n dJ6_bitCount_0f7a4_1 rfl rfl rfl ?_
  refine pn_iconst dJ6_bitCount_0f7a4_2 rfl ic_1 ?_
  refine pn_iushr dJ6_bitCount_0f7a4_3 rfl ?_
  refine pn_ldcw dJ6_bitCount_0f7a4_4 rfl lc_J6_265 ?_
  refine pn_iand dJ6_bitCount_0f7a4_7 rfl ?_
  refine pn_isub dJ6_bitCount_0f7a4_8 rfl ?_
  refine pn_istore_n (ls' := [.int (a0 - (((Int32.toUInt32 a0 >>> (Int32.toUInt32 (1 : Int32) &&& Int32.toUInt32 31)).toInt32) &&& (1431655765 : Int32)))]) dJ6_bitCount_0f7a4_9 rfl rfl (Nat.le_of_ble_eq_true rfl) rfl ?_
  exact wJ6_bitCount_0f7a4_10 Γ σ (a0 - (((Int32.toUInt32 a0 >>> (Int32.toUInt32 (1 : Int32) &&& Int32.toUInt32 31)).toInt32) &&& (1431655765 : Int32)))

set_option maxRecDepth 20000 in
set_option maxHeartbeats 4000000 in
theorem ct_X10_hasBit (Γ : pn_G) (a0 : Int32) (a1 : Int32) (σ : pn_S) : ∀ r, fX10_hasBit a0 a1 σ = some r → pn_C Γ 1 mX10_hasBit [.int a0, .int a1] σ ((pn_p σ) r) := by
  refine pn_of (ls := [.int a0, .int a1]) (by decide) rfl (pn_cat rfl) rfl (Nat.le_of_ble_eq_true rfl) ?_
  rw [fX10_hasBit]
  refine pn_iload_n dX10_hasBit_0 rfl rfl rfl ?_
  refine pn_iload_n dX10_hasBit_1 rfl rfl rfl ?_
  refine pn_ishr dX10_hasBit_2 rfl ?_
  refine pn_iconst dX10_hasBit_3 rfl ic_1 ?_
  refine pn_iand dX10_hasBit_4 rfl ?_
  refine pn_iconst dX10_hasBit_5 rfl ic_1 ?_
  refine pn_icmp_ne (tgt := 13) dX10_hasBit_6 rfl rfl (fun c1 => ?_) (fun c1 => ?_)
  · refine pn_iconst dX10_hasBit_9 rfl ic_1 ?_
    refine pn_goto (pc' := 14) dX10_hasBit_10 rfl ?_
    exact pn_iretv dX10_hasBit_14 rfl rfl rfl
  · refine pn_iconst dX10_hasBit_13 rfl ic_0 ?_
    exact pn_iretv dX10_hasBit_14 rfl rfl rfl

set_option maxRecDepth 20000 in
set_option maxHeartbeats 4000000 in
theorem wX0_admit_30 (Γ : pn_G)  : ∀ (n9 : Nat) (l1 : Int32) (l2 : Int32) (l3 : Int32) (σ : pn_S), pn_W9 Γ 2 mX0_admit pn_v 30 [.ref 37, .int l1, .int l2, .int l3] [] σ (fX0_admit_30 n9 l1 l2 l3 σ) := by
  intro n9
  induction n9 with
  | zero => intro l1 l2 l3 σ; exact pn_none
  | succ n9 ih =>
    intro l1 l2 l3 σ
    rw [fX0_admit_30]
    refine pn_iload_n dX0_admit_30 rfl rfl rfl ?_
    refine pn_bipush dX0_admit_31 rfl bc_8 ?_
    refine pn_icmp_ge (tgt := 72) dX0_admit_33 rfl rfl (fun c2 => ?_) (fun c2 => ?_)
    · exact pn_vretv dX0_admit_72 rfl rfl
    · refine pn_iload_n dX0_admit_36 rfl rfl rfl ?_
      refine pn_iload_n dX0_admit_37 rfl rfl rfl ?_
      refine pn_cp (fun r9 h9 => pn_LKN dX0_admit_38 lm_X0_66 rfl (ct_X10_hasBit Γ l1 l3 σ r9 h9) (by decide) rfl rfl (Nat.le_of_ble_eq_true rfl)) rfl (fun x3 => ?_)
      refine pn_if_eq (tgt := 66) dX0_admit_41 rfl rfl (fun c4 => ?_) (fun c4 => ?_)
      · refine pn_iinc (ls' := [.ref 37, .int l1, .int l2, .int (l3 + (1 : Int32))]) dX0_admit_66 rfl (Nat.le_of_ble_eq_true rfl) rfl (congrArg (fun z => l3 + z) ic_1) rfl ?_
        refine pn_goto (pc' := 30) dX0_admit_69 rfl ?_
        exact ih l1 l2 (l3 + (1 : Int32)) σ
      · refine pn_aload_n dX0_admit_44 rfl rfl rfl ?_
        refine pn_geta dX0_admit_45 rfl lf_X0_18_0 qt_37 qk_37 qr_37_2 qt_40 ?_
        refine pn_iload_n dX0_admit_48 rfl rfl rfl ?_
        refine pn_iload_n dX0_admit_49 rfl rfl rfl ?_
        refine pn_iast dX0_admit_50 rfl qt_40 qk_40 ql_40 ?_
        refine pn_aload_n dX0_admit_51 rfl rfl rfl ?_
        refine pn_dupa dX0_admit_52 rfl ?_
        refine pn_geti dX0_admit_53 rfl lf_X0_31_0 qt_37 qk_37 qr_37_6 ?_
        refine pn_aload_n dX0_admit_56 rfl rfl rfl ?_
        refine pn_geta dX0_admit_57 rfl lf_X0_15_0 qt_37 qk_37 qr_37_1 qt_39 ?_
        refine pn_iload_n dX0_admit_60 rfl rfl rfl ?_
        refine pn_iald dX0_admit_61 rfl qt_39 qk_39 ql_39 ?_
        refine pn_iadd dX0_admit_62 rfl ?_
        refine pn_puti dX0_admit_63 rfl lf_X0_31_0 (fpi_0_6 (((pn_up σ 40 (Int32.toNatClampNeg l3) l2) 37 6) + ((pn_up σ 40 (Int32.toNatClampNeg l3) l2) 39 (Int32.toNatClampNeg l3)))) qt_37 qk_37 qr_37_6 ?_
        refine pn_iinc (ls' := [.ref 37, .int l1, .int l2, .int (l3 + (1 : Int32))]) dX0_admit_66 rfl (Nat.le_of_ble_eq_true rfl) rfl (congrArg (fun z => l3 + z) ic_1) rfl ?_
        refine pn_goto (pc' := 30) dX0_admit_69 rfl ?_
        exact ih l1 l2 (l3 + (1 : Int32)) (pn_up (pn_up σ 40 (Int32.toNatClampNeg l3) l2) 37 6 (((pn_up σ 40 (Int32.toNatClampNeg l3) l2) 37 6) + ((pn_up σ 40 (Int32.toNatClampNeg l3) l2) 39 (Int32.toNatClampNeg l3))))

set_option maxRecDepth 20000 in
set_option maxHeartbeats 4000000 in
theorem ct_X0_admit (Γ : pn_G) (a1 : Int32) (a2 : Int32) (σ : pn_S) : ∀ r, fX0_admit a1 a2 σ = some r → pn_C Γ 2 mX0_admit [.ref 37, .int a1, .int a2] σ (pn_v r) := by
  refine pn_of (ls := [.ref 37, .int a1, .int a2, .null]) (by decide) rfl (pn_cat rfl) rfl (Nat.le_of_ble_eq_true rfl) ?_
  rw [fX0_admit]
  refine pn_aload_n dX0_admit_0 rfl rfl rfl ?_
  refine pn_iload_n dX0_admit_1 rfl rfl rfl ?_
  refine pn_puti dX0_admit_2 rfl lf_X0_34_0 (fpi_0_7 a2) qt_37 qk_37 qr_37_7 ?_
  refine pn_aload_n dX0_admit_5 rfl rfl rfl ?_
  refine pn_dupa dX0_admit_6 rfl ?_
  refine pn_geti dX0_admit_7 rfl lf_X0_25_0 qt_37 qk_37 qr_37_4 ?_
  refine pn_iload_n dX0_admit_10 rfl rfl rfl ?_
  refine pn_ior dX0_admit_11 rfl ?_
  refine pn_puti dX0_admit_12 rfl lf_X0_25_0 (fpi_0_4 (((pn_up σ 37 7 a2) 37 4) ||| a1)) qt_37 qk_37 qr_37_4 ?_
  refine pn_aload_n dX0_admit_15 rfl rfl rfl ?_
  refine pn_dupa dX0_admit_16 rfl ?_
  refine pn_geti dX0_admit_17 rfl lf_X0_28_0 qt_37 qk_37 qr_37_5 ?_
  refine pn_iload_n dX0_admit_20 rfl rfl rfl ?_
  refine pn_cp (fun r9 h9 => pn_LKS dX0_admit_21 lm_X0_70 (ct_J6_bitCount_0f7a4 Γ a1 (pn_up (pn_up σ 37 7 a2) 37 4 (((pn_up σ 37 7 a2) 37 4) ||| a1)) r9 h9) (by decide) rfl rfl (Nat.le_of_ble_eq_true rfl)) rfl (fun x1 => ?_)
  refine pn_iadd dX0_admit_24 rfl ?_
  refine pn_puti dX0_admit_25 rfl lf_X0_28_0 (fpi_0_5 (((pn_up (pn_up σ 37 7 a2) 37 4 (((pn_up σ 37 7 a2) 37 4) ||| a1)) 37 5) + x1)) qt_37 qk_37 qr_37_5 ?_
  refine pn_iconst dX0_admit_28 rfl ic_0 ?_
  refine pn_istore_n (ls' := [.ref 37, .int a1, .int a2, .int (0 : Int32)]) dX0_admit_29 rfl rfl (Nat.le_of_ble_eq_true rfl) rfl ?_
  exact wX0_admit_30 Γ 5000 a1 a2 (0 : Int32) (pn_up (pn_up (pn_up σ 37 7 a2) 37 4 (((pn_up σ 37 7 a2) 37 4) ||| a1)) 37 5 (((pn_up (pn_up σ 37 7 a2) 37 4 (((pn_up σ 37 7 a2) 37 4) ||| a1)) 37 5) + x1))

set_option maxRecDepth 20000 in
set_option maxHeartbeats 4000000 in
theorem wX0_willing_4 (Γ : pn_G)  (σ : pn_S) : ∀ (n9 : Nat) (l1 : Int32) (l2 : Int32) (l3 : Int32), pn_W9 Γ 2 mX0_willing (pn_p σ) 4 [.ref 37, .int l1, .int l2, .int l3] [] σ (fX0_willing_4 n9 l1 l2 l3 σ) := by
  intro n9
  induction n9 with
  | zero => intro l1 l2 l3; exact pn_none
  | succ n9 ih =>
    intro l1 l2 l3
    rw [fX0_willing_4]
    refine pn_iload_n dX0_willing_4 rfl rfl rfl ?_
    refine pn_bipush dX0_willing_5 rfl bc_8 ?_
    refine pn_icmp_ge (tgt := 43) dX0_willing_7 rfl rfl (fun c1 => ?_) (fun c1 => ?_)
    · refine pn_iload_n dX0_willing_43 rfl rfl rfl ?_
      exact pn_iretv dX0_willing_44 rfl rfl rfl
    · refine pn_iload_n dX0_willing_10 rfl rfl rfl ?_
      refine pn_iload_n dX0_willing_11 rfl rfl rfl ?_
      refine pn_cp (fun r9 h9 => pn_LKN dX0_willing_12 lm_X0_66 rfl (ct_X10_hasBit Γ l1 l3 σ r9 h9) (by decide) rfl rfl (Nat.le_of_ble_eq_true rfl)) rfl (fun x2 => ?_)
      refine pn_if_eq (tgt := 37) dX0_willing_15 rfl rfl (fun c3 => ?_) (fun c3 => ?_)
      · refine pn_iinc (ls' := [.ref 37, .int l1, .int l2, .int (l3 + (1 : Int32))]) dX0_willing_37 rfl (Nat.le_of_ble_eq_true rfl) rfl (congrArg (fun z => l3 + z) ic_1) rfl ?_
        refine pn_goto (pc' := 4) dX0_willing_40 rfl ?_
        exact ih l1 l2 (l3 + (1 : Int32))
      · refine pn_aload_n dX0_willing_18 rfl rfl rfl ?_
        refine pn_geta dX0_willing_19 rfl lf_X0_9_0 qt_37 qk_37 qr_37_0 qt_38 ?_
        refine pn_iload_n dX0_willing_22 rfl rfl rfl ?_
        refine pn_iald dX0_willing_23 rfl qt_38 qk_38 ql_38 ?_
        refine pn_aload_n dX0_willing_24 rfl rfl rfl ?_
        refine pn_geti dX0_willing_25 rfl lf_X0_28_0 qt_37 qk_37 qr_37_5 ?_
        refine pn_icmp_gt (tgt := 37) dX0_willing_28 rfl rfl (fun c4 => ?_) (fun c4 => ?_)
        · refine pn_iinc (ls' := [.ref 37, .int l1, .int l2, .int (l3 + (1 : Int32))]) dX0_willing_37 rfl (Nat.le_of_ble_eq_true rfl) rfl (congrArg (fun z => l3 + z) ic_1) rfl ?_
          refine pn_goto (pc' := 4) dX0_willing_40 rfl ?_
          exact ih l1 l2 (l3 + (1 : Int32))
        · refine pn_iload_n dX0_willing_31 rfl rfl rfl ?_
          refine pn_iconst dX0_willing_32 rfl ic_1 ?_
          refine pn_iload_n dX0_willing_33 rfl rfl rfl ?_
          refine pn_ishl dX0_willing_34 rfl ?_
          refine pn_ior dX0_willing_35 rfl ?_
          refine pn_istore_n (ls' := [.ref 37, .int l1, .int (l2 ||| ((1 : Int32) <<< (l3 &&& 31))), .int l3]) dX0_willing_36 rfl rfl (Nat.le_of_ble_eq_true rfl) rfl ?_
          refine pn_iinc (ls' := [.ref 37, .int l1, .int (l2 ||| ((1 : Int32) <<< (l3 &&& 31))), .int (l3 + (1 : Int32))]) dX0_willing_37 rfl (Nat.le_of_ble_eq_true rfl) rfl (congrArg (fun z => l3 + z) ic_1) rfl ?_
          refine pn_goto (pc' := 4) dX0_willing_40 rfl ?_
          exact ih l1 (l2 ||| ((1 : Int32) <<< (l3 &&& 31))) (l3 + (1 : Int32))

set_option maxRecDepth 20000 in
set_option maxHeartbeats 4000000 in
theorem ct_X0_willing (Γ : pn_G) (a1 : Int32) (σ : pn_S) : ∀ r, fX0_willing a1 σ = some r → pn_C Γ 2 mX0_willing [.ref 37, .int a1] σ ((pn_p σ) r) := by
  refine pn_of (ls := [.ref 37, .int a1, .null, .null]) (by decide) rfl (pn_cat rfl) rfl (Nat.le_of_ble_eq_true rfl) ?_
  rw [fX0_willing]
  refine pn_iconst dX0_willing_0 rfl ic_0 ?_
  refine pn_istore_n (ls' := [.ref 37, .int a1, .int (0 : Int32), .null]) dX0_willing_1 rfl rfl (Nat.le_of_ble_eq_true rfl) rfl ?_
  refine pn_iconst dX0_willing_2 rfl ic_0 ?_
  refine pn_istore_n (ls' := [.ref 37, .int a1, .int (0 : Int32), .int (0 : Int32)]) dX0_willing_3 rfl rfl (Nat.le_of_ble_eq_true rfl) rfl ?_
  exact wX0_willing_4 Γ σ 5000 a1 (0 : Int32) (0 : Int32)

set_option maxRecDepth 20000 in
set_option maxHeartbeats 4000000 in
theorem wX0_gather_43 (Γ : pn_G)  : ∀ (n9 : Nat) (l3 : Int32) (l4 : Int32) (σ : pn_S), pn_W9 Γ 3 mX0_gather pn_v 43 [.ref 37, .null, .null, .int l3, .int l4, .null] [] σ (fX0_gather_43 n9 l3 l4 σ) := by
  intro n9
  induction n9 with
  | zero => intro l3 l4 σ; exact pn_none
  | succ n9 ih =>
    intro l3 l4 σ
    rw [fX0_gather_43]
    refine pn_iload dX0_gather_43 rfl rfl ?_
    refine pn_bipush dX0_gather_45 rfl bc_8 ?_
    refine pn_icmp_gt (tgt := 84) dX0_gather_47 rfl rfl (fun c3 => ?_) (fun c3 => ?_)
    · exact pn_vretv dX0_gather_84 rfl rfl
    · refine pn_aload_n dX0_gather_50 rfl rfl rfl ?_
      refine pn_iload_n dX0_gather_51 rfl rfl rfl ?_
      refine pn_aload_n dX0_gather_52 rfl rfl rfl ?_
      refine pn_geti dX0_gather_53 rfl lf_X0_25_0 qt_37 qk_37 qr_37_4 ?_
      refine pn_iconst dX0_gather_56 rfl ic_m1 ?_
      refine pn_ixor dX0_gather_57 rfl ?_
      refine pn_iand dX0_gather_58 rfl ?_
      refine pn_cp (fun r9 h9 => pn_LKV dX0_gather_59 lm_X0_62 (ct_X0_willing Γ (l3 &&& ((σ 37 4) ^^^ (-1 : Int32))) σ r9 h9) (by decide) qt_37 qk_37 rfl rfl (Nat.le_of_ble_eq_true rfl)) rfl (fun x4 => ?_)
      refine pn_istore (ls' := [.ref 37, .null, .null, .int l3, .int l4, .int x4]) dX0_gather_62 rfl (Nat.le_of_ble_eq_true rfl) rfl ?_
      refine pn_iload dX0_gather_64 rfl rfl ?_
      refine pn_if_ne (tgt := 70) dX0_gather_66 rfl rfl (fun c5 => ?_) (fun c5 => ?_)
      · exact pn_vretv dX0_gather_69 rfl rfl
      · refine pn_aload_n dX0_gather_70 rfl rfl rfl ?_
        refine pn_iload dX0_gather_71 rfl rfl ?_
        refine pn_iload dX0_gather_73 rfl rfl ?_
        refine pn_cv (fun r9 h9 => pn_LKV dX0_gather_75 lm_X0_58 (ct_X0_admit Γ x4 l4 σ r9 h9) (by decide) qt_37 qk_37 rfl rfl (Nat.le_of_ble_eq_true rfl)) rfl (fun σ6 => ?_)
        refine pn_iinc (ls' := [.ref 37, .null, .null, .int l3, .int (l4 + (1 : Int32)), .int x4]) dX0_gather_78 rfl (Nat.le_of_ble_eq_true rfl) rfl (congrArg (fun z => l4 + z) ic_1) rfl ?_
        refine pn_goto (pc' := 43) dX0_gather_81 rfl ?_
        exact pn_wk (pn_leC rfl (pn_leN (pn_leN (pn_leC rfl (pn_leC rfl (pn_leN pn_le0)))))) (ih l3 (l4 + (1 : Int32)) σ6)

set_option maxRecDepth 20000 in
set_option maxHeartbeats 4000000 in
theorem wX0_gather_32 (Γ : pn_G)  (l1 : Int32) (l3 : Int32) (σ : pn_S) : pn_W9 Γ 3 mX0_gather pn_v 32 [.ref 37, .int l1, .null, .int l3, .null, .null] [] σ (fX0_gather_32 l1 l3 σ) := by
  rw [fX0_gather_32]
  refine pn_aload_n dX0_gather_32 rfl rfl rfl ?_
  refine pn_iload_n dX0_gather_33 rfl rfl rfl ?_
  refine pn_iload_n dX0_gather_34 rfl rfl rfl ?_
  refine pn_iand dX0_gather_35 rfl ?_
  refine pn_iconst dX0_gather_36 rfl ic_0 ?_
  refine pn_cv (fun r9 h9 => pn_LKV dX0_gather_37 lm_X0_58 (ct_X0_admit Γ (l1 &&& l3) (0 : Int32) σ r9 h9) (by decide) qt_37 qk_37 rfl rfl (Nat.le_of_ble_eq_true rfl)) rfl (fun σ2 => ?_)
  refine pn_iconst dX0_gather_40 rfl ic_1 ?_
  refine pn_istore (ls' := [.ref 37, .int l1, .null, .int l3, .int (1 : Int32), .null]) dX0_gather_41 rfl (Nat.le_of_ble_eq_true rfl) rfl ?_
  exact pn_wk (pn_leC rfl (pn_leN (pn_leN (pn_leC rfl (pn_leC rfl (pn_leN pn_le0)))))) (wX0_gather_43 Γ 5000 l3 (1 : Int32) σ2)

set_option maxRecDepth 20000 in
set_option maxHeartbeats 4000000 in
theorem ct_X0_gather (Γ : pn_G) (a1 : Int32) (a2 : Int32) (σ : pn_S) : ∀ r, fX0_gather a1 a2 σ = some r → pn_C Γ 3 mX0_gather [.ref 37, .int a1, .int a2] σ (pn_v r) := by
  refine pn_of (ls := [.ref 37, .int a1, .int a2, .null, .null, .null]) (by decide) rfl (pn_cat rfl) rfl (Nat.le_of_ble_eq_true rfl) ?_
  rw [fX0_gather]
  refine pn_aload_n dX0_gather_0 rfl rfl rfl ?_
  refine pn_geta dX0_gather_1 rfl lf_X0_18_0 qt_37 qk_37 qr_37_2 qt_40 ?_
  refine pn_iconst dX0_gather_4 rfl ic_m1 ?_
  refine pn_cv (fun r9 h9 => pn_LKS dX0_gather_5 lm_X0_52 (ct_J7_fill_53178 Γ 40 8 ⟨qt_40, qk_40, ql_40⟩ (-1 : Int32) σ r9 h9) (by decide) rfl rfl (Nat.le_of_ble_eq_true rfl)) rfl (fun σ1 => ?_)
  refine pn_aload_n dX0_gather_8 rfl rfl rfl ?_
  refine pn_iconst dX0_gather_9 rfl ic_0 ?_
  refine pn_puti dX0_gather_10 rfl lf_X0_25_0 (fpi_0_4 (0 : Int32)) qt_37 qk_37 qr_37_4 ?_
  refine pn_aload_n dX0_gather_13 rfl rfl rfl ?_
  refine pn_iconst dX0_gather_14 rfl ic_0 ?_
  refine pn_puti dX0_gather_15 rfl lf_X0_28_0 (fpi_0_5 (0 : Int32)) qt_37 qk_37 qr_37_5 ?_
  refine pn_aload_n dX0_gather_18 rfl rfl rfl ?_
  refine pn_iconst dX0_gather_19 rfl ic_0 ?_
  refine pn_puti dX0_gather_20 rfl lf_X0_31_0 (fpi_0_6 (0 : Int32)) qt_37 qk_37 qr_37_6 ?_
  refine pn_aload_n dX0_gather_23 rfl rfl rfl ?_
  refine pn_geti dX0_gather_24 rfl lf_X0_21_0 qt_37 qk_37 qr_37_3 ?_
  refine pn_iload_n dX0_gather_27 rfl rfl rfl ?_
  refine pn_iconst dX0_gather_28 rfl ic_m1 ?_
  refine pn_ixor dX0_gather_29 rfl ?_
  refine pn_iand dX0_gather_30 rfl ?_
  refine pn_istore_n (ls' := [.ref 37, .int a1, .int a2, .int (((pn_up (pn_up (pn_up σ1 37 4 (0 : Int32)) 37 5 (0 : Int32)) 37 6 (0 : Int32)) 37 3) &&& (a2 ^^^ (-1 : Int32))), .null, .null]) dX0_gather_31 rfl rfl (Nat.le_of_ble_eq_true rfl) rfl ?_
  exact pn_wk (pn_leC rfl (pn_leC rfl (pn_leN (pn_leC rfl (pn_leN (pn_leN pn_le0)))))) (wX0_gather_32 Γ a1 (((pn_up (pn_up (pn_up σ1 37 4 (0 : Int32)) 37 5 (0 : Int32)) 37 6 (0 : Int32)) 37 3) &&& (a2 ^^^ (-1 : Int32))) (pn_up (pn_up (pn_up σ1 37 4 (0 : Int32)) 37 5 (0 : Int32)) 37 6 (0 : Int32)))

set_option maxRecDepth 20000 in
set_option maxHeartbeats 4000000 in
theorem ct_X10_summonTo (Γ : pn_G) (a1 : Int32) (σ : pn_S) : ∀ r, fX10_summonTo a1 σ = some r → pn_C Γ 5 mX10_summonTo [.ref 0, .int a1] σ (pn_v r) := by
  refine pn_of (ls := [.ref 0, .int a1]) (by decide) rfl (pn_cat rfl) rfl (Nat.le_of_ble_eq_true rfl) ?_
  rw [fX10_summonTo]
  refine pn_aload_n dX10_summonTo_0 rfl rfl rfl ?_
  refine pn_geta dX10_summonTo_1 rfl lf_X10_63_9 qt_0 qk_0 qr_0_9 qt_37 ?_
  refine pn_aload_n dX10_summonTo_4 rfl rfl rfl ?_
  refine pn_geta dX10_summonTo_5 rfl lf_X10_19_9 qt_0 qk_0 qr_0_1 qt_5 ?_
  refine pn_aload_n dX10_summonTo_8 rfl rfl rfl ?_
  refine pn_geta dX10_summonTo_9 rfl lf_X10_32_9 qt_0 qk_0 qr_0_4 qt_14 ?_
  refine pn_iload_n dX10_summonTo_12 rfl rfl rfl ?_
  refine pn_cv (fun r9 h9 => pn_LKV dX10_summonTo_13 lm_X10_225 (ct_X0_invite Γ 5 qv_5 14 qw_14 a1 σ r9 h9) (by decide) qt_37 qk_37 rfl rfl (Nat.le_of_ble_eq_true rfl)) rfl (fun σ1 => ?_)
  refine pn_aload_n dX10_summonTo_16 rfl rfl rfl ?_
  refine pn_geta dX10_summonTo_17 rfl lf_X10_63_9 qt_0 qk_0 qr_0_9 qt_37 ?_
  refine pn_aload_n dX10_summonTo_20 rfl rfl rfl ?_
  refine pn_geta dX10_summonTo_21 rfl lf_X10_19_9 qt_0 qk_0 qr_0_1 qt_5 ?_
  refine pn_cp (fun r9 h9 => pn_LKV dX10_summonTo_24 lm_X10_247 (ct_X8_beginners Γ 5 qv_5 σ1 r9 h9) (by decide) qt_5 qk_5 rfl rfl (Nat.le_of_ble_eq_true rfl)) rfl (fun x2 => ?_)
  refine pn_iconst dX10_summonTo_27 rfl ic_0 ?_
  refine pn_cv (fun r9 h9 => pn_LKV dX10_summonTo_28 lm_X10_352 (ct_X0_gather Γ x2 (0 : Int32) σ1 r9 h9) (by decide) qt_37 qk_37 rfl rfl (Nat.le_of_ble_eq_true rfl)) rfl (fun σ3 => ?_)
  exact pn_vretv dX10_summonTo_31 rfl rfl

set_option maxRecDepth 20000 in
set_option maxHeartbeats 4000000 in
theorem ct_X10_priceOf (Γ : pn_G)  (σ : pn_S) : ∀ r, fX10_priceOf  σ = some r → pn_C Γ 1 mX10_priceOf [.ref 0] σ ((pn_p σ) r) := by
  refine pn_of (ls := [.ref 0]) (by decide) rfl (pn_cat rfl) rfl (Nat.le_of_ble_eq_true rfl) ?_
  rw [fX10_priceOf]
  refine pn_aload_n dX10_priceOf_0 rfl rfl rfl ?_
  refine pn_geta dX10_priceOf_1 rfl lf_X10_19_9 qt_0 qk_0 qr_0_1 qt_5 ?_
  refine pn_geti dX10_priceOf_4 rfl lf_X10_259_7 qt_5 qk_5 qr_5_11 ?_
  refine pn_aload_n dX10_priceOf_7 rfl rfl rfl ?_
  refine pn_geta dX10_priceOf_8 rfl lf_X10_63_9 qt_0 qk_0 qr_0_9 qt_37 ?_
  refine pn_geti dX10_priceOf_11 rfl lf_X10_256_0 qt_37 qk_37 qr_37_5 ?_
  refine pn_imul dX10_priceOf_14 rfl ?_
  exact pn_iretv dX10_priceOf_15 rfl rfl rfl

set_option maxRecDepth 20000 in
set_option maxHeartbeats 4000000 in
theorem ct_X8_forgive (Γ : pn_G) (v0 : Nat) (hv0 : pn_isV v0) (σ : pn_S) : ∀ r, fX8_forgive v0 σ = some r → pn_C Γ 2 mX8_forgive [.ref v0] σ (pn_v r) := by
  refine pn_of (ls := [.ref v0]) (by decide) rfl (pn_cat rfl) rfl (Nat.le_of_ble_eq_true rfl) ?_
  rw [fX8_forgive]
  refine pn_aload_n dX8_forgive_0 rfl rfl rfl ?_
  refine pn_aload_n dX8_forgive_1 rfl rfl rfl ?_
  refine pn_geti dX8_forgive_2 rfl lf_X8_25_7 hv0.1.1 hv0.1.2 (pn_RVi hv0.1.2 (by decide)) ?_
  refine pn_iconst dX8_forgive_5 rfl ic_4 ?_
  refine pn_iconst dX8_forgive_6 rfl ic_0 ?_
  refine pn_ci (fun r9 h9 => pn_LKV dX8_forgive_7 lm_X8_65 (ct_X8_tell Γ v0 hv0 (σ v0 4) (4 : Int32) (0 : Int32) σ r9 h9) (by decide) hv0.1.1 hv0.1.2 rfl rfl (Nat.le_of_ble_eq_true rfl)) rfl (fun x1 σ1 => ?_)
  refine pn_popi dX8_forgive_10 rfl ?_
  refine pn_aload_n dX8_forgive_11 rfl rfl rfl ?_
  refine pn_iconst dX8_forgive_12 rfl ic_m1 ?_
  refine pn_cv (fun r9 h9 => pn_LKV dX8_forgive_13 lm_X8_72 (ct_X8_aim Γ v0 hv0 (-1 : Int32) σ1 r9 h9) (by decide) hv0.1.1 hv0.1.2 rfl rfl (Nat.le_of_ble_eq_true rfl)) rfl (fun σ2 => ?_)
  exact pn_vretv dX8_forgive_16 rfl rfl

set_option maxRecDepth 20000 in
set_option maxHeartbeats 4000000 in
theorem wX10_buyOff_34 (Γ : pn_G) (v0 : Nat) (hv0 : pn_isV v0) : ∀ (n9 : Nat) (l2 : Int32) (σ : pn_S), pn_W9 Γ 3 mX10_buyOff pn_v 34 [.ref 0, .ref v0, .int l2] [] σ (fX10_buyOff_34 v0 n9 l2 σ) := by
  intro n9
  induction n9 with
  | zero => intro l2 σ; exact pn_none
  | succ n9 ih =>
    intro l2 σ
    rw [fX10_buyOff_34]
    refine pn_iload_n dX10_buyOff_34 rfl rfl rfl ?_
    refine pn_aload_n dX10_buyOff_35 rfl rfl rfl ?_
    refine pn_geti dX10_buyOff_36 rfl lf_X10_250_7 hv0.1.1 hv0.1.2 (pn_RVi hv0.1.2 (by decide)) ?_
    refine pn_icmp_ge (tgt := 81) dX10_buyOff_39 rfl rfl (fun c3 => ?_) (fun c3 => ?_)
    · refine pn_aload_n dX10_buyOff_81 rfl rfl rfl ?_
      refine pn_cv (fun r9 h9 => pn_LKV dX10_buyOff_82 lm_X10_392 (ct_X8_forgive Γ v0 hv0 σ r9 h9) (by decide) hv0.1.1 hv0.1.2 rfl rfl (Nat.le_of_ble_eq_true rfl)) rfl (fun σ4 => ?_)
      exact pn_vretv dX10_buyOff_85 rfl rfl
    · refine pn_aload_n dX10_buyOff_42 rfl rfl rfl ?_
      refine pn_geta dX10_buyOff_43 rfl lf_X10_63_9 qt_0 qk_0 qr_0_9 qt_37 ?_
      refine pn_geti dX10_buyOff_46 rfl lf_X10_212_0 qt_37 qk_37 qr_37_4 ?_
      refine pn_iload_n dX10_buyOff_49 rfl rfl rfl ?_
      refine pn_cp (fun r9 h9 => pn_LKS dX10_buyOff_50 lm_X10_253 (ct_X10_hasBit Γ (σ 37 4) l2 σ r9 h9) (by decide) rfl rfl (Nat.le_of_ble_eq_true rfl)) rfl (fun x5 => ?_)
      refine pn_if_eq (tgt := 75) dX10_buyOff_53 rfl rfl (fun c6 => ?_) (fun c6 => ?_)
      · refine pn_iinc (ls' := [.ref 0, .ref v0, .int (l2 + (1 : Int32))]) dX10_buyOff_75 rfl (Nat.le_of_ble_eq_true rfl) rfl (congrArg (fun z => l2 + z) ic_1) rfl ?_
        refine pn_goto (pc' := 34) dX10_buyOff_78 rfl ?_
        exact ih (l2 + (1 : Int32)) σ
      · refine pn_aload_n dX10_buyOff_56 rfl rfl rfl ?_
        refine pn_iload_n dX10_buyOff_57 rfl rfl rfl ?_
        refine pn_iconst dX10_buyOff_58 rfl ic_1 ?_
        refine pn_iconst dX10_buyOff_59 rfl ic_0 ?_
        refine pn_aload_n dX10_buyOff_60 rfl rfl rfl ?_
        refine pn_iload_n dX10_buyOff_61 rfl rfl rfl ?_
        refine pn_iconst dX10_buyOff_62 rfl ic_1 ?_
        refine pn_cp (fun r9 h9 => pn_LKV dX10_buyOff_63 lm_X10_155 (ct_X8_of Γ v0 hv0 l2 (1 : Int32) σ r9 h9) (by decide) hv0.1.1 hv0.1.2 rfl rfl (Nat.le_of_ble_eq_true rfl)) rfl (fun x7 => ?_)
        refine pn_iconst dX10_buyOff_66 rfl ic_1 ?_
        refine pn_isub dX10_buyOff_67 rfl ?_
        refine pn_cp (fun r9 h9 => pn_LKS dX10_buyOff_68 lm_X10_314 (ct_J9_max_7cf53 Γ (0 : Int32) (x7 - (1 : Int32)) σ r9 h9) (by decide) rfl rfl (Nat.le_of_ble_eq_true rfl)) rfl (fun x8 => ?_)
        refine pn_ci (fun r9 h9 => pn_LKV dX10_buyOff_71 lm_X10_185 (ct_X8_tell Γ v0 hv0 l2 (1 : Int32) x8 σ r9 h9) (by decide) hv0.1.1 hv0.1.2 rfl rfl (Nat.le_of_ble_eq_true rfl)) rfl (fun x9 σ9 => ?_)
        refine pn_popi dX10_buyOff_74 rfl ?_
        refine pn_iinc (ls' := [.ref 0, .ref v0, .int (l2 + (1 : Int32))]) dX10_buyOff_75 rfl (Nat.le_of_ble_eq_true rfl) rfl (congrArg (fun z => l2 + z) ic_1) rfl ?_
        refine pn_goto (pc' := 34) dX10_buyOff_78 rfl ?_
        exact ih (l2 + (1 : Int32)) σ9

set_option maxRecDepth 20000 in
set_option maxHeartbeats 4000000 in
theorem ct_X10_buyOff (Γ : pn_G) (v0 : Nat) (hv0 : pn_isV v0) (σ : pn_S) : ∀ r, fX10_buyOff v0 σ = some r → pn_C Γ 3 mX10_buyOff [.ref 0, .ref v0] σ (pn_v r) := by
  refine pn_of (ls := [.ref 0, .ref v0, .null]) (by decide) rfl (pn_cat rfl) rfl (Nat.le_of_ble_eq_true rfl) ?_
  rw [fX10_buyOff]
  refine pn_aload_n dX10_buyOff_0 rfl rfl rfl ?_
  refine pn_aload_n dX10_buyOff_1 rfl rfl rfl ?_
  refine pn_geti dX10_buyOff_2 rfl lf_X10_179_7 hv0.1.1 hv0.1.2 (pn_RVi hv0.1.2 (by decide)) ?_
  refine pn_iconst dX10_buyOff_5 rfl ic_3 ?_
  refine pn_aload_n dX10_buyOff_6 rfl rfl rfl ?_
  refine pn_aload_n dX10_buyOff_7 rfl rfl rfl ?_
  refine pn_geti dX10_buyOff_8 rfl lf_X10_179_7 hv0.1.1 hv0.1.2 (pn_RVi hv0.1.2 (by decide)) ?_
  refine pn_iconst dX10_buyOff_11 rfl ic_3 ?_
  refine pn_cp (fun r9 h9 => pn_LKV dX10_buyOff_12 lm_X10_155 (ct_X8_of Γ v0 hv0 (σ v0 4) (3 : Int32) σ r9 h9) (by decide) hv0.1.1 hv0.1.2 rfl rfl (Nat.le_of_ble_eq_true rfl)) rfl (fun x1 => ?_)
  refine pn_aload_n dX10_buyOff_15 rfl rfl rfl ?_
  refine pn_geti dX10_buyOff_16 rfl lf_X10_259_7 hv0.1.1 hv0.1.2 (pn_RVi hv0.1.2 (by decide)) ?_
  refine pn_aload_n dX10_buyOff_19 rfl rfl rfl ?_
  refine pn_geta dX10_buyOff_20 rfl lf_X10_63_9 qt_0 qk_0 qr_0_9 qt_37 ?_
  refine pn_geti dX10_buyOff_23 rfl lf_X10_256_0 qt_37 qk_37 qr_37_5 ?_
  refine pn_imul dX10_buyOff_26 rfl ?_
  refine pn_isub dX10_buyOff_27 rfl ?_
  refine pn_ci (fun r9 h9 => pn_LKV dX10_buyOff_28 lm_X10_185 (ct_X8_tell Γ v0 hv0 (σ v0 4) (3 : Int32) (x1 - ((σ v0 11) * (σ 37 5))) σ r9 h9) (by decide) hv0.1.1 hv0.1.2 rfl rfl (Nat.le_of_ble_eq_true rfl)) rfl (fun x2 σ2 => ?_)
  refine pn_popi dX10_buyOff_31 rfl ?_
  refine pn_iconst dX10_buyOff_32 rfl ic_0 ?_
  refine pn_istore_n (ls' := [.ref 0, .ref v0, .int (0 : Int32)]) dX10_buyOff_33 rfl rfl (Nat.le_of_ble_eq_true rfl) rfl ?_
  exact wX10_buyOff_34 Γ v0 hv0 5000 (0 : Int32) σ2

set_option maxRecDepth 20000 in
set_option maxHeartbeats 4000000 in
theorem ct_X10_buy (Γ : pn_G)  (σ : pn_S) : ∀ r, fX10_buy  σ = some r → pn_C Γ 6 mX10_buy [.ref 0] σ (pn_xi r) := by
  refine pn_of (ls := [.ref 0, .null]) (by decide) rfl (pn_cat rfl) rfl (Nat.le_of_ble_eq_true rfl) ?_
  rw [fX10_buy]
  refine pn_aload_n dX10_buy_0 rfl rfl rfl ?_
  refine pn_geta dX10_buy_1 rfl lf_X10_19_9 qt_0 qk_0 qr_0_1 qt_5 ?_
  refine pn_geti dX10_buy_4 rfl lf_X10_179_7 qt_5 qk_5 qr_5_4 ?_
  refine pn_istore_n (ls' := [.ref 0, .int (σ 5 4)]) dX10_buy_7 rfl rfl (Nat.le_of_ble_eq_true rfl) rfl ?_
  refine pn_iload_n dX10_buy_8 rfl rfl rfl ?_
  refine pn_iconst dX10_buy_9 rfl ic_m1 ?_
  refine pn_icmp_ne (tgt := 21) dX10_buy_10 rfl rfl (fun c1 => ?_) (fun c1 => ?_)
  · exact pn_throw (fun _ _ => rfl) rfl th_X10_173 dX10_buy_13 dX10_buy_16 dX10_buy_17 dX10_buy_20
  · refine pn_aload_n dX10_buy_21 rfl rfl rfl ?_
    refine pn_iload_n dX10_buy_22 rfl rfl rfl ?_
    refine pn_cv (fun r9 h9 => pn_LKV dX10_buy_23 lm_X10_189 (ct_X10_summonTo Γ (σ 5 4) σ r9 h9) (by decide) qt_0 qk_0 rfl rfl (Nat.le_of_ble_eq_true rfl)) rfl (fun σ2 => ?_)
    refine pn_aload_n dX10_buy_26 rfl rfl rfl ?_
    refine pn_geta dX10_buy_27 rfl lf_X10_19_9 qt_0 qk_0 qr_0_1 qt_5 ?_
    refine pn_iload_n dX10_buy_30 rfl rfl rfl ?_
    refine pn_iconst dX10_buy_31 rfl ic_3 ?_
    refine pn_cp (fun r9 h9 => pn_LKV dX10_buy_32 lm_X10_155 (ct_X8_of Γ 5 qv_5 (σ 5 4) (3 : Int32) σ2 r9 h9) (by decide) qt_5 qk_5 rfl rfl (Nat.le_of_ble_eq_true rfl)) rfl (fun x3 => ?_)
    refine pn_aload_n dX10_buy_35 rfl rfl rfl ?_
    refine pn_cp (fun r9 h9 => pn_LKV dX10_buy_36 lm_X10_192 (ct_X10_priceOf Γ σ2 r9 h9) (by decide) qt_0 qk_0 rfl rfl (Nat.le_of_ble_eq_true rfl)) rfl (fun x4 => ?_)
    refine pn_icmp_ge (tgt := 50) dX10_buy_39 rfl rfl (fun c5 => ?_) (fun c5 => ?_)
    · refine pn_aload_n dX10_buy_50 rfl rfl rfl ?_
      refine pn_geta dX10_buy_51 rfl lf_X10_70_9 qt_0 qk_0 qr_0_10 qt_41 ?_
      refine pn_aload_n dX10_buy_54 rfl rfl rfl ?_
      refine pn_geta dX10_buy_55 rfl lf_X10_19_9 qt_0 qk_0 qr_0_1 qt_5 ?_
      refine pn_cv (fun r9 h9 => pn_LKV dX10_buy_58 lm_X10_176 (ct_X5_remember Γ 5 qv_5 σ2 r9 h9) (by decide) qt_41 qk_41 rfl rfl (Nat.le_of_ble_eq_true rfl)) rfl (fun σ6 => ?_)
      refine pn_aload_n dX10_buy_61 rfl rfl rfl ?_
      refine pn_aload_n dX10_buy_62 rfl rfl rfl ?_
      refine pn_geta dX10_buy_63 rfl lf_X10_19_9 qt_0 qk_0 qr_0_1 qt_5 ?_
      refine pn_cv (fun r9 h9 => pn_LKV dX10_buy_66 lm_X10_196 (ct_X10_buyOff Γ 5 qv_5 σ6 r9 h9) (by decide) qt_0 qk_0 rfl rfl (Nat.le_of_ble_eq_true rfl)) rfl (fun σ7 => ?_)
      refine pn_aload_n dX10_buy_69 rfl rfl rfl ?_
      refine pn_geta dX10_buy_70 rfl lf_X10_19_9 qt_0 qk_0 qr_0_1 qt_5 ?_
      refine pn_iload_n dX10_buy_73 rfl rfl rfl ?_
      refine pn_iconst dX10_buy_74 rfl ic_3 ?_
      refine pn_cp (fun r9 h9 => pn_LKV dX10_buy_75 lm_X10_155 (ct_X8_of Γ 5 qv_5 (σ 5 4) (3 : Int32) σ7 r9 h9) (by decide) qt_5 qk_5 rfl rfl (Nat.le_of_ble_eq_true rfl)) rfl (fun x8 => ?_)
      exact pn_iretv dX10_buy_78 rfl rfl rfl
    · exact pn_throw (fun _ _ => rfl) rfl th_X10_173 dX10_buy_42 dX10_buy_45 dX10_buy_46 dX10_buy_49

set_option maxRecDepth 20000 in
set_option maxHeartbeats 4000000 in
theorem wX10_feud_16 (Γ : pn_G)  (l1 : Int32) (l2 : Int32) (σ : pn_S) : pn_W9 Γ 4 mX10_feud pn_xi 16 [.ref 0, .int l1, .int l2] [] σ (fX10_feud_16 l1 l2 σ) := by
  rw [fX10_feud_16]
  refine pn_aload_n dX10_feud_16 rfl rfl rfl ?_
  refine pn_geta dX10_feud_17 rfl lf_X10_70_9 qt_0 qk_0 qr_0_10 qt_41 ?_
  refine pn_aload_n dX10_feud_20 rfl rfl rfl ?_
  refine pn_geta dX10_feud_21 rfl lf_X10_19_9 qt_0 qk_0 qr_0_1 qt_5 ?_
  refine pn_cv (fun r9 h9 => pn_LKV dX10_feud_24 lm_X10_176 (ct_X5_remember Γ 5 qv_5 σ r9 h9) (by decide) qt_41 qk_41 rfl rfl (Nat.le_of_ble_eq_true rfl)) rfl (fun σ3 => ?_)
  refine pn_aload_n dX10_feud_27 rfl rfl rfl ?_
  refine pn_geta dX10_feud_28 rfl lf_X10_19_9 qt_0 qk_0 qr_0_1 qt_5 ?_
  refine pn_iload_n dX10_feud_31 rfl rfl rfl ?_
  refine pn_iconst dX10_feud_32 rfl ic_5 ?_
  refine pn_iload_n dX10_feud_33 rfl rfl rfl ?_
  refine pn_ci (fun r9 h9 => pn_LKV dX10_feud_34 lm_X10_185 (ct_X8_tell Γ 5 qv_5 l1 (5 : Int32) l2 σ3 r9 h9) (by decide) qt_5 qk_5 rfl rfl (Nat.le_of_ble_eq_true rfl)) rfl (fun x4 σ4 => ?_)
  exact pn_iretv dX10_feud_37 rfl rfl rfl

set_option maxRecDepth 20000 in
set_option maxHeartbeats 4000000 in
theorem ct_X10_feud (Γ : pn_G) (a1 : Int32) (a2 : Int32) (σ : pn_S) : ∀ r, fX10_feud a1 a2 σ = some r → pn_C Γ 4 mX10_feud [.ref 0, .int a1, .int a2] σ (pn_xi r) := by
  refine pn_of (ls := [.ref 0, .int a1, .int a2]) (by decide) rfl (pn_cat rfl) rfl (Nat.le_of_ble_eq_true rfl) ?_
  rw [fX10_feud]
  refine pn_aload_n dX10_feud_0 rfl rfl rfl ?_
  refine pn_iload_n dX10_feud_1 rfl rfl rfl ?_
  refine pn_cxv (fun _ _ => rfl) rfl (fun r9 h9 => pn_LKV dX10_feud_2 lm_X10_149 (ct_X10_checkPerson Γ a1 σ r9 h9) (by decide) qt_0 qk_0 rfl rfl (Nat.le_of_ble_eq_true rfl)) rfl (fun σ1 => ?_)
  refine pn_iload_n dX10_feud_5 rfl rfl rfl ?_
  refine pn_iconst dX10_feud_6 rfl ic_m1 ?_
  refine pn_icmp_eq (tgt := 16) dX10_feud_7 rfl rfl (fun c2 => ?_) (fun c2 => ?_)
  · exact wX10_feud_16 Γ a1 a2 σ1
  · refine pn_aload_n dX10_feud_10 rfl rfl rfl ?_
    refine pn_iload_n dX10_feud_11 rfl rfl rfl ?_
    refine pn_iload_n dX10_feud_12 rfl rfl rfl ?_
    refine pn_cxv (fun _ _ => rfl) rfl (fun r9 h9 => pn_LKV dX10_feud_13 lm_X10_159 (ct_X10_checkTwo Γ a1 a2 σ1 r9 h9) (by decide) qt_0 qk_0 rfl rfl (Nat.le_of_ble_eq_true rfl)) rfl (fun σ5 => ?_)
    exact wX10_feud_16 Γ a1 a2 σ5

set_option maxRecDepth 20000 in
set_option maxHeartbeats 4000000 in
theorem wX10_checkNumber_10 (Γ : pn_G)   (σ : pn_S) : pn_W9 Γ 1 mX10_checkNumber pn_xv 10 [.null, .null, .null] [] σ (fX10_checkNumber_10  σ) := by
  rw [fX10_checkNumber_10]
  exact pn_throw (fun _ _ => rfl) rfl th_X10_127 dX10_checkNumber_10 dX10_checkNumber_13 dX10_checkNumber_14 dX10_checkNumber_17

set_option maxRecDepth 20000 in
set_option maxHeartbeats 4000000 in
theorem ct_X10_checkNumber (Γ : pn_G) (a0 : Int32) (a1 : Int32) (a2 : Int32) (σ : pn_S) : ∀ r, fX10_checkNumber a0 a1 a2 σ = some r → pn_C Γ 1 mX10_checkNumber [.int a0, .int a1, .int a2] σ (pn_xv r) := by
  refine pn_of (ls := [.int a0, .int a1, .int a2]) (by decide) rfl (pn_cat rfl) rfl (Nat.le_of_ble_eq_true rfl) ?_
  rw [fX10_checkNumber]
  refine pn_iload_n dX10_checkNumber_0 rfl rfl rfl ?_
  refine pn_iload_n dX10_checkNumber_1 rfl rfl rfl ?_
  refine pn_icmp_lt (tgt := 10) dX10_checkNumber_2 rfl rfl (fun c1 => ?_) (fun c1 => ?_)
  · exact pn_wk (pn_leN (pn_leN (pn_leN pn_le0))) (wX10_checkNumber_10 Γ σ)
  · refine pn_iload_n dX10_checkNumber_5 rfl rfl rfl ?_
    refine pn_iload_n dX10_checkNumber_6 rfl rfl rfl ?_
    refine pn_icmp_le (tgt := 18) dX10_checkNumber_7 rfl rfl (fun c2 => ?_) (fun c2 => ?_)
    · exact pn_vretv dX10_checkNumber_18 rfl rfl
    · exact pn_wk (pn_leN (pn_leN (pn_leN pn_le0))) (wX10_checkNumber_10 Γ σ)

set_option maxRecDepth 20000 in
set_option maxHeartbeats 4000000 in
theorem ct_X10_teach (Γ : pn_G) (a1 : Int32) (a2 : Int32) (σ : pn_S) : ∀ r, fX10_teach a1 a2 σ = some r → pn_C Γ 3 mX10_teach [.ref 0, .int a1, .int a2] σ (pn_xi r) := by
  refine pn_of (ls := [.ref 0, .int a1, .int a2]) (by decide) rfl (pn_cat rfl) rfl (Nat.le_of_ble_eq_true rfl) ?_
  rw [fX10_teach]
  refine pn_aload_n dX10_teach_0 rfl rfl rfl ?_
  refine pn_iload_n dX10_teach_1 rfl rfl rfl ?_
  refine pn_cxv (fun _ _ => rfl) rfl (fun r9 h9 => pn_LKV dX10_teach_2 lm_X10_149 (ct_X10_checkPerson Γ a1 σ r9 h9) (by decide) qt_0 qk_0 rfl rfl (Nat.le_of_ble_eq_true rfl)) rfl (fun σ1 => ?_)
  refine pn_iload_n dX10_teach_5 rfl rfl rfl ?_
  refine pn_iconst dX10_teach_6 rfl ic_0 ?_
  refine pn_bipush dX10_teach_7 rfl bc_8 ?_
  refine pn_cxv (fun _ _ => rfl) rfl (fun r9 h9 => pn_LKS dX10_teach_9 lm_X10_199 (ct_X10_checkNumber Γ a2 (0 : Int32) (8 : Int32) σ1 r9 h9) (by decide) rfl rfl (Nat.le_of_ble_eq_true rfl)) rfl (fun σ2 => ?_)
  refine pn_aload_n dX10_teach_12 rfl rfl rfl ?_
  refine pn_geta dX10_teach_13 rfl lf_X10_70_9 qt_0 qk_0 qr_0_10 qt_41 ?_
  refine pn_aload_n dX10_teach_16 rfl rfl rfl ?_
  refine pn_geta dX10_teach_17 rfl lf_X10_19_9 qt_0 qk_0 qr_0_1 qt_5 ?_
  refine pn_cv (fun r9 h9 => pn_LKV dX10_teach_20 lm_X10_176 (ct_X5_remember Γ 5 qv_5 σ2 r9 h9) (by decide) qt_41 qk_41 rfl rfl (Nat.le_of_ble_eq_true rfl)) rfl (fun σ3 => ?_)
  refine pn_aload_n dX10_teach_23 rfl rfl rfl ?_
  refine pn_geta dX10_teach_24 rfl lf_X10_19_9 qt_0 qk_0 qr_0_1 qt_5 ?_
  refine pn_iload_n dX10_teach_27 rfl rfl rfl ?_
  refine pn_iconst dX10_teach_28 rfl ic_0 ?_
  refine pn_iload_n dX10_teach_29 rfl rfl rfl ?_
  refine pn_ci (fun r9 h9 => pn_LKV dX10_teach_30 lm_X10_185 (ct_X8_tell Γ 5 qv_5 a1 (0 : Int32) a2 σ3 r9 h9) (by decide) qt_5 qk_5 rfl rfl (Nat.le_of_ble_eq_true rfl)) rfl (fun x4 σ4 => ?_)
  exact pn_iretv dX10_teach_33 rfl rfl rfl

set_option maxRecDepth 20000 in
set_option maxHeartbeats 4000000 in
theorem ct_X10_wrong (Γ : pn_G) (a1 : Int32) (a2 : Int32) (σ : pn_S) : ∀ r, fX10_wrong a1 a2 σ = some r → pn_C Γ 3 mX10_wrong [.ref 0, .int a1, .int a2] σ (pn_xi r) := by
  refine pn_of (ls := [.ref 0, .int a1, .int a2]) (by decide) rfl (pn_cat rfl) rfl (Nat.le_of_ble_eq_true rfl) ?_
  rw [fX10_wrong]
  refine pn_aload_n dX10_wrong_0 rfl rfl rfl ?_
  refine pn_iload_n dX10_wrong_1 rfl rfl rfl ?_
  refine pn_cxv (fun _ _ => rfl) rfl (fun r9 h9 => pn_LKV dX10_wrong_2 lm_X10_149 (ct_X10_checkPerson Γ a1 σ r9 h9) (by decide) qt_0 qk_0 rfl rfl (Nat.le_of_ble_eq_true rfl)) rfl (fun σ1 => ?_)
  refine pn_iload_n dX10_wrong_5 rfl rfl rfl ?_
  refine pn_iconst dX10_wrong_6 rfl ic_0 ?_
  refine pn_bipush dX10_wrong_7 rfl bc_9 ?_
  refine pn_cxv (fun _ _ => rfl) rfl (fun r9 h9 => pn_LKS dX10_wrong_9 lm_X10_199 (ct_X10_checkNumber Γ a2 (0 : Int32) (9 : Int32) σ1 r9 h9) (by decide) rfl rfl (Nat.le_of_ble_eq_true rfl)) rfl (fun σ2 => ?_)
  refine pn_aload_n dX10_wrong_12 rfl rfl rfl ?_
  refine pn_geta dX10_wrong_13 rfl lf_X10_70_9 qt_0 qk_0 qr_0_10 qt_41 ?_
  refine pn_aload_n dX10_wrong_16 rfl rfl rfl ?_
  refine pn_geta dX10_wrong_17 rfl lf_X10_19_9 qt_0 qk_0 qr_0_1 qt_5 ?_
  refine pn_cv (fun r9 h9 => pn_LKV dX10_wrong_20 lm_X10_176 (ct_X5_remember Γ 5 qv_5 σ2 r9 h9) (by decide) qt_41 qk_41 rfl rfl (Nat.le_of_ble_eq_true rfl)) rfl (fun σ3 => ?_)
  refine pn_aload_n dX10_wrong_23 rfl rfl rfl ?_
  refine pn_geta dX10_wrong_24 rfl lf_X10_19_9 qt_0 qk_0 qr_0_1 qt_5 ?_
  refine pn_iload_n dX10_wrong_27 rfl rfl rfl ?_
  refine pn_iconst dX10_wrong_28 rfl ic_4 ?_
  refine pn_iload_n dX10_wrong_29 rfl rfl rfl ?_
  refine pn_ci (fun r9 h9 => pn_LKV dX10_wrong_30 lm_X10_185 (ct_X8_tell Γ 5 qv_5 a1 (4 : Int32) a2 σ3 r9 h9) (by decide) qt_5 qk_5 rfl rfl (Nat.le_of_ble_eq_true rfl)) rfl (fun x4 σ4 => ?_)
  exact pn_iretv dX10_wrong_33 rfl rfl rfl

set_option maxRecDepth 20000 in
set_option maxHeartbeats 4000000 in
theorem ct_X10_give (Γ : pn_G) (a1 : Int32) (a2 : Int32) (σ : pn_S) : ∀ r, fX10_give a1 a2 σ = some r → pn_C Γ 3 mX10_give [.ref 0, .int a1, .int a2] σ (pn_xi r) := by
  refine pn_of (ls := [.ref 0, .int a1, .int a2]) (by decide) rfl (pn_cat rfl) rfl (Nat.le_of_ble_eq_true rfl) ?_
  rw [fX10_give]
  refine pn_aload_n dX10_give_0 rfl rfl rfl ?_
  refine pn_iload_n dX10_give_1 rfl rfl rfl ?_
  refine pn_cxv (fun _ _ => rfl) rfl (fun r9 h9 => pn_LKV dX10_give_2 lm_X10_149 (ct_X10_checkPerson Γ a1 σ r9 h9) (by decide) qt_0 qk_0 rfl rfl (Nat.le_of_ble_eq_true rfl)) rfl (fun σ1 => ?_)
  refine pn_iload_n dX10_give_5 rfl rfl rfl ?_
  refine pn_iconst dX10_give_6 rfl ic_1 ?_
  refine pn_sipush dX10_give_7 rfl sc_999 ?_
  refine pn_cxv (fun _ _ => rfl) rfl (fun r9 h9 => pn_LKS dX10_give_10 lm_X10_199 (ct_X10_checkNumber Γ a2 (1 : Int32) (999 : Int32) σ1 r9 h9) (by decide) rfl rfl (Nat.le_of_ble_eq_true rfl)) rfl (fun σ2 => ?_)
  refine pn_aload_n dX10_give_13 rfl rfl rfl ?_
  refine pn_geta dX10_give_14 rfl lf_X10_70_9 qt_0 qk_0 qr_0_10 qt_41 ?_
  refine pn_aload_n dX10_give_17 rfl rfl rfl ?_
  refine pn_geta dX10_give_18 rfl lf_X10_19_9 qt_0 qk_0 qr_0_1 qt_5 ?_
  refine pn_cv (fun r9 h9 => pn_LKV dX10_give_21 lm_X10_176 (ct_X5_remember Γ 5 qv_5 σ2 r9 h9) (by decide) qt_41 qk_41 rfl rfl (Nat.le_of_ble_eq_true rfl)) rfl (fun σ3 => ?_)
  refine pn_aload_n dX10_give_24 rfl rfl rfl ?_
  refine pn_geta dX10_give_25 rfl lf_X10_19_9 qt_0 qk_0 qr_0_1 qt_5 ?_
  refine pn_iload_n dX10_give_28 rfl rfl rfl ?_
  refine pn_iconst dX10_give_29 rfl ic_3 ?_
  refine pn_sipush dX10_give_30 rfl sc_9999 ?_
  refine pn_aload_n dX10_give_33 rfl rfl rfl ?_
  refine pn_geta dX10_give_34 rfl lf_X10_19_9 qt_0 qk_0 qr_0_1 qt_5 ?_
  refine pn_iload_n dX10_give_37 rfl rfl rfl ?_
  refine pn_iconst dX10_give_38 rfl ic_3 ?_
  refine pn_cp (fun r9 h9 => pn_LKV dX10_give_39 lm_X10_155 (ct_X8_of Γ 5 qv_5 a1 (3 : Int32) σ3 r9 h9) (by decide) qt_5 qk_5 rfl rfl (Nat.le_of_ble_eq_true rfl)) rfl (fun x4 => ?_)
  refine pn_iload_n dX10_give_42 rfl rfl rfl ?_
  refine pn_iadd dX10_give_43 rfl ?_
  refine pn_cp (fun r9 h9 => pn_LKS dX10_give_44 lm_X10_203 (ct_J9_min_7cf53 Γ (9999 : Int32) (x4 + a2) σ3 r9 h9) (by decide) rfl rfl (Nat.le_of_ble_eq_true rfl)) rfl (fun x5 => ?_)
  refine pn_ci (fun r9 h9 => pn_LKV dX10_give_47 lm_X10_185 (ct_X8_tell Γ 5 qv_5 a1 (3 : Int32) x5 σ3 r9 h9) (by decide) qt_5 qk_5 rfl rfl (Nat.le_of_ble_eq_true rfl)) rfl (fun x6 σ6 => ?_)
  refine pn_popi dX10_give_50 rfl ?_
  refine pn_aload_n dX10_give_51 rfl rfl rfl ?_
  refine pn_geta dX10_give_52 rfl lf_X10_19_9 qt_0 qk_0 qr_0_1 qt_5 ?_
  refine pn_iload_n dX10_give_55 rfl rfl rfl ?_
  refine pn_iconst dX10_give_56 rfl ic_3 ?_
  refine pn_cp (fun r9 h9 => pn_LKV dX10_give_57 lm_X10_155 (ct_X8_of Γ 5 qv_5 a1 (3 : Int32) σ6 r9 h9) (by decide) qt_5 qk_5 rfl rfl (Nat.le_of_ble_eq_true rfl)) rfl (fun x7 => ?_)
  exact pn_iretv dX10_give_60 rfl rfl rfl

