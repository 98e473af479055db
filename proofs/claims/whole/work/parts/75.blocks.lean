/-! PURE: a row for each case of the law's switch -/
section
variable {L : Nat} {xs : Nat → Int32} {rec23 : Int32 → pn_S → Option (Int32 × pn_S × Nat)} {l4 : Int32} {B : Nat}
theorem bv_int {B : Nat} {fc fr : pn_S → Option pn_S} {K : pn_S → Option (Int32 × pn_S × Nat)} (ag : AgV fc fr) (hK : Kont B K) {σ : pn_S} {h : Bool} {Λ : pn_La} (hI : Inv σ h Λ) : Gets (B + 1) ((fc σ).bind fun σ1 => (fr σ1).bind fun σ2 => K σ2) := by
  obtain ⟨σ1, σ2, h', Λ', e1, e2, i2⟩ := ag σ h Λ hI
  obtain ⟨σ', k, e5, e6⟩ := hK σ2 h' Λ' i2
  refine ⟨σ', k, ?_, by omega⟩
  rw [e1, Option.bind_some, e2, Option.bind_some, e5]
def Ibs (L : Nat) (l4 : Int32) : Prop := pn_ib (l4 + (1 : Int32)) L = true ∧ pn_ib (l4 + (2 : Int32)) L = true ∧ pn_ib (l4 + (3 : Int32)) L = true ∧ pn_ib (l4 + (4 : Int32)) L = true ∧ pn_ib (l4 + (5 : Int32)) L = true
theorem bk_0 (ib : Ibs L l4) (hK : Kont B (fL_law__2850 L xs rec23 l4)) {σ : pn_S} {h : Bool} {Λ : pn_La} (hI : Inv σ h Λ) : Gets (B + 1) (fL_law__260 L xs rec23 l4 σ) := by
  obtain ⟨i1, i2, i3, i4, i5⟩ := ib
  unfold fL_law__260
  simp only [i1, i2, i3, i4, i5, if_true]
  exact bi_int (ag_feed _ _ _ _ _) hK hI
theorem bk_1 (ib : Ibs L l4) (hK : Kont B (fL_law__2850 L xs rec23 l4)) {σ : pn_S} {h : Bool} {Λ : pn_La} (hI : Inv σ h Λ) : Gets (B + 1) (fL_law__333 L xs rec23 l4 σ) := by
  obtain ⟨i1, i2, i3, i4, i5⟩ := ib
  unfold fL_law__333
  simp only [i1, if_true]
  exact bi_int (ag_end _) hK hI
theorem bk_2 (ib : Ibs L l4) (hK : Kont B (fL_law__2850 L xs rec23 l4)) {σ : pn_S} {h : Bool} {Λ : pn_La} (hI : Inv σ h Λ) : Gets (B + 1) (fL_law__358 L xs rec23 l4 σ) := by
  unfold fL_law__358 fL_village
  exact bw_int ag_village hK hI
theorem bk_3 (ib : Ibs L l4) (hK : Kont B (fL_law__2850 L xs rec23 l4)) {σ : pn_S} {h : Bool} {Λ : pn_La} (hI : Inv σ h Λ) : Gets (B + 1) (fL_law__402 L xs rec23 l4 σ) := by
  unfold fL_law__402 fL_law
  exact bw_int ag_law hK hI
theorem bk_4 (ib : Ibs L l4) (hK : Kont B (fL_law__2850 L xs rec23 l4)) {σ : pn_S} {h : Bool} {Λ : pn_La} (hI : Inv σ h Λ) : Gets (B + 1) (fL_law__446 L xs rec23 l4 σ) := by
  unfold fL_law__446
  exact bp_int ag_fault hK hI
theorem bk_5 (ib : Ibs L l4) (hK : Kont B (fL_law__2850 L xs rec23 l4)) {σ : pn_S} {h : Bool} {Λ : pn_La} (hI : Inv σ h Λ) : Gets (B + 1) (fL_law__459 L xs rec23 l4 σ) := by
  obtain ⟨i1, i2, i3, i4, i5⟩ := ib
  unfold fL_law__459 fL_person
  simp only [i1, i2, if_true]
  exact bw_int (ag_person _ _) hK hI
theorem bk_6 (ib : Ibs L l4) (hK : Kont B (fL_law__2850 L xs rec23 l4)) {σ : pn_S} {h : Bool} {Λ : pn_La} (hI : Inv σ h Λ) : Gets (B + 1) (fL_law__527 L xs rec23 l4 σ) := by
  obtain ⟨i1, i2, i3, i4, i5⟩ := ib
  unfold fL_law__527 fL_law__554 fL_law__587 fL_against
  simp only [i1, i2, i3, if_true]
  by_cases q : xs (Int32.toNatClampNeg (l4 + (3 : Int32))) = 0
  · simp only [if_pos q]
    exact bw_int (ag_against _ _ _) hK hI
  · simp only [if_neg q]
    exact bw_int (ag_against _ _ _) hK hI
theorem bk_7 (ib : Ibs L l4) (hK : Kont B (fL_law__2850 L xs rec23 l4)) {σ : pn_S} {h : Bool} {Λ : pn_La} (hI : Inv σ h Λ) : Gets (B + 1) (fL_law__623 L xs rec23 l4 σ) := by
  obtain ⟨i1, i2, i3, i4, i5⟩ := ib
  unfold fL_law__623 fL_name
  simp only [i1, if_true]
  exact bw_int (ag_name _) hK hI
theorem bk_8 (ib : Ibs L l4) (hK : Kont B (fL_law__2850 L xs rec23 l4)) {σ : pn_S} {h : Bool} {Λ : pn_La} (hI : Inv σ h Λ) : Gets (B + 1) (fL_law__679 L xs rec23 l4 σ) := by
  obtain ⟨i1, i2, i3, i4, i5⟩ := ib
  unfold fL_law__679 fL_law__700 fL_law__727 fL_law__761 fL_begin
  simp only [i1, i2, if_true]
  by_cases q : xs (Int32.toNatClampNeg (l4 + (2 : Int32))) = 0
  · simp only [if_pos q]
    exact bw_bool (ag_begin _ _ (Or.inl rfl)) hK hI
  · simp only [if_neg q]
    exact bw_bool (ag_begin _ _ (Or.inr rfl)) hK hI
theorem bk_9 (ib : Ibs L l4) (hK : Kont B (fL_law__2850 L xs rec23 l4)) {σ : pn_S} {h : Bool} {Λ : pn_La} (hI : Inv σ h Λ) : Gets (B + 1) (fL_law__770 L xs rec23 l4 σ) := by
  unfold fL_law__770 fL_buy
  exact bw_int ag_buy hK hI
theorem bk_10 (ib : Ibs L l4) (hK : Kont B (fL_law__2850 L xs rec23 l4)) {σ : pn_S} {h : Bool} {Λ : pn_La} (hI : Inv σ h Λ) : Gets (B + 1) (fL_law__814 L xs rec23 l4 σ) := by
  obtain ⟨i1, i2, i3, i4, i5⟩ := ib
  unfold fL_law__814 fL_feud
  simp only [i1, i2, if_true]
  exact bw_int (ag_feud _ _) hK hI
theorem bk_11 (ib : Ibs L l4) (hK : Kont B (fL_law__2850 L xs rec23 l4)) {σ : pn_S} {h : Bool} {Λ : pn_La} (hI : Inv σ h Λ) : Gets (B + 1) (fL_law__882 L xs rec23 l4 σ) := by
  obtain ⟨i1, i2, i3, i4, i5⟩ := ib
  unfold fL_law__882 fL_teach
  simp only [i1, i2, if_true]
  exact bw_int (ag_teach _ _) hK hI
theorem bk_12 (ib : Ibs L l4) (hK : Kont B (fL_law__2850 L xs rec23 l4)) {σ : pn_S} {h : Bool} {Λ : pn_La} (hI : Inv σ h Λ) : Gets (B + 1) (fL_law__950 L xs rec23 l4 σ) := by
  obtain ⟨i1, i2, i3, i4, i5⟩ := ib
  unfold fL_law__950 fL_wrong
  simp only [i1, i2, if_true]
  exact bw_int (ag_wrong _ _) hK hI
theorem bk_13 (ib : Ibs L l4) (hK : Kont B (fL_law__2850 L xs rec23 l4)) {σ : pn_S} {h : Bool} {Λ : pn_La} (hI : Inv σ h Λ) : Gets (B + 1) (fL_law__1018 L xs rec23 l4 σ) := by
  obtain ⟨i1, i2, i3, i4, i5⟩ := ib
  unfold fL_law__1018 fL_give
  simp only [i1, i2, if_true]
  exact bw_int (ag_give _ _) hK hI
theorem bk_14 (ib : Ibs L l4) (hK : Kont B (fL_law__2850 L xs rec23 l4)) {σ : pn_S} {h : Bool} {Λ : pn_La} (hI : Inv σ h Λ) : Gets (B + 1) (fL_law__1086 L xs rec23 l4 σ) := by
  obtain ⟨i1, i2, i3, i4, i5⟩ := ib
  unfold fL_law__1086 fL_nights
  simp only [i1, if_true]
  exact bw_int (ag_nights _) hK hI
theorem bk_15 (ib : Ibs L l4) (hK : Kont B (fL_law__2850 L xs rec23 l4)) {σ : pn_S} {h : Bool} {Λ : pn_La} (hI : Inv σ h Λ) : Gets (B + 1) (fL_law__1142 L xs rec23 l4 σ) := by
  obtain ⟨i1, i2, i3, i4, i5⟩ := ib
  unfold fL_law__1142 fL_comes
  simp only [i1, if_true]
  exact bw_int (ag_comes _) hK hI
theorem bk_16 (ib : Ibs L l4) (hK : Kont B (fL_law__2850 L xs rec23 l4)) {σ : pn_S} {h : Bool} {Λ : pn_La} (hI : Inv σ h Λ) : Gets (B + 1) (fL_law__1198 L xs rec23 l4 σ) := by
  obtain ⟨i1, i2, i3, i4, i5⟩ := ib
  unfold fL_law__1198 fL_rounds
  simp only [i1, if_true]
  exact bw_int (ag_rounds _) hK hI
theorem bk_17 (ib : Ibs L l4) (hK : Kont B (fL_law__2850 L xs rec23 l4)) {σ : pn_S} {h : Bool} {Λ : pn_La} (hI : Inv σ h Λ) : Gets (B + 1) (fL_law__1254 L xs rec23 l4 σ) := by
  obtain ⟨i1, i2, i3, i4, i5⟩ := ib
  unfold fL_law__1254 fL_when
  simp only [i1, i2, if_true]
  exact bw_int (ag_when _ _) hK hI
theorem bk_18 (ib : Ibs L l4) (hK : Kont B (fL_law__2850 L xs rec23 l4)) {σ : pn_S} {h : Bool} {Λ : pn_La} (hI : Inv σ h Λ) : Gets (B + 1) (fL_law__1322 L xs rec23 l4 σ) := by
  obtain ⟨i1, i2, i3, i4, i5⟩ := ib
  unfold fL_law__1322 fL_loud
  simp only [i1, if_true]
  exact bw_int (ag_loud _) hK hI
theorem bk_19 (ib : Ibs L l4) (hK : Kont B (fL_law__2850 L xs rec23 l4)) {σ : pn_S} {h : Bool} {Λ : pn_La} (hI : Inv σ h Λ) : Gets (B + 1) (fL_law__1378 L xs rec23 l4 σ) := by
  obtain ⟨i1, i2, i3, i4, i5⟩ := ib
  unfold fL_law__1378 fL_fewest
  simp only [i1, i2, if_true]
  exact bw_int (ag_fewest _ _) hK hI
theorem bk_20 (ib : Ibs L l4) (hK : Kont B (fL_law__2850 L xs rec23 l4)) {σ : pn_S} {h : Bool} {Λ : pn_La} (hI : Inv σ h Λ) : Gets (B + 1) (fL_law__1446 L xs rec23 l4 σ) := by
  obtain ⟨i1, i2, i3, i4, i5⟩ := ib
  unfold fL_law__1446 fL_keep
  simp only [i1, if_true]
  exact bw_int (ag_keep _) hK hI
theorem bk_21 (ib : Ibs L l4) (hK : Kont B (fL_law__2850 L xs rec23 l4)) {σ : pn_S} {h : Bool} {Λ : pn_La} (hI : Inv σ h Λ) : Gets (B + 1) (fL_law__1502 L xs rec23 l4 σ) := by
  obtain ⟨i1, i2, i3, i4, i5⟩ := ib
  unfold fL_law__1502 fL_tips
  simp only [i1, if_true]
  exact bw_int (ag_tips _) hK hI
theorem bk_22 (ib : Ibs L l4) (hK : Kont B (fL_law__2850 L xs rec23 l4)) {σ : pn_S} {h : Bool} {Λ : pn_La} (hI : Inv σ h Λ) : Gets (B + 1) (fL_law__1558 L xs rec23 l4 σ) := by
  obtain ⟨i1, i2, i3, i4, i5⟩ := ib
  unfold fL_law__1558 fL_price
  simp only [i1, if_true]
  exact bw_int (ag_price _) hK hI
theorem bk_23 (ib : Ibs L l4) (hK : Kont B (fL_law__2850 L xs rec23 l4)) {σ : pn_S} {h : Bool} {Λ : pn_La} (hI : Inv σ h Λ) : Gets (B + 1) (fL_law__1614 L xs rec23 l4 σ) := by
  obtain ⟨i1, i2, i3, i4, i5⟩ := ib
  unfold fL_law__1614 fL_law__1668 fL_can
  simp only [i1, if_true]
  exact bw_bool (ag_can _) hK hI
theorem bk_24 (ib : Ibs L l4) (hK : Kont B (fL_law__2850 L xs rec23 l4)) {σ : pn_S} {h : Bool} {Λ : pn_La} (hI : Inv σ h Λ) : Gets (B + 1) (fL_law__1677 L xs rec23 l4 σ) := by
  unfold fL_law__1677
  exact bi_int ag_dearest hK hI
theorem bk_25 (ib : Ibs L l4) (hK : Kont B (fL_law__2850 L xs rec23 l4)) {σ : pn_S} {h : Bool} {Λ : pn_La} (hI : Inv σ h Λ) : Gets (B + 1) (fL_law__1690 L xs rec23 l4 σ) := by
  obtain ⟨i1, i2, i3, i4, i5⟩ := ib
  unfold fL_law__1690 fL_brings
  simp only [i1, if_true]
  exact bw_int (ag_brings _) hK hI
theorem bk_26 (ib : Ibs L l4) (hK : Kont B (fL_law__2850 L xs rec23 l4)) {σ : pn_S} {h : Bool} {Λ : pn_La} (hI : Inv σ h Λ) : Gets (B + 1) (fL_law__1746 L xs rec23 l4 σ) := by
  unfold fL_law__1746
  exact bi_int ag_best hK hI
theorem bk_27 (ib : Ibs L l4) (hK : Kont B (fL_law__2850 L xs rec23 l4)) {σ : pn_S} {h : Bool} {Λ : pn_La} (hI : Inv σ h Λ) : Gets (B + 1) (fL_law__1759 L xs rec23 l4 σ) := by
  obtain ⟨i1, i2, i3, i4, i5⟩ := ib
  unfold fL_law__1759 fL_rests
  simp only [i1, if_true]
  exact bw_int (ag_rests _) hK hI
theorem bk_28 (ib : Ibs L l4) (hK : Kont B (fL_law__2850 L xs rec23 l4)) {σ : pn_S} {h : Bool} {Λ : pn_La} (hI : Inv σ h Λ) : Gets (B + 1) (fL_law__1815 L xs rec23 l4 σ) := by
  obtain ⟨i1, i2, i3, i4, i5⟩ := ib
  unfold fL_law__1815 fL_law__1836 fL_law__1863 fL_heard
  simp only [i1, i2, if_true]
  by_cases q : xs (Int32.toNatClampNeg (l4 + (2 : Int32))) = 0
  · simp only [if_pos q]
    exact bw_int (ag_heard _ _) hK hI
  · simp only [if_neg q]
    exact bw_int (ag_heard _ _) hK hI
theorem bk_29 (ib : Ibs L l4) (hK : Kont B (fL_law__2850 L xs rec23 l4)) {σ : pn_S} {h : Bool} {Λ : pn_La} (hI : Inv σ h Λ) : Gets (B + 1) (fL_law__1899 L xs rec23 l4 σ) := by
  obtain ⟨i1, i2, i3, i4, i5⟩ := ib
  unfold fL_law__1899 fL_ask
  simp only [i1, if_true]
  exact bw_int (ag_ask _) hK hI
theorem bk_30 (ib : Ibs L l4) (hK : Kont B (fL_law__2850 L xs rec23 l4)) {σ : pn_S} {h : Bool} {Λ : pn_La} (hI : Inv σ h Λ) : Gets (B + 1) (fL_law__1955 L xs rec23 l4 σ) := by
  obtain ⟨i1, i2, i3, i4, i5⟩ := ib
  unfold fL_law__1955 fL_feuded
  simp only [i1, if_true]
  exact bw_int (ag_feuded _) hK hI
theorem bk_31 (ib : Ibs L l4) (hK : Kont B (fL_law__2850 L xs rec23 l4)) {σ : pn_S} {h : Bool} {Λ : pn_La} (hI : Inv σ h Λ) : Gets (B + 1) (fL_law__2011 L xs rec23 l4 σ) := by
  unfold fL_law__2011
  exact bp_int ag_feuds hK hI
theorem bk_32 (ib : Ibs L l4) (hK : Kont B (fL_law__2850 L xs rec23 l4)) {σ : pn_S} {h : Bool} {Λ : pn_La} (hI : Inv σ h Λ) : Gets (B + 1) (fL_law__2024 L xs rec23 l4 σ) := by
  obtain ⟨i1, i2, i3, i4, i5⟩ := ib
  unfold fL_law__2024 fL_law__2078 fL_ring
  simp only [i1, if_true]
  exact bw_bool (ag_ring _) hK hI
theorem bk_33 (ib : Ibs L l4) (hK : Kont B (fL_law__2850 L xs rec23 l4)) {σ : pn_S} {h : Bool} {Λ : pn_La} (hI : Inv σ h Λ) : Gets (B + 1) (fL_law__2087 L xs rec23 l4 σ) := by
  unfold fL_law__2087
  exact bp_int ag_hated hK hI
theorem bk_34 (ib : Ibs L l4) (hK : Kont B (fL_law__2850 L xs rec23 l4)) {σ : pn_S} {h : Bool} {Λ : pn_La} (hI : Inv σ h Λ) : Gets (B + 1) (fL_law__2100 L xs rec23 l4 σ) := by
  obtain ⟨i1, i2, i3, i4, i5⟩ := ib
  unfold fL_law__2100 fL_watched
  simp only [i1, if_true]
  exact bw_int (ag_watched _) hK hI
theorem bk_35 (ib : Ibs L l4) (hK : Kont B (fL_law__2850 L xs rec23 l4)) {σ : pn_S} {h : Bool} {Λ : pn_La} (hI : Inv σ h Λ) : Gets (B + 1) (fL_law__2156 L xs rec23 l4 σ) := by
  unfold fL_law__2156
  exact bi_int ag_ripest hK hI
theorem bk_36 (ib : Ibs L l4) (hK : Kont B (fL_law__2850 L xs rec23 l4)) {σ : pn_S} {h : Bool} {Λ : pn_La} (hI : Inv σ h Λ) : Gets (B + 1) (fL_law__2169 L xs rec23 l4 σ) := by
  obtain ⟨i1, i2, i3, i4, i5⟩ := ib
  unfold fL_law__2169 fL_brave
  simp only [i1, if_true]
  exact bw_int (ag_brave _) hK hI
theorem bk_37 (ib : Ibs L l4) (hK : Kont B (fL_law__2850 L xs rec23 l4)) {σ : pn_S} {h : Bool} {Λ : pn_La} (hI : Inv σ h Λ) : Gets (B + 1) (fL_law__2225 L xs rec23 l4 σ) := by
  unfold fL_law__2225
  exact bp_int ag_alike hK hI
theorem bk_38 (ib : Ibs L l4) (hK : Kont B (fL_law__2850 L xs rec23 l4)) {σ : pn_S} {h : Bool} {Λ : pn_La} (hI : Inv σ h Λ) : Gets (B + 1) (fL_law__2238 L xs rec23 l4 σ) := by
  unfold fL_law__2238
  exact bi_int ag_ends hK hI
theorem bk_39 (ib : Ibs L l4) (hK : Kont B (fL_law__2850 L xs rec23 l4)) {σ : pn_S} {h : Bool} {Λ : pn_La} (hI : Inv σ h Λ) : Gets (B + 1) (fL_law__2251 L xs rec23 l4 σ) := by
  obtain ⟨i1, i2, i3, i4, i5⟩ := ib
  unfold fL_law__2251 fL_spent
  simp only [i1, i2, if_true]
  exact bw_int (ag_spent _ _) hK hI
theorem bk_40 (ib : Ibs L l4) (hK : Kont B (fL_law__2850 L xs rec23 l4)) {σ : pn_S} {h : Bool} {Λ : pn_La} (hI : Inv σ h Λ) : Gets (B + 1) (fL_law__2319 L xs rec23 l4 σ) := by
  obtain ⟨i1, i2, i3, i4, i5⟩ := ib
  unfold fL_law__2319 fL_calm
  simp only [i1, if_true]
  exact bw_int (ag_calm _) hK hI
theorem bk_41 (ib : Ibs L l4) (hK : Kont B (fL_law__2850 L xs rec23 l4)) {σ : pn_S} {h : Bool} {Λ : pn_La} (hI : Inv σ h Λ) : Gets (B + 1) (fL_law__2375 L xs rec23 l4 σ) := by
  obtain ⟨i1, i2, i3, i4, i5⟩ := ib
  unfold fL_law__2375 fL_share
  simp only [i1, i2, if_true]
  exact bw_int (ag_share _ _) hK hI
theorem bk_42 (ib : Ibs L l4) (hK : Kont B (fL_law__2850 L xs rec23 l4)) {σ : pn_S} {h : Bool} {Λ : pn_La} (hI : Inv σ h Λ) : Gets (B + 1) (fL_law__2443 L xs rec23 l4 σ) := by
  obtain ⟨i1, i2, i3, i4, i5⟩ := ib
  unfold fL_law__2443 fL_law__2464 fL_law__2491 fL_trial
  simp only [i1, i2, if_true]
  by_cases q : xs (Int32.toNatClampNeg (l4 + (2 : Int32))) = 0
  · simp only [if_pos q]
    exact bw_int (ag_trial _ _) hK hI
  · simp only [if_neg q]
    exact bw_int (ag_trial _ _) hK hI
theorem bk_43 (ib : Ibs L l4) (hK : Kont B (fL_law__2850 L xs rec23 l4)) {σ : pn_S} {h : Bool} {Λ : pn_La} (hI : Inv σ h Λ) : Gets (B + 1) (fL_law__2527 L xs rec23 l4 σ) := by
  obtain ⟨i1, i2, i3, i4, i5⟩ := ib
  unfold fL_law__2527 fL_law__2548 fL_law__2575 fL_span
  simp only [i1, i2, if_true]
  by_cases q : xs (Int32.toNatClampNeg (l4 + (2 : Int32))) = 0
  · simp only [if_pos q]
    exact bw_int (ag_span _ _) hK hI
  · simp only [if_neg q]
    exact bw_int (ag_span _ _) hK hI
theorem bk_44 (ib : Ibs L l4) (hK : Kont B (fL_law__2850 L xs rec23 l4)) {σ : pn_S} {h : Bool} {Λ : pn_La} (hI : Inv σ h Λ) : Gets (B + 1) (fL_law__2611 L xs rec23 l4 σ) := by
  obtain ⟨i1, i2, i3, i4, i5⟩ := ib
  unfold fL_law__2611 fL_law__2632 fL_law__2659 fL_led
  simp only [i1, i2, if_true]
  by_cases q : xs (Int32.toNatClampNeg (l4 + (2 : Int32))) = 0
  · simp only [if_pos q]
    exact bw_int (ag_led _ _) hK hI
  · simp only [if_neg q]
    exact bw_int (ag_led _ _) hK hI
theorem bk_45 (ib : Ibs L l4) (hK : Kont B (fL_law__2850 L xs rec23 l4)) {σ : pn_S} {h : Bool} {Λ : pn_La} (hI : Inv σ h Λ) : Gets (B + 1) (fL_law__2695 L xs rec23 l4 σ) := by
  obtain ⟨i1, i2, i3, i4, i5⟩ := ib
  unfold fL_law__2695 fL_log
  simp only [i1, i2, if_true]
  exact bw_int (ag_log _ _) hK hI
theorem bk_46 (ib : Ibs L l4) (hK : Kont B (fL_law__2850 L xs rec23 l4)) {σ : pn_S} {h : Bool} {Λ : pn_La} (hI : Inv σ h Λ) : Gets (B + 1) (fL_law__2763 L xs rec23 l4 σ) := by
  obtain ⟨i1, i2, i3, i4, i5⟩ := ib
  unfold fL_law__2763
  simp only [i1, if_true]
  exact bi_int (ag_seed _) hK hI
theorem bk_47 (ib : Ibs L l4) (hK : Kont B (fL_law__2850 L xs rec23 l4)) {σ : pn_S} {h : Bool} {Λ : pn_La} (hI : Inv σ h Λ) : Gets (B + 1) (fL_law__2788 L xs rec23 l4 σ) := by
  unfold fL_law__2788
  exact bi_int ag_undo hK hI
theorem bk_48 (ib : Ibs L l4) (hK : Kont B (fL_law__2850 L xs rec23 l4)) {σ : pn_S} {h : Bool} {Λ : pn_La} (hI : Inv σ h Λ) : Gets (B + 1) (fL_law__2801 L xs rec23 l4 σ) := by
  unfold fL_law__2801
  exact bv_int ag_image hK hI
theorem bk_49 (ib : Ibs L l4) (hK : Kont B (fL_law__2850 L xs rec23 l4)) {σ : pn_S} {h : Bool} {Λ : pn_La} (hI : Inv σ h Λ) : Gets (B + 1) (fL_law__2812 L xs rec23 l4 σ) := by
  unfold fL_law__2812
  exact bi_int ag_back hK hI
theorem bk_50 (ib : Ibs L l4) (hK : Kont B (fL_law__2850 L xs rec23 l4)) {σ : pn_S} {h : Bool} {Λ : pn_La} (hI : Inv σ h Λ) : Gets (B + 1) (fL_law__2825 L xs rec23 l4 σ) := by
  obtain ⟨i1, i2, i3, i4, i5⟩ := ib
  unfold fL_law__2825
  simp only [i1, if_true]
  exact bp_int (ag_count _) hK hI
end
