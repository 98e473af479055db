/-! PURE: a night keeps the ranges -/
theorem bear_W {V : pn_V} {t : Nat} (hw : VW V) : VW (bearS V t) ∧ vn (bearS V t) = vn V := by
  unfold bearS
  by_cases q : V 5 = -1
  · rw [if_pos q]; exact ⟨hw, rfl⟩
  rw [if_neg q]
  have r := hw.2.2.2.2.2.1
  have r1 := r.1
  have r2 := r.2
  have e1 : (1 : Int32).toInt = 1 := rfl
  have ea : (V 6 + 1).toInt = (V 6).toInt + 1 := by rw [q_add (by omega) (by omega)]; rfl
  by_cases q3 : V 6 + 1 < 3
  · rw [if_pos q3]
    rw [q_lt, ea] at q3
    have e3 : (3 : Int32).toInt = 3 := rfl
    exact ⟨vw_f hw (by omega) (by omega) (Or.inr (Or.inr ⟨by rw [ea]; show (0 : Int) ≤ _; omega, by rw [ea]; show _ ≤ (2 : Int); omega⟩)), vn_up (by omega)⟩
  · rw [if_neg q3]
    have hw2 : VW (upd V 6 2) := vw_f hw (by omega) (by omega) (Or.inr (Or.inr ⟨by show (0 : Int) ≤ 2; omega, by show (2 : Int) ≤ 2; omega⟩))
    have ef : forgV (upd V 6 (V 6 + 1)) t = forgV (upd V 6 2) t := by
      funext k
      unfold forgV
      by_cases k6 : k = 6
      · subst k6; rw [pk_us, pk_us]
      · rw [pk_un k6, pk_un k6]
        by_cases k5 : k = 5
        · subst k5; rw [pk_us, pk_us]
        · rw [pk_un k5, pk_un k5]
          by_cases k4 : k = 13 + 8 * t + 4
          · subst k4; rw [pk_us, pk_us]
          · rw [pk_un k4, pk_un k4, pk_un k6, pk_un k6]
    have fw := forgV_W (t := t) hw2
    rw [ef]
    exact ⟨fw.1, fw.2.trans (vn_up (by omega))⟩
theorem night_W {V : pn_V} {Λ : pn_La} {dr : Bool} (hL : LW Λ) (hw : VW V) : VW (nightS V Λ dr).1 ∧ vn (nightS V Λ dr).1 = vn V := by
  have ww := wet_W (dr := dr) hw
  unfold nightS
  by_cases q : wetS V dr 5 = -1
  · rw [if_pos q]
    have n := ngt_W ww.1
    exact ⟨n.1, n.2.trans ww.2⟩
  · rw [if_neg q]
    obtain ⟨ht, e5⟩ := vw_ne ww.1 q
    have ew := end_W (c := cameS (wetS V dr) Λ) (dr := dr) ww.1 ht e5 (noise_rg (V := wetS V dr) hL (tgt (wetS V dr)) (cameS (wetS V dr) Λ)).1
    have hv4 : VW (vsh (end2 (wetS V dr) Λ dr).1 (rowS (end2 (wetS V dr) Λ dr).1 (wetS V dr 5) (nI (pc (cameS (wetS V dr) Λ))) (end2 (wetS V dr) Λ dr).2)) := vsh_W ew.1 _
    have b := bear_W (t := tgt (wetS V dr)) hv4
    have n := ngt_W b.1
    exact ⟨n.1, n.2.trans (b.2.trans (vsh_vn.trans (ew.2.1.trans ww.2)))⟩
