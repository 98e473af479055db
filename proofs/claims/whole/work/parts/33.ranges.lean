/-! PURE: ranges stay -/
def tlo (k : Nat) : Int := if k = 5 then -1 else 0
def thi (n k : Nat) : Int := if k = 0 then 8 else if k = 1 then 9 else if k = 2 then 99 else if k = 3 then 9999 else if k = 4 then 9 else if k = 5 then (n : Int) - 1 else 1
theorem VW.t {V : pn_V} (h : VW V) {p k : Nat} (hp : p < vn V) (hk : k < 8) : rg (tr V p k) (tlo k) (thi (vn V) k) := by
  obtain ⟨a0, a1, a2, a3, a4, a5, a6, a7⟩ := h.p hp
  match k, hk with
  | 0, _ => exact a0
  | 1, _ => exact a1
  | 2, _ => exact a2
  | 3, _ => exact a3
  | 4, _ => exact a4
  | 5, _ => exact a5
  | 6, _ => exact a6
  | 7, _ => exact a7
theorem vw_of {V : pn_V} (h0 : rg (V 0) 0 8) (h1 : rg (V 1) 0 12) (h3 : rg (V 3) 0 9999) (h4 : rg (V 4) 0 1) (h5 : rg (V 5) (-1) (vn V - 1)) (h6 : rg (V 6) 0 2) (h7 : rg (V 7) 0 100) (h8 : rg (V 8) 0 100) (h9 : rg (V 9) 0 30) (h10 : rg (V 10) 0 20) (h11 : rg (V 11) 0 60) (ht : ∀ p, p < vn V → ∀ k, k < 8 → rg (tr V p k) (tlo k) (thi (vn V) k)) : VW V :=
  ⟨h0, h1, h3, h4, h5, h6, h7, h8, h9, h10, h11, fun p hp => ⟨ht p hp 0 (by omega), ht p hp 1 (by omega), ht p hp 2 (by omega), ht p hp 3 (by omega), ht p hp 4 (by omega), ht p hp 5 (by omega), ht p hp 6 (by omega), ht p hp 7 (by omega)⟩⟩
theorem upd_lo {V : pn_V} {i k : Nat} {x : Int32} (h : k ≠ i) : upd V i x k = V k := pk_un h
theorem tr_up {V : pn_V} {p k q j : Nat} {x : Int32} (hk : k < 8) (hj : j < 8) : tr (upd V (13 + 8 * p + k) x) q j = if q = p ∧ j = k then x else tr V q j := by
  unfold tr
  by_cases h : q = p ∧ j = k
  · obtain ⟨rfl, rfl⟩ := h; rw [if_pos ⟨rfl, rfl⟩, pk_us]
  · rw [if_neg h, pk_un (fun e => h (by omega))]
theorem vn_up {V : pn_V} {i : Nat} {x : Int32} (h : i ≠ 0) : vn (upd V i x) = vn V := by unfold vn; rw [pk_un (fun e => h e.symm)]
theorem vl_up {V : pn_V} {i : Nat} {x : Int32} (h : i ≠ 11) : vl (upd V i x) = vl V := by unfold vl; rw [pk_un (fun e => h e.symm)]
theorem vw_tr {V : pn_V} (h : VW V) {p k : Nat} (hk : k < 8) {x : Int32} (hx : rg x (tlo k) (thi (vn V) k)) : VW (upd V (13 + 8 * p + k) x) := by
  have e : ∀ j, j < 13 → upd V (13 + 8 * p + k) x j = V j := fun j hj => pk_un (by omega)
  have en : vn (upd V (13 + 8 * p + k) x) = vn V := vn_up (by omega)
  obtain ⟨a0, a1, a3, a4, a5, a6, a7, a8, a9, a10, a11, -⟩ := id h
  refine vw_of ?_ ?_ ?_ ?_ ?_ ?_ ?_ ?_ ?_ ?_ ?_ (fun q hq j hj => ?_)
  · rw [e 0 (by omega)]; exact a0
  · rw [e 1 (by omega)]; exact a1
  · rw [e 3 (by omega)]; exact a3
  · rw [e 4 (by omega)]; exact a4
  · rw [en, e 5 (by omega)]; exact a5
  · rw [e 6 (by omega)]; exact a6
  · rw [e 7 (by omega)]; exact a7
  · rw [e 8 (by omega)]; exact a8
  · rw [e 9 (by omega)]; exact a9
  · rw [e 10 (by omega)]; exact a10
  · rw [e 11 (by omega)]; exact a11
  · rw [en] at hq ⊢
    rw [tr_up hk hj]
    by_cases hc : q = p ∧ j = k
    · rw [if_pos hc, hc.2]; exact hx
    · rw [if_neg hc]; exact h.t hq hj
/-- the range of a field -/
def flo (i : Nat) : Int := if i = 5 then -1 else 0
def fhi (n i : Nat) : Int := if i = 1 then 12 else if i = 3 then 9999 else if i = 4 then 1 else if i = 5 then (n : Int) - 1 else if i = 6 then 2 else if i = 7 then 100 else if i = 8 then 100 else if i = 9 then 30 else if i = 10 then 20 else 60
theorem vw_f {V : pn_V} (h : VW V) {i : Nat} {x : Int32} (hi : i < 13) (h0 : i ≠ 0) (hx : i = 12 ∨ i = 2 ∨ rg x (flo i) (fhi (vn V) i)) : VW (upd V i x) := by
  have en : vn (upd V i x) = vn V := vn_up h0
  obtain ⟨a0, a1, a3, a4, a5, a6, a7, a8, a9, a10, a11, -⟩ := id h
  have key : ∀ j, j < 12 → j ≠ 0 → j ≠ 2 → rg (V j) (flo j) (fhi (vn V) j) → rg (upd V i x j) (flo j) (fhi (vn V) j) := fun j h1 h2 h3 hr => by
    by_cases e : j = i
    · subst e; rw [pk_us]; rcases hx with q | q | q
      · omega
      · omega
      · exact q
    · rw [pk_un e]; exact hr
  refine vw_of ?_ (key 1 (by omega) (by omega) (by omega) a1) (key 3 (by omega) (by omega) (by omega) a3) (key 4 (by omega) (by omega) (by omega) a4) ?_ (key 6 (by omega) (by omega) (by omega) a6) (key 7 (by omega) (by omega) (by omega) a7) (key 8 (by omega) (by omega) (by omega) a8) (key 9 (by omega) (by omega) (by omega) a9) (key 10 (by omega) (by omega) (by omega) a10) (key 11 (by omega) (by omega) (by omega) a11) (fun q hq j hj => ?_)
  · rw [pk_un (fun e => h0 e.symm)]; exact a0
  · rw [en]; exact key 5 (by omega) (by omega) (by omega) a5
  · rw [en] at hq ⊢
    have : tr (upd V i x) q j = tr V q j := pk_un (by omega)
    rw [this]
    exact h.t hq hj
/-- the target: nobody, or one of the people -/
theorem VW.tg {V : pn_V} (h : VW V) : V 5 = -1 ∨ ∃ t, t < vn V ∧ V 5 = nI t := by
  have a5 := h.2.2.2.2.1
  have r1 := a5.1
  have r2 := a5.2
  by_cases q : (V 5).toInt = -1
  · exact Or.inl (q_eq.mpr q)
  · have hr : rg (V 5) 0 (vn V) := ⟨by omega, by omega⟩
    obtain ⟨e1, e2⟩ := rg_nI hr
    exact Or.inr ⟨(V 5).toNatClampNeg, by omega, e1⟩
theorem nI_m1 {t : Nat} (h : t < 8) : ¬ nI t = -1 := by
  intro e
  have := (by decide +kernel : ∀ t, t < 8 → ¬ nI t = -1) t h
  exact this e
def mx0 (x : Int32) : Int32 := if 0 < x then x else 0
theorem mx0_rg {x : Int32} {hi : Int} (h0 : 0 ≤ hi) (h : x.toInt ≤ hi) : rg (mx0 x) 0 hi := by
  unfold mx0
  by_cases q : 0 < x
  · rw [if_pos q]
    rw [q_lt] at q
    have : (0 : Int32).toInt = 0 := rfl
    exact ⟨by omega, h⟩
  · rw [if_neg q]
    exact ⟨by show (0 : Int) ≤ 0; omega, h0⟩
/-- the draw -/
def dV (V : pn_V) : pn_V := upd V 12 (1103515245 * V 12 + 12345)
def dN (V : pn_V) : Int32 := (((dV V) 12 >>> ((16 : Int32) &&& 31)) &&& 32767) - (((dV V) 12 >>> ((16 : Int32) &&& 31)) &&& 32767) / 100 * 100
theorem bt_32767 (i : Nat) : bt 32767 i = decide (i < 15) := by
  rcases Nat.lt_or_ge i 32 with h | h
  · exact (by decide +kernel : ∀ i, i < 32 → bt 32767 i = decide (i < 15)) i h
  · rw [b_big h, decide_eq_false (by omega)]
theorem d_sh (x : Int32) : (x.toUInt32 >>> (Int32.toUInt32 16 &&& Int32.toUInt32 31)).toInt32 &&& 32767 = (x >>> ((16 : Int32) &&& 31)) &&& 32767 := by
  refine b_ext fun i hi => ?_
  rw [b_and, b_and, bt_32767]
  by_cases h : i < 15
  · have e1 := b_ushr 16 (by omega) x i
    have e2 := b_sshr 16 (by omega) x hi
    rw [if_pos (by omega)] at e2
    have e1 : bt (x.toUInt32 >>> (Int32.toUInt32 16 &&& Int32.toUInt32 31)).toInt32 i = bt x (16 + i) := e1
    have e2 : bt (x >>> ((16 : Int32) &&& 31)) i = bt x (16 + i) := e2
    rw [e1, e2]
  · rw [decide_eq_false h, Bool.and_false, Bool.and_false]
theorem dV_W {V : pn_V} (h : VW V) : VW (dV V) := vw_f h (by omega) (by omega) (Or.inl rfl)
theorem c_draw {σ : pn_S} {v : Nat} {V : pn_V} (h : CV σ v V) : ∃ x σ', fX8_draw v σ = some (x, σ') ∧ x - x / 100 * 100 = dN V ∧ CV σ' v (dV V) ∧ Fr (fun i => i = v) σ σ' := by
  refine ⟨_, _, rfl, ?_, ?_, Fr.rf.up rfl⟩
  · rw [pn_up_s, h.1.2.2.2.2.2.2.2.2.2.2.1, d_sh]
    rfl
  · rw [h.1.2.2.2.2.2.2.2.2.2.2.1]
    exact cv_fld h 12 12 _ (by omega)
theorem r_draw {σ : pn_S} : fX11_drawn 100 σ = some (dN (σ 86), pn_up σ 86 12 (1103515245 * σ 86 12 + 12345)) ∧ (pn_up σ 86 12 (1103515245 * σ 86 12 + 12345)) 86 = dV (σ 86) := by
  refine ⟨?_, ?_⟩
  · unfold fX11_drawn
    rw [if_neg (by decide), pn_up_s]
    unfold dN dV
    rw [pk_us]
  · rw [pn_up_row]; rfl
