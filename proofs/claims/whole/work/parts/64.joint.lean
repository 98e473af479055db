/-! PURE: both take the same -/
section
variable {c w : Nat → Int32} {n : Nat}
def vv (c : Nat → Int32) (s x : Nat) : Int32 := fo (fun i v => 10 * v + c i - 48) s (if x - s ≤ 3 then x - s else 3) 0
def nres (hi v : Int32) (s x : Nat) : Int32 := if x = s then -1 else if 3 < x - s then -1 else if v < 0 then -1 else if v ≤ hi then v else -1
theorem r_num_loop (hb : HB c w n) {s : Nat} {hi : Int32} : ∀ (d i f : Nat) (τ : pn_S), n - i = d → d < f → s ≤ i → RJ w n i τ → τ 85 12 = nI s → ∃ τ', fX11_number_6 f 0 hi (vv c s i) τ = some (nres hi (vv c s (dg c n i)) s (dg c n i), τ') ∧ RJ w n (dg c n i) τ' ∧ τ' 85 12 = nI s ∧ FrP τ τ' := by
  have hn := hb.1
  have fin : ∀ (i f : Nat) (τ : pn_S), s ≤ i → RJ w n i τ → τ 85 12 = nI s → inB c n 48 57 i = false → ∃ τ', fX11_number_6 (f + 1) 0 hi (vv c s i) τ = some (nres hi (vv c s (dg c n i)) s (dg c n i), τ') ∧ RJ w n (dg c n i) τ' ∧ τ' 85 12 = nI s ∧ FrP τ τ' := fun i f τ hsi h h12 z => by
    have e := r_isAt hb h (lo := 48) (hi := 57) (by decide) (by decide)
    have z' : inB c n (48 : Int32).toInt (57 : Int32).toInt i = false := z
    rw [z'] at e
    have es : dg c n i = i := rnn_f z
    have hin := h.2.2.2
    refine ⟨τ, ?_, by rw [es]; exact h, h12, FrP.rf⟩
    rw [fX11_number_6, e, Option.bind_some, if_pos (show b01 false = 0 from rfl), h.1, h12, es, sub_nI hsi (by omega)]
    unfold nres
    by_cases y : i = s
    · rw [if_pos (by rw [y]), if_pos y]
    · rw [if_neg (fun u => y ((nI_eq (by omega) (by omega)).mp u)), if_neg y]
      by_cases y2 : 3 < i - s
      · rw [if_pos (show (3 : Int32) < nI (i - s) from nI_lt (a := 3) y2 (by omega)), if_pos y2]
      · rw [if_neg (show ¬ (3 : Int32) < nI (i - s) from nlt_nI (a := 3) (by omega) (by omega)), if_neg y2]
        by_cases y3 : vv c s i < 0
        · rw [if_pos y3, if_pos y3]
        · rw [if_neg y3, if_neg y3]
          split <;> rfl
  intro d
  induction d with
  | zero =>
    intro i f τ hd hf hsi h h12
    match f, hf with
    | f + 1, _ => exact fin i f τ hsi h h12 (inB_n i (by omega))
  | succ d ih =>
    intro i f τ hd hf hsi h h12
    match f, hf with
    | f + 1, hf =>
      cases z : inB c n 48 57 i with
      | false => exact fin i f τ hsi h h12 z
      | true =>
        have e := r_isAt hb h (lo := 48) (hi := 57) (by decide) (by decide)
        have z' : inB c n (48 : Int32).toInt (57 : Int32).toInt i = true := z
        rw [z'] at e
        have r := inB_lt z
        have es : dg c n i = dg c n (i + 1) := rnn_t inB_n z
        have fr : FrP τ (pn_up τ 85 10 (nI (i + 1))) := FrP_up (Or.inl rfl)
        have wc : w i = c i := by
          rcases hb.at r.1 with ⟨_, y⟩ | ⟨_, y⟩
          · exact y.symm
          · omega
        obtain ⟨τ', g1, g2, g3, g4⟩ := ih (i + 1) f (pn_up τ 85 10 (nI (i + 1))) (by omega) (by omega) (by omega) (h.up fr (pn_up_s _ _ _ _) (by omega)) (by rw [pn_up_k _ _ _ _ (by omega)]; exact h12)
        refine ⟨τ', ?_, by rw [es]; exact g2, g3, fr.tr g4⟩
        rw [fX11_number_6, e, Option.bind_some, if_neg (show ¬ b01 true = 0 by decide), h.1, h12, sub_nI hsi (by omega), es]
        unfold fX11_number_51
        rw [h.1, nI_1]
        by_cases y : 3 ≤ i - s
        · rw [if_pos (show (3 : Int32) ≤ nI (i - s) from nI_le (a := 3) y (by omega))]
          have ev : vv c s (i + 1) = vv c s i := by
            unfold vv
            by_cases u : i - s ≤ 3
            · rw [if_pos u, if_neg (by omega), show i - s = 3 by omega]
            · rw [if_neg u, if_neg (by omega)]
          rw [ev] at g1
          exact g1
        · rw [if_neg (show ¬ (3 : Int32) ≤ nI (i - s) from nI_ge (b := 3) (by omega) (by omega)), q_ib (by omega) (by omega), if_pos rfl, nI_clamp (by omega), h.2.2.1, wc]
          have ev : vv c s (i + 1) = 10 * vv c s i + c i - 48 := by
            unfold vv
            rw [if_pos (show i + 1 - s ≤ 3 by omega), if_pos (show i - s ≤ 3 by omega), show i + 1 - s = (i - s) + 1 by omega, fo_last, show s + (i - s) = i by omega]
          rw [ev] at g1
          exact g1
theorem num_en (hb : HB c w n) {s : Nat} (h : (cod c n s).toInt ≤ 999) : en c n s = dg c n s ∧ s < n := by
  cases z : inB c n 48 57 s with
  | false => have := (cod_nd hb z).1; omega
  | true =>
    have r := inB_lt z
    have nl : inB c n 97 122 s = false := by unfold inB; exact decide_eq_false (by omega)
    exact ⟨by unfold en; rw [if_neg (by rw [nl]; decide), if_pos z], r.1⟩
def nok (c : Nat → Int32) (n : Nat) (hi : Int32) (s : Nat) : Int32 := if cod c n s ≤ hi ∧ cod c n s ≤ 999 then cod c n s else -1
theorem r_num (hb : HB c w n) {τ : pn_S} {i : Nat} (h : RJ w n i τ) (hi : Int32) : ∃ τ', fX11_number 0 hi τ = some (nok c n hi (sk c n i), τ') ∧ RJ w n (dg c n (sk c n i)) τ' ∧ τ' 85 12 = nI (sk c n i) ∧ FrP τ τ' := by
  obtain ⟨τ1, g1, g2, g3, g4⟩ := r_blk hb h
  obtain ⟨τ', k1, k2, k3, k4⟩ := r_num_loop hb (s := sk c n i) (hi := hi) (n - sk c n i) (sk c n i) 5000 τ1 rfl (by have := hb.1; omega) (Nat.le_refl _) g3 g2
  have e0 : vv c (sk c n i) (sk c n i) = 0 := by unfold vv; rw [Nat.sub_self]; rfl
  rw [e0] at k1
  refine ⟨τ', ?_, k2, k3, g4.tr k4⟩
  unfold fX11_number
  rw [g1, Option.bind_some, k1]
  generalize sk c n i = s
  have e9 : (999 : Int32).toInt = 999 := rfl
  have e00 : (0 : Int32).toInt = 0 := rfl
  congr 2
  unfold nres nok
  cases z : inB c n 48 57 s with
  | false =>
    have es : dg c n s = s := rnn_f z
    have := (cod_nd hb z).1
    rw [if_pos es, if_neg]
    rintro ⟨_, y⟩
    rw [q_le] at y
    omega
  | true =>
    have g := rnn_gt (inB_n (c := c) (n := n) (lo := 48) (hi := 57)) z
    have g : s < dg c n s := g
    rw [if_neg (show ¬ dg c n s = s by omega)]
    by_cases y : dg c n s - s ≤ 3
    · obtain ⟨a1, a2, a3⟩ := (cod_dig hb z).1 y
      have ev : vv c s (dg c n s) = cod c n s := by rw [a1]; unfold vv nva; rw [if_pos y]
      rw [if_neg (by omega), ev, if_neg (by rw [q_lt]; omega)]
      by_cases x : cod c n s ≤ hi
      · rw [if_pos x, if_pos ⟨x, by rw [q_le]; omega⟩]
      · rw [if_neg x, if_neg (fun u => x u.1)]
    · rw [if_pos (by omega), (cod_dig hb z).2 y, if_neg (fun u => absurd u.2 (by decide))]
theorem sg_en (hb : HB c w n) {s a : Nat} (hs : s ≤ n) (ha : a ≤ 127) (hnl : a < 97 ∨ 122 < a) (hnd : a < 48 ∨ 57 < a) (h : cod c n s = nI (2000 + a)) : en c n s = s + 1 ∧ s < n := by
  have e : (nI (2000 + a)).toInt = 2000 + a := nI_toInt (by omega)
  have := (cod_sg hb (ch := a) hs (by omega) (by omega) (by omega)).mpr (by rw [h, e])
  have r := inB_lt this
  have h1 : inB c n 97 122 s = false := by unfold inB; exact decide_eq_false (by omega)
  have h2 : inB c n 48 57 s = false := by unfold inB; exact decide_eq_false (by omega)
  exact ⟨by unfold en; rw [if_neg (by rw [h1]; decide), if_neg (by rw [h2]; decide)], r.1⟩
theorem r_at1 (hb : HB c w n) {τ : pn_S} {s a : Nat} (h : RJ w n s τ) (ha : a ≤ 127) (hnl : a < 97 ∨ 122 < a) (hnd : a < 48 ∨ 57 < a) : fX11_isAt (nI a) (nI a) τ = some (b01 (decide (cod c n s = nI (2000 + a)))) := by
  have ea : (nI a).toInt = a := nI_toInt (by omega)
  have e : (nI (2000 + a)).toInt = 2000 + a := nI_toInt (by omega)
  rw [r_isAt hb h (by omega) (by omega), ea]
  have iff := cod_sg hb (ch := a) h.2.2.2 (by omega) (by omega) (by omega)
  by_cases z : cod c n s = nI (2000 + a)
  · rw [decide_eq_true z, iff.mpr (by rw [z, e])]
  · rw [decide_eq_false z]
    cases y : inB c n a a s with
    | false => rfl
    | true => exact absurd (q_eq.mpr ((iff.mp y).trans e.symm)) z
theorem r_sign (hb : HB c w n) {τ : pn_S} {i a : Nat} (h : RJ w n i τ) (ha : a ≤ 127) (hnl : a < 97 ∨ 122 < a) (hnd : a < 48 ∨ 57 < a) : ∃ τ', fX11_sign (nI a) τ = some (b01 (decide (cod c n (sk c n i) = nI (2000 + a))), τ') ∧ RJ w n (if cod c n (sk c n i) = nI (2000 + a) then en c n (sk c n i) else sk c n i) τ' ∧ τ' 85 12 = nI (sk c n i) ∧ FrP τ τ' := by
  obtain ⟨τ1, g1, g2, g3, g4⟩ := r_blk hb h
  unfold fX11_sign
  rw [g1, Option.bind_some, r_at1 hb g3 ha hnl hnd, Option.bind_some]
  by_cases z : cod c n (sk c n i) = nI (2000 + a)
  · obtain ⟨e1, e2⟩ := sg_en hb g3.2.2.2 ha hnl hnd z
    refine ⟨pn_up τ1 85 10 (nI (sk c n i + 1)), by rw [decide_eq_true z, if_neg (show ¬ b01 true = 0 by decide), g3.1, nI_1]; rfl, ?_, by rw [pn_up_k _ _ _ _ (by omega)]; exact g2, g4.tr (FrP_up (Or.inl rfl))⟩
    rw [if_pos z, e1]
    exact g3.up (FrP_up (Or.inl rfl)) (pn_up_s _ _ _ _) (by omega)
  · exact ⟨τ1, by rw [decide_eq_false z, if_pos (show b01 false = 0 from rfl)]; rfl, by rw [if_neg z]; exact g3, g2, g4⟩
theorem r_pass (hb : HB c w n) {τ : pn_S} {i k : Nat} (h : RJ w n i τ) (hk : k < 27) : ∃ τ', fX11_passes (sid.getD k 0) τ = some (b01 (decide (cod c n (sk c n i) = nI (1000 + k))), τ') ∧ RJ w n (if cod c n (sk c n i) = nI (1000 + k) then en c n (sk c n i) else sk c n i) τ' ∧ τ' 85 12 = nI (sk c n i) ∧ FrP τ τ' := by
  obtain ⟨τ1, g1, g2, g3⟩ := r_let hb h
  unfold fX11_passes
  rw [g1, Option.bind_some, r_wd hb g2 hk, Option.bind_some]
  by_cases z : cod c n (sk c n i) = nI (1000 + k)
  · obtain ⟨e1, e2⟩ := wd_en hb g2.2.2 hk z
    refine ⟨τ1, by rw [decide_eq_true z, if_neg (show ¬ b01 true = 0 by decide)]; rfl, by rw [if_pos z, e1]; exact g2.1, g2.2.1, g3⟩
  · refine ⟨pn_up τ1 85 10 (τ1 85 12), by rw [decide_eq_false z, if_pos (show b01 false = 0 from rfl)]; rfl, ?_, by rw [pn_up_k _ _ _ _ (by omega)]; exact g2.2.1, g3.tr (FrP_up (Or.inl rfl))⟩
    rw [if_neg z]
    exact g2.1.up (FrP_up (Or.inl rfl)) (by rw [pn_up_s]; exact g2.2.1) g2.2.2
theorem r_aft (hb : HB c w n) {τ : pn_S} {i k : Nat} (h : RJ w n i τ) (hk : k < 27) (hi : Int32) : ∃ τ', FrP τ τ' ∧ ((¬ cod c n (sk c n i) = nI (1000 + k) ∧ fX11_after (sid.getD k 0) 0 hi τ = some (-1, τ') ∧ τ' 85 12 = nI (sk c n i)) ∨ (cod c n (sk c n i) = nI (1000 + k) ∧ fX11_after (sid.getD k 0) 0 hi τ = some (nok c n hi (sk c n (en c n (sk c n i))), τ') ∧ RJ w n (dg c n (sk c n (en c n (sk c n i)))) τ' ∧ τ' 85 12 = nI (sk c n (en c n (sk c n i))))) := by
  obtain ⟨τ1, g1, g2, g3⟩ := r_let hb h
  unfold fX11_after
  rw [g1, Option.bind_some, r_wd hb g2 hk, Option.bind_some]
  by_cases z : cod c n (sk c n i) = nI (1000 + k)
  · obtain ⟨e1, e2⟩ := wd_en hb g2.2.2 hk z
    obtain ⟨τ2, k1, k2, k3, k4⟩ := r_num hb g2.1 hi
    rw [← e1] at k1 k2 k3
    exact ⟨τ2, g3.tr k4, Or.inr ⟨z, by rw [decide_eq_true z, if_neg (show ¬ b01 true = 0 by decide), k1, bi_some], k2, k3⟩⟩
  · exact ⟨τ1, g3, Or.inl ⟨z, by rw [decide_eq_false z, if_pos (show b01 false = 0 from rfl)], g2.2.1⟩⟩
/-! the class -/
def CJ (n : Nat) (T P : Nat → Int32) (m k : Nat) (σ : pn_S) : Prop := σ 1 4 = nI n ∧ σ 1 5 = nI m ∧ σ 1 6 = nI k ∧ σ 1 7 = -1 ∧ σ 3 = T ∧ σ 4 = P
variable {T P : Nat → Int32} {m : Nat}
theorem CJ.nx {σ : pn_S} {k : Nat} (h : CJ n T P m k σ) : CJ n T P m (k + 1) (pn_up σ 1 6 (nI (k + 1))) := ⟨(pn_up_k _ _ _ _ (by omega)).trans h.1, (pn_up_k _ _ _ _ (by omega)).trans h.2.1, pn_up_s _ _ _ _, (pn_up_k _ _ _ _ (by omega)).trans h.2.2.2.1, (pn_up_a _ _ _ _ (by omega)).trans h.2.2.2.2.1, (pn_up_a _ _ _ _ (by omega)).trans h.2.2.2.2.2⟩
theorem CJ.fr {σ σ' : pn_S} {k : Nat} (h : CJ n T P m k σ) (h1 : σ' 1 = σ 1) (h3 : σ' 3 = σ 3) (h4 : σ' 4 = σ 4) : CJ n T P m k σ' := by
  unfold CJ
  rw [h1, h3, h4]
  exact h
theorem c_nx {σ : pn_S} {k i : Nat} (hm : m ≤ 401) (h : CJ n T P m k σ) (ht : TK c n T P m k i) : fX7_nextThing σ = some (cod c n (sk c n i)) := by
  obtain ⟨a1, a2, a3, a4⟩ := ht.to
  obtain ⟨b1, b2, b3, b4, b5, b6⟩ := h
  unfold fX7_nextThing
  rw [b4, if_pos rfl, b2, b3, if_neg (nI_ge a1 (by omega)), q_ib (by omega) (by omega), if_pos rfl, nI_clamp (by omega), b5, a3]
theorem c_tk {σ : pn_S} {k i : Nat} (hm : m ≤ 401) (h : CJ n T P m k σ) (ht : TK c n T P m k i) (x : Int32) : (cod c n (sk c n i) = x → fX7_take x σ = some (1, pn_up σ 1 6 (nI (k + 1)))) ∧ (¬ cod c n (sk c n i) = x → fX7_take x σ = some (0, σ)) := by
  obtain ⟨a1, a2, a3, a4⟩ := ht.to
  obtain ⟨b1, b2, b3, b4, b5, b6⟩ := h
  unfold fX7_take
  rw [b4, if_pos rfl, b2, b3, if_neg (nI_ge a1 (by omega)), q_ib (by omega) (by omega), if_pos rfl, nI_clamp (by omega), b5, a3, nI_1]
  exact ⟨fun e => if_pos e, fun e => if_neg e⟩
theorem c_fl {σ : pn_S} {k i : Nat} (hm : m ≤ 401) (h : CJ n T P m k σ) (ht : TK c n T P m k i) : fX7_fail σ = some (0, pn_up σ 1 7 (nI (sk c n i))) := by
  obtain ⟨a1, a2, a3, a4⟩ := ht.to
  obtain ⟨b1, b2, b3, b4, b5, b6⟩ := h
  unfold fX7_fail fX7_fail_36
  rw [b4, if_pos rfl, b2, b3, if_neg (nI_ge a1 (by omega)), q_ib (by omega) (by omega), if_pos rfl, nI_clamp (by omega), b6, a2]
theorem c_tn {σ : pn_S} {k i : Nat} (hm : m ≤ 401) (h : CJ n T P m k σ) (ht : TK c n T P m k i) (hi : Int32) : (cod c n (sk c n i) ≤ hi ∧ cod c n (sk c n i) ≤ 999 → fX7_takeNumber hi σ = some (cod c n (sk c n i), pn_up σ 1 6 (nI (k + 1)))) ∧ (¬ (cod c n (sk c n i) ≤ hi ∧ cod c n (sk c n i) ≤ 999) → fX7_takeNumber hi σ = some (-1, pn_up σ 1 7 (nI (sk c n i)))) := by
  unfold fX7_takeNumber fX7_takeNumber_17
  rw [c_nx hm h ht, Option.bind_some, c_fl hm h ht, bi_some, h.2.2.1, nI_1]
  refine ⟨fun e => ?_, fun e => ?_⟩
  · rw [if_neg (by have := e.1; rw [q_le] at this; rw [q_lt]; omega), if_pos e.2]
  · by_cases z : hi < cod c n (sk c n i)
    · rw [if_pos z]
    · rw [if_neg z, if_neg (fun u => e ⟨by rw [q_lt] at z; rw [q_le]; omega, u⟩)]
/-- the class has seen what is wrong -/
def Bad (σ : pn_S) : Prop := ¬ σ 1 7 = -1
theorem bad_7 {σ : pn_S} {p : Nat} (hp : p ≤ 400) : Bad (pn_up σ 1 7 (nI p)) := by
  unfold Bad
  rw [pn_up_s]
  intro h
  have := congrArg Int32.toInt h
  rw [nI_toInt (by omega)] at this
  have e : (-1 : Int32).toInt = -1 := rfl
  omega
theorem b_nx {σ : pn_S} (h : Bad σ) : fX7_nextThing σ = some 3000 := if_neg h
theorem b_tk {σ : pn_S} (h : Bad σ) (x : Int32) : fX7_take x σ = some (0, σ) := if_neg h
theorem b_fl {σ : pn_S} (h : Bad σ) : fX7_fail σ = some (0, σ) := if_neg h
theorem b_tn {σ : pn_S} (h : Bad σ) {hi : Int32} (hh : hi.toInt < 3000) : fX7_takeNumber hi σ = some (-1, σ) := by
  unfold fX7_takeNumber fX7_takeNumber_17
  rw [b_nx h, Option.bind_some, if_pos (by rw [q_lt]; show _ < (3000 : Int); exact hh), b_fl h, bi_some]
theorem b_ta {σ : pn_S} (h : Bad σ) (x hi : Int32) : fX7_takeNumberAfter x hi σ = some (-1, σ) := by
  unfold fX7_takeNumberAfter
  rw [b_tk h, bi_some, if_pos rfl, b_fl h, bi_some]
/-- the class's text alone, and there what comes next, or what was wrong -/
def Fr1 (σ σ' : pn_S) : Prop := (∀ j, j ≠ 1 → σ' j = σ j) ∧ ∀ k, k ≠ 6 → k ≠ 7 → σ' 1 k = σ 1 k
theorem Fr1.rf {σ : pn_S} : Fr1 σ σ := ⟨fun _ _ => rfl, fun _ _ _ => rfl⟩
theorem Fr1.tr {a b d : pn_S} (h : Fr1 a b) (h2 : Fr1 b d) : Fr1 a d := ⟨fun j q => (h2.1 j q).trans (h.1 j q), fun k q1 q2 => (h2.2 k q1 q2).trans (h.2 k q1 q2)⟩
theorem Fr1_up {σ : pn_S} {k : Nat} {x : Int32} (h : k = 6 ∨ k = 7) : Fr1 σ (pn_up σ 1 k x) := ⟨fun j q => pn_up_a _ _ _ _ q, fun j q1 q2 => pn_up_k _ _ _ _ (by omega)⟩
/-! both -/
def JS (c w : Nat → Int32) (n : Nat) (T P : Nat → Int32) (m : Nat) (σ τ : pn_S) (k i : Nat) : Prop := CJ n T P m k σ ∧ RJ w n i τ ∧ TK c n T P m k i ∧ m ≤ 401
theorem sk_le {i : Nat} (h : i ≤ n) : i ≤ sk c n i ∧ sk c n i ≤ n := ⟨rnn_ge _ _ _, rnn_le _ h⟩
theorem j_num (hb : HB c w n) {σ τ : pn_S} {k i : Nat} (h : JS c w n T P m σ τ k i) (hi : Int32) :
    (∃ x i' τ', fX7_takeNumber hi σ = some (x, pn_up σ 1 6 (nI (k + 1))) ∧ fX11_number 0 hi τ = some (x, τ') ∧ x = cod c n (sk c n i) ∧ 0 ≤ x.toInt ∧ x.toInt ≤ hi.toInt ∧ x.toInt ≤ 999 ∧ JS c w n T P m (pn_up σ 1 6 (nI (k + 1))) τ' (k + 1) i' ∧ FrP τ τ' ∧ i < i' ∧ τ' 85 12 = nI (sk c n i)) ∨
    (∃ p τ', p ≤ n ∧ fX7_takeNumber hi σ = some (-1, pn_up σ 1 7 (nI p)) ∧ fX11_number 0 hi τ = some (-1, τ') ∧ τ' 85 12 = nI p ∧ FrP τ τ') := by
  obtain ⟨h1, h2, h3, h4⟩ := h
  obtain ⟨s1, s2⟩ := sk_le (c := c) h2.2.2.2
  obtain ⟨τ', g1, g2, g3, g4⟩ := r_num hb h2 hi
  unfold nok at g1
  by_cases z : cod c n (sk c n i) ≤ hi ∧ cod c n (sk c n i) ≤ 999
  · rw [if_pos z] at g1
    have z2 : (cod c n (sk c n i)).toInt ≤ 999 := by have := z.2; rw [q_le] at this; exact this
    obtain ⟨e1, e2⟩ := num_en hb z2
    have gt := en_gt c (n := n) (s := sk c n i)
    rw [← e1] at g2
    exact Or.inl ⟨_, en c n (sk c n i), τ', (c_tn h4 h1 h3 hi).1 z, g1, rfl, (cod_rg hb _).1, by have := z.1; rw [q_le] at this; exact this, z2, ⟨h1.nx, g2, h3.to.2.2.2 e2, h4⟩, g4, by omega, g3⟩
  · rw [if_neg z] at g1
    exact Or.inr ⟨sk c n i, τ', s2, (c_tn h4 h1 h3 hi).2 z, g1, g3, g4⟩
theorem j_aft (hb : HB c w n) {σ τ : pn_S} {k i q : Nat} (h : JS c w n T P m σ τ k i) (hq : q < 27) (hi : Int32) :
    (∃ x i' σ' τ', fX7_takeNumberAfter (nI (1000 + q)) hi σ = some (x, σ') ∧ fX11_after (sid.getD q 0) 0 hi τ = some (x, τ') ∧ 0 ≤ x.toInt ∧ x.toInt ≤ hi.toInt ∧ x.toInt ≤ 999 ∧ JS c w n T P m σ' τ' (k + 2) i' ∧ FrP τ τ' ∧ i < i' ∧ Fr1 σ σ') ∨
    (∃ p σ' τ', p ≤ n ∧ fX7_takeNumberAfter (nI (1000 + q)) hi σ = some (-1, σ') ∧ fX11_after (sid.getD q 0) 0 hi τ = some (-1, τ') ∧ τ' 85 12 = nI p ∧ σ' 1 7 = nI p ∧ FrP τ τ' ∧ Fr1 σ σ') := by
  obtain ⟨h1, h2, h3, h4⟩ := h
  obtain ⟨s1, s2⟩ := sk_le (c := c) h2.2.2.2
  obtain ⟨τ', f, g⟩ := r_aft hb h2 hq hi
  unfold fX7_takeNumberAfter
  rcases g with ⟨z, g1, g2⟩ | ⟨z, g1, g2, g3⟩
  · refine Or.inr ⟨sk c n i, pn_up σ 1 7 (nI (sk c n i)), τ', s2, ?_, g1, g2, pn_up_s _ _ _ _, f, Fr1_up (by omega)⟩
    rw [(c_tk h4 h1 h3 _).2 z, bi_some, if_pos rfl, c_fl h4 h1 h3, bi_some]
  · obtain ⟨e1, e2⟩ := wd_en hb s2 hq z
    have ht := h3.to.2.2.2 e2
    have hle := en_le c e2
    obtain ⟨u1, u2⟩ := sk_le (c := c) (i := en c n (sk c n i)) hle
    have gt := en_gt c (n := n) (s := sk c n i)
    have gt2 := en_gt c (n := n) (s := sk c n (en c n (sk c n i)))
    rw [(c_tk h4 h1 h3 _).1 z, bi_some, if_neg (by decide)]
    unfold nok at g1
    by_cases y : cod c n (sk c n (en c n (sk c n i))) ≤ hi ∧ cod c n (sk c n (en c n (sk c n i))) ≤ 999
    · rw [if_pos y] at g1
      have y2 : (cod c n (sk c n (en c n (sk c n i)))).toInt ≤ 999 := by have := y.2; rw [q_le] at this; exact this
      obtain ⟨v1, v2⟩ := num_en hb y2
      rw [← v1] at g2
      refine Or.inl ⟨_, en c n (sk c n (en c n (sk c n i))), pn_up (pn_up σ 1 6 (nI (k + 1))) 1 6 (nI (k + 1 + 1)), τ', by rw [(c_tn h4 h1.nx ht hi).1 y, bi_some], g1, (cod_rg hb _).1, by have := y.1; rw [q_le] at this; exact this, y2, ⟨h1.nx.nx, g2, ht.to.2.2.2 v2, h4⟩, f, by omega, (Fr1_up (by omega)).tr (Fr1_up (by omega))⟩
    · rw [if_neg y] at g1
      exact Or.inr ⟨sk c n (en c n (sk c n i)), pn_up (pn_up σ 1 6 (nI (k + 1))) 1 7 (nI (sk c n (en c n (sk c n i)))), τ', u2, by rw [(c_tn h4 h1.nx ht hi).2 y, bi_some], g1, g3, pn_up_s _ _ _ _, f, (Fr1_up (by omega)).tr (Fr1_up (by omega))⟩
/-- a word that may stand there -/
theorem j_pass (hb : HB c w n) {σ τ : pn_S} {k i q : Nat} (h : JS c w n T P m σ τ k i) (hq : q < 27) :
    (∃ i' τ', cod c n (sk c n i) = nI (1000 + q) ∧ fX7_take (nI (1000 + q)) σ = some (1, pn_up σ 1 6 (nI (k + 1))) ∧ fX11_passes (sid.getD q 0) τ = some (1, τ') ∧ JS c w n T P m (pn_up σ 1 6 (nI (k + 1))) τ' (k + 1) i' ∧ FrP τ τ' ∧ i + 2 ≤ i' ∧ τ' 85 12 = nI (sk c n i)) ∨
    (∃ τ', ¬ cod c n (sk c n i) = nI (1000 + q) ∧ fX7_take (nI (1000 + q)) σ = some (0, σ) ∧ fX11_passes (sid.getD q 0) τ = some (0, τ') ∧ JS c w n T P m σ τ' k (sk c n i) ∧ FrP τ τ' ∧ τ' 85 12 = nI (sk c n i)) := by
  obtain ⟨h1, h2, h3, h4⟩ := h
  obtain ⟨s1, s2⟩ := sk_le (c := c) h2.2.2.2
  obtain ⟨τ', g1, g2, g3, g4⟩ := r_pass hb h2 hq
  by_cases z : cod c n (sk c n i) = nI (1000 + q)
  · obtain ⟨e1, e2⟩ := wd_en hb s2 hq z
    have gt := en_gt c (n := n) (s := sk c n i)
    have hl : 2 ≤ (Wsl.getD q []).length := (by decide +kernel : ∀ q, q < 27 → 2 ≤ (Wsl.getD q []).length) q hq
    have hm := cod_wd hb s2 hq
    rw [decide_eq_true z] at hm
    unfold mB at hm
    rw [Bool.and_eq_true] at hm
    have hm1 := of_decide_eq_true hm.1
    rw [decide_eq_true z] at g1
    rw [if_pos z] at g2
    exact Or.inl ⟨en c n (sk c n i), τ', z, (c_tk h4 h1 h3 _).1 z, g1, ⟨h1.nx, g2, h3.to.2.2.2 e2, h4⟩, g4, by omega, g3⟩
  · rw [decide_eq_false z] at g1
    rw [if_neg z] at g2
    have es : sk c n (sk c n i) = sk c n i := rnn_f (rnn_end inB_n (n - i) i rfl)
    exact Or.inr ⟨τ', z, (c_tk h4 h1 h3 _).2 z, g1, ⟨h1, g2, h3.sk es, h4⟩, g4, g3⟩
theorem j_sign (hb : HB c w n) {σ τ : pn_S} {k i a : Nat} (h : JS c w n T P m σ τ k i) (ha : a ≤ 127) (hnl : a < 97 ∨ 122 < a) (hnd : a < 48 ∨ 57 < a) :
    (∃ i' τ', cod c n (sk c n i) = nI (2000 + a) ∧ fX7_take (nI (2000 + a)) σ = some (1, pn_up σ 1 6 (nI (k + 1))) ∧ fX11_sign (nI a) τ = some (1, τ') ∧ JS c w n T P m (pn_up σ 1 6 (nI (k + 1))) τ' (k + 1) i' ∧ FrP τ τ' ∧ i < i' ∧ τ' 85 12 = nI (sk c n i)) ∨
    (∃ τ', ¬ cod c n (sk c n i) = nI (2000 + a) ∧ fX7_take (nI (2000 + a)) σ = some (0, σ) ∧ fX11_sign (nI a) τ = some (0, τ') ∧ JS c w n T P m σ τ' k (sk c n i) ∧ FrP τ τ' ∧ τ' 85 12 = nI (sk c n i)) := by
  obtain ⟨h1, h2, h3, h4⟩ := h
  obtain ⟨s1, s2⟩ := sk_le (c := c) h2.2.2.2
  obtain ⟨τ', g1, g2, g3, g4⟩ := r_sign hb h2 ha hnl hnd
  by_cases z : cod c n (sk c n i) = nI (2000 + a)
  · obtain ⟨e1, e2⟩ := sg_en hb s2 ha hnl hnd z
    have gt := en_gt c (n := n) (s := sk c n i)
    rw [decide_eq_true z] at g1
    rw [if_pos z] at g2
    exact Or.inl ⟨en c n (sk c n i), τ', z, (c_tk h4 h1 h3 _).1 z, g1, ⟨h1.nx, g2, h3.to.2.2.2 e2, h4⟩, g4, by omega, g3⟩
  · rw [decide_eq_false z] at g1
    rw [if_neg z] at g2
    have es : sk c n (sk c n i) = sk c n i := rnn_f (rnn_end inB_n (n - i) i rfl)
    exact Or.inr ⟨τ', z, (c_tk h4 h1 h3 _).2 z, g1, ⟨h1, g2, h3.sk es, h4⟩, g4, g3⟩
theorem sk_sk (i : Nat) : sk c n (sk c n i) = sk c n i := rnn_f (rnn_end inB_n (n - i) i rfl)
end
