/-! PURE: acts -/
theorem bi_id (o : Option (Int32 × pn_S)) : pn_bi o (fun x s => some (x, s)) = o := by
  cases o with
  | none => rfl
  | some r => rfl
theorem agb_act {hL : String → Option Int32} {σ σ1 : pn_S} {h : Bool} {Λ : pn_La} {oc : Option ((Int32 ⊕ String) × pn_S)} {Br : pn_S → Option (Int32 × pn_S)} {z : Int32} {V' : pn_V} {m x : Nat} {W : Nat → pn_V} (hI : Inv σ h Λ) (e1 : oc = some (.inl z, σ1)) (fa : FrA σ σ1) (hv : CV σ1 5 V') (hw : VW V') (cp : CPa σ1 m x W) (gp : GPa m W (σ 86 2)) (kp : Kp V' (σ 86))
    (H : ∀ τ : pn_S, τ 85 7 = σ 85 7 → τ 90 = σ 90 → τ 86 = σ 86 → ∃ τ2, Br τ = some (z, τ2) ∧ FrB τ τ2 ∧ τ2 86 = V' ∧ RPa τ2 m W) : AgB hL σ oc Br := by
  have a : ∀ i, i = 85 ∨ i = 86 ∨ i = 90 → σ1 i = σ i := fun i hi => fa.1 i (by omega) (by omega) (by omega) (by omega) (by omega) (by omega) (by omega) (by omega) (by omega) (by omega) (by omega) (by omega)
  refine Or.inl ⟨z, σ1, e1, a 86 (by omega), fun y => ?_⟩
  obtain ⟨τ2, k1, k2, k3, k4⟩ := H (pn_up (pn_up σ1 96 0 y) 85 0 0) (by rw [pn_up_k _ _ _ _ (by omega), pn_up_a _ _ _ _ (by omega), a 85 (by omega)]) (by rw [pn_up_a _ _ _ _ (by omega), pn_up_a _ _ _ _ (by omega), a 90 (by omega)]) ((w96 _ _ _).trans (a 86 (by omega)))
  obtain ⟨f1, f2, f3⟩ := act_fin hI fa hv hw cp k2 k3 kp k4 gp
  exact ⟨τ2, h, Λ, k1, f1, f2, f3⟩
theorem agb_tell {hL : String → Option Int32} {σ : pn_S} {h : Bool} {Λ : pn_La} {p k : Nat} {x z : Int32} (hI : Inv σ h Λ) (hp : p < vn (σ 86)) (hk : k < 8) (hx : rg x (tlo k) (thi (vn (σ 86)) k)) {oc : Option ((Int32 ⊕ String) × pn_S)} {Br : pn_S → Option (Int32 × pn_S)}
    (hc : ∀ σr, fX5_remember 5 σ = some σr → CV σr 5 (σ 86) → oc = some (.inl z, pn_up σr 6 (8 * p + k) x))
    (hr : ∀ τ τr : pn_S, fX11_remembers τ = some τr → τr 86 = σ 86 → Br τ = some (z, pn_up τr 86 (13 + 8 * p + k) x)) : AgB hL σ oc Br := by
  have hn := hI.2.1.n.2
  obtain ⟨σr, m, y, W, r1, r2, r3, r4, r5, r6, r7⟩ := rem2 hI
  refine agb_act hI (hc σr r1 r2) (r5.tr (FrA_fr (Fr.rf.up (by omega)))) (cv_up r2 hp hk hn hI.2.1.l.2 x) (vw_tr hI.2.1 hk hx) (cp_fr r3 (pn_up_a _ _ _ _ (by omega)) fun i h1 h2 => pn_up_a _ _ _ _ (by omega)) r4 (Kp_up (by omega)) fun τ e7 e90 e86 => ?_
  obtain ⟨τr, k1, k2, k3, k4⟩ := r7 τ e7 e90 e86
  refine ⟨_, hr τ τr k1 k4, k3.tr (FrB_fr (Fr.rf.up (by omega))), by rw [pn_up_row, k4], k2.1, fun j hj q hq => ?_⟩
  rw [pn_up_a _ _ _ _ (by omega)]
  exact k2.2 j hj q hq
theorem rof' {τ : pn_S} {V : pn_V} (e : τ 86 = V) (hw : VW V) {p k : Nat} (hp : p < vn V) (hk : k < 8) : fX11_of (nI p) (nI k) τ = some (tr V p k) := by
  subst e
  exact r_of hw hp hk
theorem tells_eq {σ : pn_S} {h : Bool} {Λ : pn_La} {hL : String → Option Int32} {p k : Nat} {a : Int32} (hI : Inv σ h Λ) (hp : p < vn (σ 86)) (hk : k < 8) (hx : rg a (tlo k) (thi (vn (σ 86)) k)) :
    AgB hL σ ((fX5_remember 5 σ).bind fun σ3 => pn_bi (fX8_tell 5 (nI p) (nI k) a σ3) fun x4 σ4 => some (.inl x4, σ4)) (fun σ6 => (fX11_remembers σ6).bind fun σ8 => (fX11_of (nI p) (nI k) σ8).bind fun x9 => (fX11_at (nI p) (nI k) σ8).bind fun x10 => if pn_ib x10 2015 then some (x9, (pn_up σ8 86 (Int32.toNatClampNeg x10) a)) else none) := by
  have hn := hI.2.1.n.2
  refine agb_tell (z := tr (σ 86) p k) hI hp hk hx (fun σr r1 r2 => ?_) fun τ τr t1 t2 => ?_
  · rw [r1, Option.bind_some, (c_tell r2 hI.2.1 hp hk a).1, bi_some]
  · rw [t1, Option.bind_some, rof' t2 hI.2.1 hp hk, Option.bind_some, r_at', Option.bind_some, q_ib (by omega) (by omega), if_pos rfl, nI_clamp (by omega)]
theorem ag_teach (a b : Int32) : Ag (fX10_teach a b) (fX11_teach a b) hL_teach := by
  have e : fX11_teach a b = fX11_tellsOf a 0 b 8 := funext fun σ => bi_id _
  rw [e]
  exact ag_1 (a := a) (fun _ => rfl) (fun _ => rfl) (if_pos rfl) fun σ h Λ p hI hp ha => by
    subst ha
    refine agb_num (c := 2) (F := fX11_tellsOf_34 (nI p) 0 b) hI rfl (fun _ => rfl) (fun _ _ => rfl) ((if_neg (by decide)).trans (if_pos rfl)) (by decide) fun h1 h2 => ?_
    exact tells_eq (k := 0) hI hp (by omega) ⟨h1, h2⟩
theorem ag_wrong (a b : Int32) : Ag (fX10_wrong a b) (fX11_wrong a b) hL_wrong := by
  have e : fX11_wrong a b = fX11_tellsOf a 4 b 9 := funext fun σ => bi_id _
  rw [e]
  exact ag_1 (a := a) (fun _ => rfl) (fun _ => rfl) (if_pos rfl) fun σ h Λ p hI hp ha => by
    subst ha
    refine agb_num (c := 2) (F := fX11_tellsOf_34 (nI p) 4 b) hI rfl (fun _ => rfl) (fun _ _ => rfl) ((if_neg (by decide)).trans (if_pos rfl)) (by decide) fun h1 h2 => ?_
    exact tells_eq (k := 4) hI hp (by omega) ⟨h1, h2⟩
theorem ag_give (a b : Int32) : Ag (fX10_give a b) (fX11_give a b) hL_give :=
  ag_1 (a := a) (fun _ => rfl) (fun _ => rfl) (if_pos rfl) fun σ h Λ p hI hp ha => by
    subst ha
    have hn := hI.2.1.n.2
    refine agb_num (c := 2) (F := fX11_give_35 (nI p) b) hI rfl (fun _ => rfl) (fun _ _ => rfl) ((if_neg (by decide)).trans (if_pos rfl)) (by decide) fun h1 h2 => ?_
    have e1 : (1 : Int32).toInt = 1 := rfl
    have e2 : (999 : Int32).toInt = 999 := rfl
    have e3 : (9999 : Int32).toInt = 9999 := rfl
    have r3 : rg (tr (σ 86) p 3) 0 9999 := (hI.2.1.p hp).2.2.2.1
    have q1 := r3.1
    have q2 := r3.2
    have es : (tr (σ 86) p 3 + b).toInt = (tr (σ 86) p 3).toInt + b.toInt := q_add (by omega) (by omega)
    have hx : rg (if tr (σ 86) p 3 + b < 9999 then tr (σ 86) p 3 + b else 9999) (tlo 3) (thi (vn (σ 86)) 3) := by
      show _ ∧ _
      split
      · next q => rw [q_lt] at q; exact ⟨by show (0 : Int) ≤ _; omega, by show _ ≤ (9999 : Int); omega⟩
      · exact ⟨by show (0 : Int) ≤ 9999; omega, by show (9999 : Int) ≤ 9999; omega⟩
    refine agb_tell (k := 3) (z := if tr (σ 86) p 3 + b < 9999 then tr (σ 86) p 3 + b else 9999) hI hp (by omega) hx (fun σr r1 r2 => ?_) fun τ τr t1 t2 => ?_
    · have g : fX8_of 5 (nI p) 3 σr = some (tr (σ 86) p 3) := c_of r2 hI.2.1 hp (k := 3) (by omega)
      have g2 := c_tell r2 hI.2.1 hp (k := 3) (by omega) (if tr (σ 86) p 3 + b < 9999 then tr (σ 86) p 3 + b else 9999)
      have g3 : fX8_tell 5 (nI p) 3 (if tr (σ 86) p 3 + b < 9999 then tr (σ 86) p 3 + b else 9999) σr = _ := g2.1
      have g4 : fX8_of 5 (nI p) 3 (pn_up σr (5 + 1) (8 * p + 3) (if tr (σ 86) p 3 + b < 9999 then tr (σ 86) p 3 + b else 9999)) = some (tr (upd (σ 86) (13 + 8 * p + 3) (if tr (σ 86) p 3 + b < 9999 then tr (σ 86) p 3 + b else 9999)) p 3) := c_of g2.2 (vw_tr hI.2.1 (by omega) hx) (by rw [vn_up (by omega)]; exact hp) (k := 3) (by omega)
      rw [r1, Option.bind_some, g, Option.bind_some, jmin, Option.bind_some, g3, bi_some, g4, Option.bind_some, tr_up (by omega) (by omega), if_pos ⟨rfl, rfl⟩]
    · have g : fX11_of (nI p) 3 τr = some (tr (σ 86) p 3) := rof' t2 hI.2.1 hp (k := 3) (by omega)
      have ga : fX11_at (nI p) 3 τr = some (nI (13 + 8 * p + 3)) := r_at'
      have g4 : fX11_of (nI p) 3 (pn_up τr 86 (13 + 8 * p + 3) (if tr (σ 86) p 3 + b < 9999 then tr (σ 86) p 3 + b else 9999)) = some (tr (upd (σ 86) (13 + 8 * p + 3) (if tr (σ 86) p 3 + b < 9999 then tr (σ 86) p 3 + b else 9999)) p 3) := rof' (by rw [pn_up_row, t2]) (vw_tr hI.2.1 (by omega) hx) (by rw [vn_up (by omega)]; exact hp) (k := 3) (by omega)
      rw [t1, Option.bind_some, ga, Option.bind_some, g, Option.bind_some, jmin, Option.bind_some, q_ib (by omega) (by omega), if_pos rfl, nI_clamp (by omega), g4, Option.bind_some, tr_up (by omega) (by omega), if_pos ⟨rfl, rfl⟩]
theorem ag_begin (a b : Int32) (hb : b = 0 ∨ b = 1) : Ag (fX10_begin a b) (fX11_begin a b) hL_begin :=
  ag_1 (a := a) (fun _ => rfl) (fun _ => rfl) (if_pos rfl) fun σ h Λ p hI hp ha => by
    subst ha
    have hn := hI.2.1.n.2
    have hx : rg b (tlo 7) (thi (vn (σ 86)) 7) := hb.elim (fun e => by rw [e]; exact ⟨by decide, (by decide : (0 : Int32).toInt ≤ (1 : Int))⟩) (fun e => by rw [e]; exact ⟨by decide, (by decide : (1 : Int32).toInt ≤ (1 : Int))⟩)
    have r7 : rg (tr (σ 86) p 7) 0 1 := (hI.2.1.p hp).2.2.2.2.2.2.2
    have h7 := rg01 r7
    refine agb_tell (k := 7) (x := b) (z := if tr (σ 86) p 7 = b then 0 else 1) hI hp (by omega) hx (fun σr r1 r2 => ?_) fun τ τr t1 t2 => ?_
    · have g2 : fX8_tell 5 (nI p) 7 b σr = _ := (c_tell r2 hI.2.1 hp (k := 7) (by omega) b).1
      rw [r1, Option.bind_some]
      unfold fX10_begin_25
      rcases hb with rfl | rfl
      · rw [if_pos rfl, g2, bi_some]
        split <;> rfl
      · rw [if_neg (by decide), g2, bi_some]
        split <;> rfl
    · have g : fX11_of (nI p) 7 τr = some (tr (σ 86) p 7) := rof' t2 hI.2.1 hp (k := 7) (by omega)
      have ga : fX11_at (nI p) 7 τr = some (nI (13 + 8 * p + 7)) := r_at'
      have k40 : ∀ s, fX11_begin_40 (nI p) b s τr = some (if s = b then 0 else 1, pn_up τr 86 (13 + 8 * p + 7) b) := fun s => by
        unfold fX11_begin_40 fX11_begin_60
        rw [ga, Option.bind_some, q_ib (by omega) (by omega), if_pos rfl, if_pos rfl, nI_clamp (by omega)]
        rcases hb with rfl | rfl
        · rw [if_pos rfl]
          split <;> rfl
        · rw [if_neg (by decide)]
          split <;> rfl
      rw [t1, Option.bind_some, g, Option.bind_some, k40, k40]
      rcases h7 with e | e
      · rw [e, if_neg (by decide)]
      · rw [e, if_pos rfl]
theorem ag_name (a : Int32) : Ag (fX10_name a) (fX11_name a) hL_name :=
  ag_1 (a := a) (fun _ => rfl) (fun _ => rfl) (if_pos rfl) fun σ h Λ p hI hp ha => by
    subst ha
    have hn := hI.2.1.n.2
    have g : fX8_of 5 (nI p) 4 σ = some (tr (σ 86) p 4) := c_of hI.1 hI.2.1 hp (k := 4) (by omega)
    by_cases q : tr (σ 86) p 4 = 0
    · refine agb_thr hI (E := "java/lang/IllegalStateException") (c := 2) (b := 0) (by rw [g, Option.bind_some, if_pos q]) ((if_neg (by decide)).trans (if_pos rfl)) (by decide) ?_
      have g' : fX11_of (nI p) 4 (pn_up σ 85 0 0) = some (tr (σ 86) p 4) := rof' (w85 _ _) hI.2.1 hp (k := 4) (by omega)
      rw [g', Option.bind_some, if_pos q]
      unfold fX11_name_33
      rw [r_t1, bi_some, if_neg (by decide)]
    · obtain ⟨σr, m, y, W, r1, r2, r3, r4, r5, r6, r7⟩ := rem2 hI
      obtain ⟨a1, a2⟩ := c_aim r2 (nI p)
      have w1 : VW (upd (σ 86) 5 (nI p)) := vw_f hI.2.1 (by omega) (by omega) (Or.inr (Or.inr ⟨by rw [nI_toInt (by omega)]; show (-1 : Int) ≤ _; omega, by rw [nI_toInt (by omega)]; show _ ≤ (vn (σ 86) : Int) - 1; omega⟩))
      have w2 : VW (upd (upd (σ 86) 5 (nI p)) 6 0) := vw_f w1 (by omega) (by omega) (Or.inr (Or.inr ⟨by show (0 : Int) ≤ 0; omega, by show (0 : Int) ≤ 2; omega⟩))
      refine agb_act hI (z := σ 86 5) (σ1 := pn_up (pn_up σr 5 4 (nI p)) 5 5 0) ?_ (r5.tr (FrA_fr ((Fr.rf.up (by omega)).up (by omega)))) a2 w2 (cp_fr r3 (by rw [pn_up_a _ _ _ _ (by omega), pn_up_a _ _ _ _ (by omega)]) fun i h1 h2 => by rw [pn_up_a _ _ _ _ (by omega), pn_up_a _ _ _ _ (by omega)]) r4 ((Kp_up (by omega)).tr (Kp_up (by omega))) fun τ e7 e90 e86 => ?_
      · rw [g, Option.bind_some, if_neg q, r1, Option.bind_some, a1, Option.bind_some, r2.1.2.2.1]
      · obtain ⟨τr, k1, k2, k3, k4⟩ := r7 τ e7 e90 e86
        have g' : fX11_of (nI p) 4 τ = some (tr (σ 86) p 4) := rof' e86 hI.2.1 hp (k := 4) (by omega)
        refine ⟨pn_up (pn_up τr 86 5 (nI p)) 86 6 0, ?_, k3.tr (FrB_fr ((Fr.rf.up (by omega)).up (by omega))), by rw [pn_up_row, pn_up_row, k4], k2.1, fun j hj q hq => ?_⟩
        · rw [g', Option.bind_some, if_neg q]
          unfold fX11_name_33
          rw [r_t0, bi_some, if_pos rfl, k1, Option.bind_some, k4]
        · rw [pn_up_a _ _ _ _ (by omega), pn_up_a _ _ _ _ (by omega)]
          exact k2.2 j hj q hq
/-- what the reference's feud does behind its looks -/
theorem agb_feud {σ : pn_S} {h : Bool} {Λ : pn_La} {hL : String → Option Int32} {p : Nat} {b : Int32} (hI : Inv σ h Λ) (hp : p < vn (σ 86)) (hx : rg b (-1) (vn (σ 86) - 1)) (hne : ¬ nI p = b) : AgB hL σ (fX10_feud_16 (nI p) b σ) (fun τ => fX11_feud_32 (nI p) b 0 τ) := by
  have e : (fun τ => fX11_feud_32 (nI p) b 0 τ) = fun σ6 => (fX11_remembers σ6).bind fun σ8 => (fX11_of (nI p) (nI 5) σ8).bind fun x9 => (fX11_at (nI p) (nI 5) σ8).bind fun x10 => if pn_ib x10 2015 then some (x9, (pn_up σ8 86 (Int32.toNatClampNeg x10) b)) else none := by
    funext τ
    unfold fX11_feud_32 fX11_feud_50
    rw [r_t0, bi_some, if_pos rfl, if_neg hne, r_t0, bi_some, if_pos rfl]
    rfl
  rw [e]
  exact tells_eq (k := 5) hI hp (by omega) hx
theorem ag_feud (a b : Int32) : Ag (fX10_feud a b) (fX11_feud a b) hL_feud := by
  intro σ h Λ hI
  have hn := hI.2.1.n.2
  have hw := hI.2.1
  have em1 : (-1 : Int32).toInt = -1 := rfl
  have key : ∀ τ : pn_S, τ 86 = σ 86 → (isP (σ 86) a → b = -1 ∨ isP (σ 86) b → fX11_feud a b τ = fX11_feud_32 a b 0 (pn_up τ 85 0 0)) ∧ (¬ (isP (σ 86) a ∧ (b = -1 ∨ isP (σ 86) b)) → fX11_feud a b τ = fX11_feud_32 a b 1 (pn_up τ 85 0 0)) := fun τ e => by
    have w : VW (pn_up τ 85 0 0 86) := by rw [w85, e]; exact hw
    have na := r_nob w a
    have nb := r_nob w b
    rw [w85, e] at na nb
    unfold fX11_feud fX11_feud_31 fX11_feud_27
    refine ⟨fun qa qb => ?_, fun q => ?_⟩
    · rw [na.1 qa, Option.bind_some, if_pos rfl]
      by_cases z : b = -1
      · rw [if_pos z]
      · have qb := qb.resolve_left z
        rw [if_neg z, nb.1 qb, Option.bind_some, if_pos rfl]
    · rcases isP_dec (σ 86) a with qa | qa
      · have z : ¬ b = -1 := fun z => q ⟨qa, Or.inl z⟩
        rw [na.1 qa, Option.bind_some, if_pos rfl, if_neg z, nb.2 (fun y => q ⟨qa, Or.inr y⟩), Option.bind_some, if_neg (by decide)]
      · rw [na.2 qa, Option.bind_some, if_neg (by decide)]
  have bad : ¬ (isP (σ 86) a ∧ (b = -1 ∨ isP (σ 86) b)) → fX10_feud a b σ = some (.inr "java/lang/IndexOutOfBoundsException", σ) → _ := fun q e1 => (show (∃ (x : Int32) (σ1 : pn_S), fX10_feud a b σ = some (.inl x, σ1) ∧ ∀ y, ∃ (σ2 : pn_S) (h' : Bool) (Λ' : pn_La), fX11_feud a b (pn_up σ1 96 0 y) = some (x, σ2) ∧ σ2 85 0 = 0 ∧ σ2 96 0 = y ∧ Inv σ2 h' Λ') ∨
    (∃ (E : String) (σ1 : pn_S) (b' : Int32) (σ2 : pn_S) (h' : Bool) (Λ' : pn_La), fX10_feud a b σ = some (.inr E, σ1) ∧ fX11_feud a b σ1 = some (b', σ2) ∧ hL_feud E = some (σ2 85 0) ∧ σ2 85 0 ≠ 0 ∧ Inv σ2 h' Λ') from Or.inr ⟨_, σ, 0, _, h, Λ, e1, by
      rw [(key σ rfl).2 q]
      unfold fX11_feud_32
      rw [r_t1, bi_some, if_neg (by decide)], by rw [pn_up_s]; exact if_pos rfl, by rw [pn_up_s]; decide, (hI.core Core_thrown).core Core_thrown⟩)
  have good : isP (σ 86) a → (b = -1 ∨ isP (σ 86) b) → ¬ a = b → fX10_feud a b σ = fX10_feud_16 a b σ → (∃ (x : Int32) (σ1 : pn_S), fX10_feud a b σ = some (.inl x, σ1) ∧ ∀ y, ∃ (σ2 : pn_S) (h' : Bool) (Λ' : pn_La), fX11_feud a b (pn_up σ1 96 0 y) = some (x, σ2) ∧ σ2 85 0 = 0 ∧ σ2 96 0 = y ∧ Inv σ2 h' Λ') ∨
    (∃ (E : String) (σ1 : pn_S) (b' : Int32) (σ2 : pn_S) (h' : Bool) (Λ' : pn_La), fX10_feud a b σ = some (.inr E, σ1) ∧ fX11_feud a b σ1 = some (b', σ2) ∧ hL_feud E = some (σ2 85 0) ∧ σ2 85 0 ≠ 0 ∧ Inv σ2 h' Λ') := fun qa qb hne e0 => by
    obtain ⟨p, hp, ha⟩ := qa.nat
    have hx : rg b (-1) (vn (σ 86) - 1) := by
      rcases qb with z | z
      · rw [z]; exact ⟨by rw [em1]; omega, by rw [em1]; omega⟩
      · exact ⟨by have := z.1; omega, by have := z.2; omega⟩
    rcases agb_feud (hL := hL_feud) hI hp hx (by rw [← ha]; exact hne) with ⟨x, σ1, e1, e2, H⟩ | ⟨E, σ1, b', σ2, h', Λ', e1, e2, H, e3, e4, i2⟩
    · refine Or.inl ⟨x, σ1, by rw [e0, ha]; exact e1, fun y => ?_⟩
      rw [(key _ (by rw [pn_up_a _ _ _ _ (by omega)]; exact e2)).1 qa qb, ha]
      exact H y
    · exact Or.inr ⟨E, σ1, b', σ2, h', Λ', by rw [e0, ha]; exact e1, by rw [(key _ e2).1 qa qb, ha]; exact H, e3, e4, i2⟩
  rcases isP_dec (σ 86) a with qa | qa
  · by_cases z : b = -1
    · obtain ⟨p, hp, ha⟩ := qa.nat
      refine good qa (Or.inl z) (by rw [ha, z]; exact nI_m1 (by omega)) ?_
      unfold fX10_feud
      rw [(c_chk hI a).1 qa, bx_inl, if_pos z]
    · rcases isP_dec (σ 86) b with qb | qb
      · by_cases hab : a = b
        · have e1 : fX10_feud a b σ = some (.inr "java/lang/IllegalArgumentException", σ) := by
            unfold fX10_feud fX10_checkTwo
            rw [(c_chk hI a).1 qa, bx_inl, if_neg z, (c_chk hI a).1 qa, bx_inl, (c_chk hI b).1 qb, bx_inl, if_pos hab, bx_inr]
          refine Or.inr ⟨_, σ, 0, _, h, Λ, e1, by
            rw [(key σ rfl).1 qa (Or.inr qb)]
            unfold fX11_feud_32 fX11_feud_50
            rw [r_t0, bi_some, if_pos rfl, if_pos hab, r_t1, bi_some, if_neg (by decide)], by rw [pn_up_s]; exact (if_neg (by decide)).trans (if_pos rfl), by rw [pn_up_s]; decide, (hI.core Core_thrown).core Core_thrown⟩
        · refine good qa (Or.inr qb) hab ?_
          unfold fX10_feud fX10_checkTwo
          rw [(c_chk hI a).1 qa, bx_inl, if_neg z, (c_chk hI a).1 qa, bx_inl, (c_chk hI b).1 qb, bx_inl, if_neg hab, bx_inl]
      · refine bad (fun y => y.2.elim z qb) ?_
        unfold fX10_feud fX10_checkTwo
        rw [(c_chk hI a).1 qa, bx_inl, if_neg z, (c_chk hI a).1 qa, bx_inl, (c_chk hI b).2 qb, bx_inr, bx_inr]
  · refine bad (fun y => qa y.1) ?_
    unfold fX10_feud
    rw [(c_chk hI a).2 qa, bx_inr]
/-! nights -/
theorem c_nights_loop {h0 : Bool} {Λ : pn_La} (hL : LW Λ) : ∀ (k i n f : Nat) (σ : pn_S) (V : pn_V) (acc : Int32), i + k = n → n < 100 → k < f → CV σ 5 V → VW V → CL σ 14 h0 Λ → ∃ σ', fX10_nights_22 f (nI n) acc (nI i) σ = some (.inl (nts Λ true k V acc).2, σ') ∧ CV σ' 5 (nts Λ true k V acc).1 ∧ VW (nts Λ true k V acc).1 ∧ FrN 5 σ σ' := by
  intro k
  induction k with
  | zero =>
    intro i n f σ V acc hi hn hf h hw hC
    match f, hf with
    | f + 1, _ => exact ⟨σ, by rw [fX10_nights_22, if_pos (nI_le (by omega) (by omega))]; rfl, h, hw, FrN.rf⟩
  | succ k ih =>
    intro i n f σ V acc hi hn hf h hw hC
    match f, hf with
    | f + 1, hf =>
      obtain ⟨σ1, g1, g2, g3, g4, g5⟩ := c_night (dr := true) (by omega) h hw hC hL
      have g1' : fX10_passNight 5 1 σ = some ((nightS V Λ true).2, σ1) := g1
      rw [fX10_nights_22, if_neg (nI_ge (by omega) (by omega)), g1', bi_some, nI_1, nts]
      obtain ⟨σ', k1, k2, k3, k5⟩ := ih (i + 1) n f σ1 (nightS V Λ true).1 (acc + (nightS V Λ true).2) (by omega) hn (by omega) g2 g3 (cl_N (by omega) hC g5)
      exact ⟨σ', k1, k2, k3, g5.tr k5⟩
theorem ag_nights (a : Int32) : Ag (fX10_nights a) (fX11_nights a) hL_nights :=
  ag_n (a := a) (fX11_nights_21 a) (fun _ => rfl) (fun _ => rfl) (fun _ _ => rfl) (if_pos rfl) fun σ h Λ hI h1 h2 => by
    have e1 : (1 : Int32).toInt = 1 := rfl
    have e60 : (60 : Int32).toInt = 60 := rfl
    obtain ⟨n, hn, rfl⟩ := rg_k (a := a) (n := 61) (by omega) (by omega)
    have hL := hI.2.2.2.2.1
    obtain ⟨σr, m, y, W, r1, r2, r3, r4, r5, r6, r7⟩ := rem2 hI
    have cl : CL σr 14 h Λ := cl_fr hI.2.2.1 (r5.2 6 (by omega) (by omega) (by omega)) (r5.1 15 (by omega) (by omega) (by omega) (by omega) (by omega) (by omega) (by omega) (by omega) (by omega) (by omega) (by omega) (by omega)) (r5.1 16 (by omega) (by omega) (by omega) (by omega) (by omega) (by omega) (by omega) (by omega) (by omega) (by omega) (by omega) (by omega)) (r5.1 17 (by omega) (by omega) (by omega) (by omega) (by omega) (by omega) (by omega) (by omega) (by omega) (by omega) (by omega) (by omega)) (r5.1 18 (by omega) (by omega) (by omega) (by omega) (by omega) (by omega) (by omega) (by omega) (by omega) (by omega) (by omega) (by omega))
    obtain ⟨σ1, g1, g2, g3, g4⟩ := c_nights_loop hL n 0 n 5000 σr (σ 86) 0 (by omega) (by omega) (by omega) r2 hI.2.1 cl
    obtain ⟨τ0, z1, z2, z3, z4, z5⟩ := r_goes_loop (dr := true) hL (fun V hV => (night_W hL hV).1) n 0 n 5000 σ 0 (by omega) (by omega) (by omega) hI.2.1 hI.2.2.2.1
    refine agb_act hI (z := (nts Λ true n (σ 86) 0).2) (σ1 := σ1) (V' := (nts Λ true n (σ 86) 0).1) ?_ (r5.tr (FrA_N g4)) g2 g3 (cp_fr r3 (g4.1 41 (by omega) (by omega) (by omega) (by omega) (by omega) (by omega) (by omega) (by omega) (by omega) (by omega)) fun i h1 h2 => g4.1 i (by omega) (by omega) (by omega) (by omega) (by omega) (by omega) (by omega) (by omega) (by omega) (by omega)) r4 (by rw [← z2]; exact z4) fun τ e7 e90 e86 => ?_
    · rw [r1, Option.bind_some]
      exact g1
    · obtain ⟨τr, k1, k2, k3, k4⟩ := r7 τ e7 e90 e86
      obtain ⟨τ1, y1, y2, y3, y4, y5⟩ := r_goes_loop (dr := true) hL (fun V hV => (night_W hL hV).1) n 0 n 5000 τr 0 (by omega) (by omega) (by omega) (by rw [k4]; exact hI.2.1) (by rw [k4]; exact hI.2.2.2.1)
      rw [k4] at y1 y2
      have y1' : fX11_goesOn (nI n) 0 τr = some ((nts Λ true n (σ 86) 0).2, τ1) := y1
      refine ⟨τ1, by rw [k1, Option.bind_some, y1', bi_some], k3.tr (FrB_RN y5), y2, ?_⟩
      refine ⟨by rw [y5.2 7 (by omega)]; exact k2.1, fun j hj q hq => ?_⟩
      rw [y5.1 90 (by omega) (by omega) (by omega) (by omega) (by omega)]
      exact k2.2 j hj q hq
/-! buy -/
theorem ag_buy : Ag fX10_buy fX11_buy hL_buy := by
  intro σ h Λ hI
  have hn := hI.2.1.n.2
  have hL := hI.2.2.2.2.1
  have e4 : σ 5 4 = σ 86 5 := hI.1.1.2.2.1
  rcases hI.2.1.tg with q | ⟨t, ht, q⟩
  · refine Or.inr ⟨"java/lang/IllegalStateException", σ, 0, pn_up (pn_up σ 85 0 0) 85 0 1, h, Λ, ?_, ?_, by rw [pn_up_s]; exact if_pos rfl, ?_, ?_⟩
    · unfold fX10_buy
      rw [e4, if_pos q]
    · unfold fX11_buy fX11_buy_23
      rw [w85, q, if_pos rfl, r_t1, bi_some, if_neg (by decide)]
    · rw [pn_up_s]; decide
    · exact (hI.core Core_thrown).core Core_thrown
  · obtain ⟨σ1, g1, g2, g3, g4, g5, g6, g7⟩ := cs hI ht
    have go : fX8_of 5 (nI t) 3 σ1 = some (tr (σ 86) t 3) := c_of g5 hI.2.1 ht (k := 3) (by omega)
    have ec : fX10_buy σ = if σ 86 10 * nI (pc (cr0 (σ 86) Λ t)) ≤ tr (σ 86) t 3 then (fX5_remember 5 σ1).bind fun σ6 => (fX10_buyOff 5 σ6).bind fun σ7 => (fX8_of 5 (nI t) 3 σ7).bind fun x8 => some (.inl x8, σ7) else some (.inr "java/lang/IllegalStateException", σ1) := by
      unfold fX10_buy
      rw [e4, q, if_neg (nI_m1 (by omega)), g1, Option.bind_some, go, Option.bind_some, c_priceOf g5 g2, Option.bind_some]
      rfl
    have er : ∀ τ : pn_S, τ 86 = σ 86 → ∃ τ1, FrR (pn_up τ 85 0 0) τ1 ∧ τ1 86 = σ 86 ∧ fX11_buy τ = if σ 86 10 * nI (pc (cr0 (σ 86) Λ t)) ≤ tr (σ 86) t 3 then fX11_buy_65 (nI t) (cr0 (σ 86) Λ t) 0 τ1 else fX11_buy_65 (nI t) (cr0 (σ 86) Λ t) 1 τ1 := fun τ e => by
      have e86 : pn_up τ 85 0 0 86 = σ 86 := (w85 _ _).trans e
      obtain ⟨τ1, k1, k2, k3, k4, k5⟩ := r_crowd (σ := pn_up τ 85 0 0) (t := t) (Λ := Λ) (h0 := h) (by rw [e86]; exact hI.2.1) (by rw [e86]; exact ht) (by rw [e86]; exact hI.2.2.2.1) hL
      rw [e86] at k1
      have e1 : τ1 86 = σ 86 := k4.w.trans e86
      have gf : fX11_of (nI t) 3 τ1 = some (tr (σ 86) t 3) := rof' e1 hI.2.1 ht (k := 3) (by omega)
      refine ⟨τ1, k4, e1, ?_⟩
      unfold fX11_buy fX11_buy_23
      rw [e86, q, if_neg (nI_m1 (by omega)), r_t0, bi_some, if_pos rfl, k1, bi_some, gf, Option.bind_some, r_price (crowd_s8 hn), Option.bind_some, e1]
      rfl
    by_cases pay : σ 86 10 * nI (pc (cr0 (σ 86) Λ t)) ≤ tr (σ 86) t 3
    · rw [if_pos pay] at ec
      have hpay : ¬ tr (σ 86) t 3 < σ 86 10 * nI (pc (cr0 (σ 86) Λ t)) := by rw [q_le] at pay; rw [q_lt]; omega
      obtain ⟨σr, m, y, W, r1, r2, r3, r4, r5, r6, r7⟩ := rem2 g6
      rw [g7] at r2 r4
      have c37 : σr 37 = σ1 37 := by
        obtain ⟨m0, x0, W0, p1, p2, p3⟩ := pst_to g6.2.2.2.2.2.2.1
        obtain ⟨c1, c2, c3⟩ := c_copy (v := 43 + 3 * x0) g5 hI.2.1 (by omega)
        unfold fX5_remember at r1
        rw [p1.2.2.2.1, q_ib (by have := p1.2.1; omega) (by omega), if_pos rfl, nI_clamp (by have := p1.2.1; omega), c1, Option.bind_some, jmin, Option.bind_some] at r1
        cases r1
        rw [pn_up_a _ _ _ _ (by omega), pn_up_a _ _ _ _ (by omega), c3 37 (by omega)]
      obtain ⟨σb, b1, b2, b3, b4, b5⟩ := c_buyOff (v := 5) (t := t) (c := cr0 (σ 86) Λ t) (by omega) r2 hI.2.1 ht q (by rw [c37]; exact g2.1) (by rw [c37]; exact g2.2.1) hpay
      have gz : fX8_of 5 (nI t) 3 σb = some (tr (buyV (σ 86) t (cr0 (σ 86) Λ t)) t 3) := c_of b2 b3 (by rw [b4]; exact ht) (k := 3) (by omega)
      have fa : FrA σ σb := ((FrA_C g4).tr r5).tr (FrA_fr (b5.mono fun i hi => by omega))
      have aσ : ∀ i, i = 85 ∨ i = 86 ∨ i = 90 → σb i = σ i := fun i hi => fa.1 i (by omega) (by omega) (by omega) (by omega) (by omega) (by omega) (by omega) (by omega) (by omega) (by omega) (by omega) (by omega)
      have s1e : ∀ i, i = 85 ∨ i = 90 → σ1 i = σ i := fun i hi => g4.1 i (by omega) (by omega) (by omega) (by omega) (by omega) (by omega) (by omega)
      refine Or.inl ⟨tr (buyV (σ 86) t (cr0 (σ 86) Λ t)) t 3, σb, ?_, fun w => ?_⟩
      · rw [ec, r1, Option.bind_some, b1, Option.bind_some, gz, Option.bind_some]
      · obtain ⟨τ1, t1, t2, t3⟩ := er (pn_up σb 96 0 w) (by rw [pn_up_a _ _ _ _ (by omega)]; exact aσ 86 (by omega))
        rw [if_pos pay] at t3
        obtain ⟨τr, k1, k2, k3, k4⟩ := r7 τ1 (by rw [t1.2 7 (by omega), pn_up_k _ _ _ _ (by omega), pn_up_a _ _ _ _ (by omega), aσ 85 (by omega), s1e 85 (by omega)]) (by rw [t1.1 90 (by omega) (by omega) (by omega) (by omega), pn_up_a _ _ _ _ (by omega), pn_up_a _ _ _ _ (by omega), aσ 90 (by omega), s1e 90 (by omega)]) (t2.trans g7.symm)
        rw [g7] at k4
        obtain ⟨τb, z1, z2, z3⟩ := r_buysOff (σ := τr) (t := t) (c := cr0 (σ 86) Λ t) (by rw [k4]; exact hI.2.1) (by rw [k4]; exact ht) (by rw [k4]; exact q) (crowd_s8 hn) (by rw [k4]; exact hpay)
        rw [k4] at z2
        have gz' : fX11_of (nI t) 3 τb = some (tr (buyV (σ 86) t (cr0 (σ 86) Λ t)) t 3) := rof' z2 b3 (by rw [b4]; exact ht) (k := 3) (by omega)
        have z3' : Fr (fun i => i = 86 ∨ i = 89 ∨ i = 90) τr τb := z3.mono fun i hi => by unfold S86 at hi; omega
        have fb : FrB (pn_up (pn_up σb 96 0 w) 85 0 0) τb := ((FrB_R t1).tr k3).tr (FrB_fr z3')
        have rp : RPa τb m W := ⟨by rw [z3' 85 (by omega)]; exact k2.1, fun j hj u hu => by
          have e90 : τb 90 = τr 90 := z3 90 (by unfold S86; omega)
          rw [e90]
          exact k2.2 j hj u hu⟩
        obtain ⟨f1, f2, f3⟩ := act_fin hI fa b2 b3 (cp_fr r3 (b5 41 (by omega)) fun i h1 h2 => b5 i (by omega)) fb z2 (Kp_buy hn (by omega)) rp r4
        refine ⟨τb, h, Λ, ?_, f1, f2, f3⟩
        rw [t3]
        unfold fX11_buy_65
        rw [r_t0, bi_some, if_pos rfl, k1, Option.bind_some, z1, Option.bind_some, gz', Option.bind_some]
    · rw [if_neg pay] at ec
      obtain ⟨τ1, t1, t2, t3⟩ := er σ1 g7
      rw [if_neg pay] at t3
      refine Or.inr ⟨_, σ1, 0, pn_up τ1 85 0 1, h, Λ, ec, ?_, by rw [pn_up_s]; exact if_pos rfl, by rw [pn_up_s]; decide, ((g6.core Core_thrown).core (Core_R t1)).core Core_thrown⟩
      rw [t3]
      unfold fX11_buy_65
      rw [r_t1, bi_some, if_neg (by decide)]
