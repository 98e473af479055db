/-! PURE: a call of the class beside the same call of the reference -/
def Ag (fc : pn_S → Option ((Int32 ⊕ String) × pn_S)) (fr : pn_S → Option (Int32 × pn_S)) (hL : String → Option Int32) : Prop :=
  ∀ (σ : pn_S) (h : Bool) (Λ : pn_La), Inv σ h Λ →
    (∃ (x : Int32) (σ1 : pn_S), fc σ = some (.inl x, σ1) ∧ ∀ y, ∃ (σ2 : pn_S) (h' : Bool) (Λ' : pn_La), fr (pn_up σ1 96 0 y) = some (x, σ2) ∧ σ2 85 0 = 0 ∧ σ2 96 0 = y ∧ Inv σ2 h' Λ') ∨
    (∃ (E : String) (σ1 : pn_S) (b : Int32) (σ2 : pn_S) (h' : Bool) (Λ' : pn_La), fc σ = some (.inr E, σ1) ∧ fr σ1 = some (b, σ2) ∧ hL E = some (σ2 85 0) ∧ σ2 85 0 ≠ 0 ∧ Inv σ2 h' Λ')
def AgI (fc fr : pn_S → Option (Int32 × pn_S)) : Prop := ∀ (σ : pn_S) (h : Bool) (Λ : pn_La), Inv σ h Λ → ∃ (x : Int32) (σ1 σ2 : pn_S) (h' : Bool) (Λ' : pn_La), fc σ = some (x, σ1) ∧ fr σ1 = some (x, σ2) ∧ Inv σ2 h' Λ'
def AgP (fc : pn_S → Option Int32) (fr : pn_S → Option (Int32 × pn_S)) : Prop := ∀ (σ : pn_S) (h : Bool) (Λ : pn_La), Inv σ h Λ → ∃ (x : Int32) (σ2 : pn_S) (h' : Bool) (Λ' : pn_La), fc σ = some x ∧ fr σ = some (x, σ2) ∧ Inv σ2 h' Λ'
def Gets (B : Nat) (o : Option (Int32 × pn_S × Nat)) : Prop := ∃ (σ' : pn_S) (k : Nat), o = some (1, σ', k) ∧ k ≤ B
def Kont (B : Nat) (K : pn_S → Option (Int32 × pn_S × Nat)) : Prop := ∀ (σ : pn_S) (h : Bool) (Λ : pn_La), Inv σ h Λ → Gets B (K σ)
theorem lg_0 (x : Int32) : lg_cmp (Int32.toInt64 x) (Int32.toInt64 x) = 0 := by
  unfold lg_cmp
  rw [if_neg (Int64.lt_irrefl), if_pos rfl]
theorem lg_00 : lg_cmp 0 0 = 0 := by decide
theorem lg_11 : lg_cmp 1 1 = 0 := by decide
theorem bw_int {B : Nat} {fc : pn_S → Option ((Int32 ⊕ String) × pn_S)} {fr : pn_S → Option (Int32 × pn_S)} {hL : String → Option Int32} {K : pn_S → Option (Int32 × pn_S × Nat)} (ag : Ag fc fr hL) (hK : Kont B K) {σ : pn_S} {h : Bool} {Λ : pn_La} (hI : Inv σ h Λ) :
    Gets (B + 1) (pn_bw (pn_bc (fc σ) (fun x1 σ1 => some ((0 : Int32), pn_up σ1 96 0 x1, 0)) hL) fun x σ1 => pn_bi (fr σ1) fun b σ2 => (fX11_thrown σ2).bind fun t => if t = x then (if x = 0 then (if lg_cmp (Int32.toInt64 (σ2 96 0)) (Int32.toInt64 b) = 0 then K σ2 else some ((0 : Int32), σ2, 0)) else K σ2) else some ((0 : Int32), σ2, 0)) := by
  rcases ag σ h Λ hI with ⟨x, σ1, e1, H⟩ | ⟨E, σ1, b, σ2, h', Λ', e1, e2, e3, e4, i2⟩
  · obtain ⟨σ2, h', Λ', e2, e3, e4, i2⟩ := H x
    obtain ⟨σ', k, e5, e6⟩ := hK σ2 h' Λ' i2
    refine ⟨σ', k + 0, ?_, by omega⟩
    simp [pn_bw, pn_bc, e1, e2, bi_some, fX11_thrown, e3, e4, lg_0, e5]
  · obtain ⟨σ', k, e5, e6⟩ := hK σ2 h' Λ' i2
    refine ⟨σ', k + 1, ?_, by omega⟩
    simp [pn_bw, pn_bc, e1, e2, bi_some, fX11_thrown, e3, e4, e5]
theorem bw_bool {B : Nat} {fc : pn_S → Option ((Int32 ⊕ String) × pn_S)} {fr : pn_S → Option (Int32 × pn_S)} {hL : String → Option Int32} {K : pn_S → Option (Int32 × pn_S × Nat)} (ag : Ag fc fr hL) (hK : Kont B K) {σ : pn_S} {h : Bool} {Λ : pn_La} (hI : Inv σ h Λ) :
    Gets (B + 1) (pn_bw (pn_bc (fc σ) (fun x1 σ1 => if x1 = 0 then some ((0 : Int32), pn_up σ1 96 0 (0 : Int32), 0) else some ((0 : Int32), pn_up σ1 96 0 (1 : Int32), 0)) hL) fun x σ1 => pn_bi (fr σ1) fun b σ2 => (fX11_thrown σ2).bind fun t => if t = x then (if x = 0 then (if b = 0 then (if lg_cmp (Int32.toInt64 (σ2 96 0)) (Int32.toInt64 0) = 0 then K σ2 else some ((0 : Int32), σ2, 0)) else (if lg_cmp (Int32.toInt64 (σ2 96 0)) (Int32.toInt64 1) = 0 then K σ2 else some ((0 : Int32), σ2, 0))) else K σ2) else some ((0 : Int32), σ2, 0)) := by
  rcases ag σ h Λ hI with ⟨x, σ1, e1, H⟩ | ⟨E, σ1, b, σ2, h', Λ', e1, e2, e3, e4, i2⟩
  · by_cases hx : x = 0
    · obtain ⟨σ2, h', Λ', e2, e3, e4, i2⟩ := H 0
      obtain ⟨σ', k, e5, e6⟩ := hK σ2 h' Λ' i2
      refine ⟨σ', k + 0, ?_, by omega⟩
      simp [pn_bw, pn_bc, e1, e2, bi_some, fX11_thrown, e3, e4, lg_0, lg_00, lg_11, e5, hx]
    · obtain ⟨σ2, h', Λ', e2, e3, e4, i2⟩ := H 1
      obtain ⟨σ', k, e5, e6⟩ := hK σ2 h' Λ' i2
      refine ⟨σ', k + 0, ?_, by omega⟩
      simp [pn_bw, pn_bc, e1, e2, bi_some, fX11_thrown, e3, e4, lg_0, lg_00, lg_11, e5, hx]
  · obtain ⟨σ', k, e5, e6⟩ := hK σ2 h' Λ' i2
    refine ⟨σ', k + 1, ?_, by omega⟩
    simp [pn_bw, pn_bc, e1, e2, bi_some, fX11_thrown, e3, e4, e5]
theorem bi_int {B : Nat} {fc fr : pn_S → Option (Int32 × pn_S)} {K : pn_S → Option (Int32 × pn_S × Nat)} (ag : AgI fc fr) (hK : Kont B K) {σ : pn_S} {h : Bool} {Λ : pn_La} (hI : Inv σ h Λ) :
    Gets (B + 1) (pn_bi (fc σ) fun x σ1 => pn_bi (fr σ1) fun b σ2 => if x = b then K σ2 else some ((0 : Int32), σ2, 0)) := by
  obtain ⟨x, σ1, σ2, h', Λ', e1, e2, i2⟩ := ag σ h Λ hI
  obtain ⟨σ', k, e5, e6⟩ := hK σ2 h' Λ' i2
  refine ⟨σ', k, ?_, by omega⟩
  rw [e1, bi_some, e2, bi_some, if_pos rfl, e5]
theorem bp_int {B : Nat} {fc : pn_S → Option Int32} {fr : pn_S → Option (Int32 × pn_S)} {K : pn_S → Option (Int32 × pn_S × Nat)} (ag : AgP fc fr) (hK : Kont B K) {σ : pn_S} {h : Bool} {Λ : pn_La} (hI : Inv σ h Λ) :
    Gets (B + 1) ((fc σ).bind fun x => pn_bi (fr σ) fun b σ2 => if x = b then K σ2 else some ((0 : Int32), σ2, 0)) := by
  obtain ⟨x, σ2, h', Λ', e1, e2, i2⟩ := ag σ h Λ hI
  obtain ⟨σ', k, e5, e6⟩ := hK σ2 h' Λ' i2
  refine ⟨σ', k, ?_, by omega⟩
  rw [e1, Option.bind_some, e2, bi_some, if_pos rfl, e5]
/-! what is looked at ahead of a call -/
theorem c_chk {σ : pn_S} {h : Bool} {Λ : pn_La} (hI : Inv σ h Λ) (a : Int32) : (isP (σ 86) a → fX10_checkPerson a σ = some (.inl (), σ)) ∧ (¬ isP (σ 86) a → fX10_checkPerson a σ = some (.inr "java/lang/IndexOutOfBoundsException", σ)) := by
  obtain ⟨k1, k2⟩ := c_has hI.1 hI.2.1 a
  refine ⟨fun q => ?_, fun q => ?_⟩ <;> unfold fX10_checkPerson
  · rw [k1 q, Option.bind_some, if_neg (by decide)]
  · rw [k2 q, Option.bind_some, if_pos rfl]
theorem r_in (a lo hi : Int32) (σ : pn_S) : (lo.toInt ≤ a.toInt ∧ a.toInt ≤ hi.toInt → fX11_in a lo hi σ = some 1) ∧ (¬ (lo.toInt ≤ a.toInt ∧ a.toInt ≤ hi.toInt) → fX11_in a lo hi σ = some 0) := by
  unfold fX11_in
  refine ⟨fun q => ?_, fun q => ?_⟩
  · rw [if_neg (by rw [q_lt]; omega), if_neg (by rw [q_lt]; omega)]
  · by_cases h0 : a < lo
    · rw [if_pos h0]
    · rw [if_neg h0, if_pos]
      rw [q_lt] at h0 ⊢
      omega
theorem r_nob {σ : pn_S} (hw : VW (σ 86)) (a : Int32) : (isP (σ 86) a → fX11_nobody a σ = some 0) ∧ (¬ isP (σ 86) a → fX11_nobody a σ = some 1) := by
  have hn := hw.n.2
  have e1 : (nI (vn (σ 86)) - 1).toInt = vn (σ 86) - 1 := by
    have e2 : (nI (vn (σ 86))).toInt = vn (σ 86) := nI_toInt (by omega)
    have e3 : (1 : Int32).toInt = 1 := rfl
    rw [q_sub (by omega) (by omega)]
    omega
  have e0 : (0 : Int32).toInt = 0 := rfl
  obtain ⟨k1, k2⟩ := r_in a 0 (nI (vn (σ 86)) - 1) σ
  rw [e0, e1] at k1 k2
  unfold fX11_nobody isP
  refine ⟨fun q => ?_, fun q => ?_⟩
  · rw [r_people hw, Option.bind_some, k1 (by omega), Option.bind_some, if_neg (by decide)]
  · rw [r_people hw, Option.bind_some, k2 (by omega), Option.bind_some, if_pos rfl]
theorem r_t0 {c : Int32} {σ : pn_S} : fX11_throwsIf 0 c σ = some (0, σ) := by
  unfold fX11_throwsIf
  rw [if_pos rfl, if_pos (by decide)]
theorem r_t1 {c : Int32} {σ : pn_S} : fX11_throwsIf 1 c σ = some (1, pn_up σ 85 0 c) := by
  unfold fX11_throwsIf
  rw [if_neg (by decide), if_pos (by decide)]
theorem c_num {a lo hi : Int32} {σ : pn_S} : (lo.toInt ≤ a.toInt ∧ a.toInt ≤ hi.toInt → fX10_checkNumber a lo hi σ = some (.inl (), σ)) ∧ (¬ (lo.toInt ≤ a.toInt ∧ a.toInt ≤ hi.toInt) → fX10_checkNumber a lo hi σ = some (.inr "java/lang/IllegalArgumentException", σ)) := by
  unfold fX10_checkNumber fX10_checkNumber_10
  refine ⟨fun q => ?_, fun q => ?_⟩
  · rw [if_neg (by rw [q_lt]; omega), if_pos (by rw [q_le]; omega)]
  · by_cases h0 : a < lo
    · rw [if_pos h0]
    · rw [if_neg h0, if_neg]
      rw [q_lt] at h0
      rw [q_le]
      omega
theorem bx_inl {α β : Type} (x : α) (σ : pn_S) (k : α → pn_S → Option ((β ⊕ String) × pn_S)) : pn_bx (some (.inl x, σ)) k = k x σ := rfl
theorem bx_inr {α β : Type} (E : String) (σ : pn_S) (k : α → pn_S → Option ((β ⊕ String) × pn_S)) : pn_bx (some (.inr E, σ)) k = some (.inr E, σ) := rfl
/-- behind the looks: the class's answer, and the reference's from the state with 'nothing was thrown' -/
def AgB (hL : String → Option Int32) (σ : pn_S) (oc : Option ((Int32 ⊕ String) × pn_S)) (Br : pn_S → Option (Int32 × pn_S)) : Prop :=
  (∃ (x : Int32) (σ1 : pn_S), oc = some (.inl x, σ1) ∧ σ1 86 = σ 86 ∧ ∀ y, ∃ (σ2 : pn_S) (h' : Bool) (Λ' : pn_La), Br (pn_up (pn_up σ1 96 0 y) 85 0 0) = some (x, σ2) ∧ σ2 85 0 = 0 ∧ σ2 96 0 = y ∧ Inv σ2 h' Λ') ∨
  (∃ (E : String) (σ1 : pn_S) (b : Int32) (σ2 : pn_S) (h' : Bool) (Λ' : pn_La), oc = some (.inr E, σ1) ∧ σ1 86 = σ 86 ∧ Br (pn_up σ1 85 0 0) = some (b, σ2) ∧ hL E = some (σ2 85 0) ∧ σ2 85 0 ≠ 0 ∧ Inv σ2 h' Λ')
theorem w96 (σ : pn_S) (y z : Int32) : pn_up (pn_up σ 96 0 y) 85 0 z 86 = σ 86 := by rw [pn_up_a _ _ _ _ (by omega), pn_up_a _ _ _ _ (by omega)]
theorem w85 (σ : pn_S) (z : Int32) : pn_up σ 85 0 z 86 = σ 86 := pn_up_a _ _ _ _ (by omega)
theorem agb_ro {hL : String → Option Int32} {σ σ1 : pn_S} {h : Bool} {Λ : pn_La} {oc : Option ((Int32 ⊕ String) × pn_S)} {Br : pn_S → Option (Int32 × pn_S)} {x : Int32} (hI : Inv σ h Λ) (e1 : oc = some (.inl x, σ1)) (c1 : Core σ σ1) (H : ∀ τ, Inv τ h Λ → τ 86 = σ 86 → ∃ σ2, Br τ = some (x, σ2) ∧ FrR τ σ2) : AgB hL σ oc Br := by
  have e86 : σ1 86 = σ 86 := c1.1 86 (by omega)
  refine Or.inl ⟨x, σ1, e1, e86, fun y => ?_⟩
  have iτ : Inv (pn_up (pn_up σ1 96 0 y) 85 0 0) h Λ := ((hI.core c1).core Core_96).core Core_thrown
  obtain ⟨σ2, k1, k2⟩ := H _ iτ ((w96 _ _ _).trans e86)
  refine ⟨σ2, h, Λ, k1, ?_, ?_, iτ.core (Core_R k2)⟩
  · rw [k2.2 0 (by omega), pn_up_s]
  · rw [k2.1 96 (by omega) (by omega) (by omega) (by omega), pn_up_a _ _ _ _ (by omega), pn_up_s]
theorem agb_thr {hL : String → Option Int32} {σ : pn_S} {h : Bool} {Λ : pn_La} {oc : Option ((Int32 ⊕ String) × pn_S)} {Br : pn_S → Option (Int32 × pn_S)} {E : String} {c b : Int32} (hI : Inv σ h Λ) (e1 : oc = some (.inr E, σ)) (hh : hL E = some c) (hc : c ≠ 0) (H : Br (pn_up σ 85 0 0) = some (b, pn_up (pn_up σ 85 0 0) 85 0 c)) : AgB hL σ oc Br :=
  Or.inr ⟨E, σ, b, _, h, Λ, e1, rfl, H, by rw [pn_up_s]; exact hh, by rw [pn_up_s]; exact hc, (hI.core Core_thrown).core Core_thrown⟩
theorem agb_num {hL : String → Option Int32} {σ : pn_S} {h : Bool} {Λ : pn_La} {oc : Option ((Int32 ⊕ String) × pn_S)} {Br Br' : pn_S → Option (Int32 × pn_S)} {Bc : pn_S → Option ((Int32 ⊕ String) × pn_S)} {F : Int32 → pn_S → Option (Int32 × pn_S)} {a lo hi c : Int32} (hI : Inv σ h Λ)
    (hfc : oc = pn_bx (fX10_checkNumber a lo hi σ) fun _ σ1 => Bc σ1) (hfr : ∀ τ, Br τ = (fX11_in a lo hi τ).bind fun x1 => if x1 = 0 then F 1 τ else F 0 τ) (hF : ∀ s τ, F s τ = pn_bi (fX11_throwsIf s c τ) fun x3 σ3 => if x3 = 0 then Br' σ3 else some (0, σ3))
    (hh : hL "java/lang/IllegalArgumentException" = some c) (hc : c ≠ 0) (hok : lo.toInt ≤ a.toInt → a.toInt ≤ hi.toInt → AgB hL σ (Bc σ) Br') : AgB hL σ oc Br := by
  by_cases q : lo.toInt ≤ a.toInt ∧ a.toInt ≤ hi.toInt
  · have e : oc = Bc σ := by rw [hfc, c_num.1 q, bx_inl]
    have e2 : ∀ τ, Br τ = Br' τ := fun τ => by rw [hfr, (r_in a lo hi τ).1 q, Option.bind_some, if_neg (by decide), hF, r_t0, bi_some, if_pos rfl]
    rw [e, funext e2]
    exact hok q.1 q.2
  · exact agb_thr hI (by rw [hfc, c_num.2 q, bx_inr]) hh hc (b := 0) (by rw [hfr, (r_in a lo hi _).2 q, Option.bind_some, if_pos rfl, hF, r_t1, bi_some, if_neg (by decide)])
theorem ag_1 {fc : pn_S → Option ((Int32 ⊕ String) × pn_S)} {fr : pn_S → Option (Int32 × pn_S)} {hL : String → Option Int32} {Bc : pn_S → Option ((Int32 ⊕ String) × pn_S)} {Br : pn_S → Option (Int32 × pn_S)} {a : Int32}
    (hfc : ∀ σ, fc σ = pn_bx (fX10_checkPerson a σ) fun _ σ1 => Bc σ1)
    (hfr : ∀ σ, fr σ = (fX11_nobody a (pn_up σ 85 0 0)).bind fun x1 => pn_bi (fX11_throwsIf x1 1 (pn_up σ 85 0 0)) fun x2 σ2 => if x2 = 0 then Br σ2 else some (0, σ2))
    (hh : hL "java/lang/IndexOutOfBoundsException" = some 1)
    (hok : ∀ σ h Λ p, Inv σ h Λ → p < vn (σ 86) → a = nI p → AgB hL σ (Bc σ) Br) : Ag fc fr hL := by
  intro σ h Λ hI
  rcases isP_dec (σ 86) a with q | q
  · obtain ⟨p, hp, ha⟩ := q.nat
    have key : ∀ τ : pn_S, τ 86 = σ 86 → fr τ = Br (pn_up τ 85 0 0) := fun τ e => by
      have w : VW (pn_up τ 85 0 0 86) := by rw [w85, e]; exact hI.2.1
      have q2 : isP (pn_up τ 85 0 0 86) a := by rw [w85, e]; exact q
      rw [hfr, (r_nob w a).1 q2, Option.bind_some, r_t0, bi_some, if_pos rfl]
    rcases hok σ h Λ p hI hp ha with ⟨x, σ1, e1, e2, H⟩ | ⟨E, σ1, b, σ2, h', Λ', e1, e2, H, e3, e4, i2⟩
    · refine Or.inl ⟨x, σ1, by rw [hfc, (c_chk hI a).1 q, bx_inl, e1], fun y => ?_⟩
      rw [key _ (by rw [pn_up_a _ _ _ _ (by omega)]; exact e2)]
      exact H y
    · refine Or.inr ⟨E, σ1, b, σ2, h', Λ', by rw [hfc, (c_chk hI a).1 q, bx_inl, e1], by rw [key _ e2]; exact H, e3, e4, i2⟩
  · have w : VW (pn_up σ 85 0 0 86) := by rw [w85]; exact hI.2.1
    have q2 : ¬ isP (pn_up σ 85 0 0 86) a := by rw [w85]; exact q
    exact Or.inr ⟨_, σ, 0, _, h, Λ, by rw [hfc, (c_chk hI a).2 q, bx_inr], by rw [hfr, (r_nob w a).2 q2, Option.bind_some, r_t1, bi_some, if_neg (by decide)], by rw [pn_up_s]; exact hh, by rw [pn_up_s]; decide, (hI.core Core_thrown).core Core_thrown⟩
theorem ag_2 {fc : pn_S → Option ((Int32 ⊕ String) × pn_S)} {fr : pn_S → Option (Int32 × pn_S)} {hL : String → Option Int32} {Bc : pn_S → Option ((Int32 ⊕ String) × pn_S)} {Br : pn_S → Option (Int32 × pn_S)} {a b : Int32} (F G : Int32 → pn_S → Option (Int32 × pn_S))
    (hfc : ∀ σ, fc σ = pn_bx (fX10_checkTwo a b σ) fun _ σ1 => Bc σ1)
    (hfr : ∀ σ, fr σ = (fX11_nobody a (pn_up σ 85 0 0)).bind fun x1 => if x1 = 0 then (fX11_nobody b (pn_up σ 85 0 0)).bind fun x3 => if x3 = 0 then F 0 (pn_up σ 85 0 0) else F 1 (pn_up σ 85 0 0) else F 1 (pn_up σ 85 0 0))
    (hF : ∀ s σ, F s σ = pn_bi (fX11_throwsIf s 1 σ) fun x5 σ5 => if x5 = 0 then (if a = b then G 1 σ5 else G 0 σ5) else some (0, σ5))
    (hG : ∀ s σ, G s σ = pn_bi (fX11_throwsIf s 2 σ) fun x8 σ8 => if x8 = 0 then Br σ8 else some (0, σ8))
    (hh : hL "java/lang/IndexOutOfBoundsException" = some 1) (hh2 : hL "java/lang/IllegalArgumentException" = some 2)
    (hok : ∀ σ h Λ p t, Inv σ h Λ → p < vn (σ 86) → t < vn (σ 86) → p ≠ t → a = nI p → b = nI t → AgB hL σ (Bc σ) Br) : Ag fc fr hL := by
  intro σ h Λ hI
  have key : ∀ τ : pn_S, τ 86 = σ 86 → (isP (σ 86) a ∧ isP (σ 86) b → fr τ = F 0 (pn_up τ 85 0 0)) ∧ (¬ (isP (σ 86) a ∧ isP (σ 86) b) → fr τ = F 1 (pn_up τ 85 0 0)) := fun τ e => by
    have w : VW (pn_up τ 85 0 0 86) := by rw [w85, e]; exact hI.2.1
    have na := r_nob w a
    have nb := r_nob w b
    rw [w85, e] at na nb
    refine ⟨fun q => ?_, fun q => ?_⟩
    · rw [hfr, na.1 q.1, Option.bind_some, if_pos rfl, nb.1 q.2, Option.bind_some, if_pos rfl]
    · rcases isP_dec (σ 86) a with qa | qa
      · rw [hfr, na.1 qa, Option.bind_some, if_pos rfl, nb.2 (fun z => q ⟨qa, z⟩), Option.bind_some, if_neg (by decide)]
      · rw [hfr, na.2 qa, Option.bind_some, if_neg (by decide)]
  have ck : (isP (σ 86) a ∧ isP (σ 86) b → fX10_checkTwo a b σ = if a = b then some (.inr "java/lang/IllegalArgumentException", σ) else some (.inl (), σ)) ∧ (¬ (isP (σ 86) a ∧ isP (σ 86) b) → fX10_checkTwo a b σ = some (.inr "java/lang/IndexOutOfBoundsException", σ)) := by
    unfold fX10_checkTwo
    refine ⟨fun q => ?_, fun q => ?_⟩
    · rw [(c_chk hI a).1 q.1, bx_inl, (c_chk hI b).1 q.2, bx_inl]
    · rcases isP_dec (σ 86) a with qa | qa
      · rw [(c_chk hI a).1 qa, bx_inl, (c_chk hI b).2 (fun z => q ⟨qa, z⟩), bx_inr]
      · rw [(c_chk hI a).2 qa, bx_inr]
  rcases Classical.em (isP (σ 86) a ∧ isP (σ 86) b) with q | q
  · by_cases hab : a = b
    · have e1 : fc σ = some (.inr "java/lang/IllegalArgumentException", σ) := by rw [hfc, ck.1 q, if_pos hab, bx_inr]
      exact Or.inr ⟨_, σ, 0, _, h, Λ, e1, by rw [(key σ rfl).1 q, hF, r_t0, bi_some, if_pos rfl, if_pos hab, hG, r_t1, bi_some, if_neg (by decide)], by rw [pn_up_s]; exact hh2, by rw [pn_up_s]; decide, (hI.core Core_thrown).core Core_thrown⟩
    · obtain ⟨p, hp, ha⟩ := q.1.nat
      obtain ⟨t, ht, hb⟩ := q.2.nat
      have e0 : fc σ = Bc σ := by rw [hfc, ck.1 q, if_neg hab, bx_inl]
      have k2 : ∀ τ : pn_S, τ 86 = σ 86 → fr τ = Br (pn_up τ 85 0 0) := fun τ e => by
        rw [(key τ e).1 q, hF, r_t0, bi_some, if_pos rfl, if_neg hab, hG, r_t0, bi_some, if_pos rfl]
      rcases hok σ h Λ p t hI hp ht (fun z => hab (by rw [ha, hb, z])) ha hb with ⟨x, σ1, e1, e2, H⟩ | ⟨E, σ1, b, σ2, h', Λ', e1, e2, H, e3, e4, i2⟩
      · refine Or.inl ⟨x, σ1, e0.trans e1, fun y => ?_⟩
        rw [k2 _ (by rw [pn_up_a _ _ _ _ (by omega)]; exact e2)]
        exact H y
      · exact Or.inr ⟨E, σ1, b, σ2, h', Λ', e0.trans e1, by rw [k2 _ e2]; exact H, e3, e4, i2⟩
  · have e1 : fc σ = some (.inr "java/lang/IndexOutOfBoundsException", σ) := by rw [hfc, ck.2 q, bx_inr]
    exact Or.inr ⟨_, σ, 0, _, h, Λ, e1, by rw [(key σ rfl).2 q, hF, r_t1, bi_some, if_neg (by decide)], by rw [pn_up_s]; exact hh, by rw [pn_up_s]; decide, (hI.core Core_thrown).core Core_thrown⟩
/-- the number is looked at first of all -/
theorem ag_n {fc : pn_S → Option ((Int32 ⊕ String) × pn_S)} {fr : pn_S → Option (Int32 × pn_S)} {hL : String → Option Int32} {Bc : pn_S → Option ((Int32 ⊕ String) × pn_S)} {Br : pn_S → Option (Int32 × pn_S)} {a lo hi : Int32} (F : Int32 → pn_S → Option (Int32 × pn_S))
    (hfc : ∀ σ, fc σ = pn_bx (fX10_checkNumber a lo hi σ) fun _ σ1 => Bc σ1)
    (hfr : ∀ σ, fr σ = (fX11_in a lo hi (pn_up σ 85 0 0)).bind fun x1 => if x1 = 0 then F 1 (pn_up σ 85 0 0) else F 0 (pn_up σ 85 0 0))
    (hF : ∀ s τ, F s τ = pn_bi (fX11_throwsIf s 1 τ) fun x3 σ3 => if x3 = 0 then Br σ3 else some (0, σ3))
    (hh : hL "java/lang/IllegalArgumentException" = some 1)
    (hok : ∀ σ h Λ, Inv σ h Λ → lo.toInt ≤ a.toInt → a.toInt ≤ hi.toInt → AgB hL σ (Bc σ) Br) : Ag fc fr hL := by
  intro σ h Λ hI
  rcases agb_num (oc := fc σ) (Br := fun τ => (fX11_in a lo hi τ).bind fun x1 => if x1 = 0 then F 1 τ else F 0 τ) (hL := hL) (c := 1) hI (hfc σ) (fun _ => rfl) hF hh (by decide) (hok σ h Λ hI) with ⟨x, σ1, e1, e2, H⟩ | ⟨E, σ1, b, σ2, h', Λ', e1, e2, H, e3, e4, i2⟩
  · refine Or.inl ⟨x, σ1, e1, fun y => ?_⟩
    rw [hfr]
    exact H y
  · exact Or.inr ⟨E, σ1, b, σ2, h', Λ', e1, by rw [hfr]; exact H, e3, e4, i2⟩
/-! the reference's crowds, from the invariant -/
theorem rc {τ : pn_S} {h : Bool} {Λ : pn_La} {V : pn_V} {p : Nat} (hI : Inv τ h Λ) (e : τ 86 = V) (hp : p < vn V) : ∃ σ', fX11_crowdOf (nI p) τ = some ((crowd V Λ p (vbeg V) 0).1, σ') ∧ (∀ q, q < vn V → σ' 95 q = (crowd V Λ p (vbeg V) 0).2.1 q) ∧ σ' 85 20 = (crowd V Λ p (vbeg V) 0).2.2 ∧ FrR τ σ' ∧ NEe σ' Λ p ∧ σ' 86 = V ∧ Inv σ' h Λ := by
  subst e
  obtain ⟨σ2, k1, k2, k3, k4, k5⟩ := r_crowd hI.2.1 hp hI.2.2.2.1 hI.2.2.2.2.1
  exact ⟨σ2, k1, k2, k3, k4, k5, k4.w, hI.core (Core_R k4)⟩
theorem rnz {τ : pn_S} {h : Bool} {Λ : pn_La} {V : pn_V} {p : Nat} {x : Int32} (hI : Inv τ h Λ) (e : τ 86 = V) (hp : p < vn V) (hx : ∀ p, vn V ≤ p → p < 8 → bt x p = false) : ∃ σ', fX11_noiseOf x (nI p) τ = some (nz (pans V Λ p) x, σ') ∧ FrR τ σ' ∧ σ' 86 = V ∧ Inv σ' h Λ := by
  subst e
  obtain ⟨σ2, k1, k2, _, _, _⟩ := r_noise (x := x) hI.2.1 hp hI.2.2.2.1 hI.2.2.2.2.1 hx
  exact ⟨σ2, k1, k2, k2.w, hI.core (Core_R k2)⟩
theorem rof {τ : pn_S} {h : Bool} {Λ : pn_La} {V : pn_V} {p k : Nat} (hI : Inv τ h Λ) (e : τ 86 = V) (hp : p < vn V) (hk : k < 8) : fX11_of (nI p) (nI k) τ = some (tr V p k) := by
  subst e
  exact r_of hI.2.1 hp hk
theorem rpe {τ : pn_S} {h : Bool} {Λ : pn_La} {V : pn_V} (hI : Inv τ h Λ) (e : τ 86 = V) : fX11_people τ = some (nI (vn V)) := by
  subst e
  exact r_people hI.2.1
theorem cr_out {V : pn_V} {Λ : pn_La} {t : Nat} {beg home : Int32} (hn : vn V ≤ 8) (ht : t < 8) : ∀ p, vn V ≤ p → p < 8 → bt (crowd V Λ t beg home).1 p = false := fun p h1 h2 => by
  cases q : bt (crowd V Λ t beg home).1 p with
  | false => rfl
  | true => have := (crowd_in hn ht (by omega) q).1; omega
theorem cs {σ : pn_S} {h : Bool} {Λ : pn_La} (hI : Inv σ h Λ) {t : Nat} (ht : t < vn (σ 86)) : ∃ σ', fX10_summonTo (nI t) σ = some σ' ∧ CC σ' (pans (σ 86) Λ t) (crowd (σ 86) Λ t (vbeg (σ 86)) 0) ∧ INv σ' (σ 86) Λ t ∧ FrC σ σ' ∧ CV σ' 5 (σ 86) ∧ Inv σ' h Λ ∧ σ' 86 = σ 86 := by
  obtain ⟨σ1, g1, g2, g3, g4⟩ := c_summon hI.1 hI.2.1 hI.2.2.1 hI.2.2.2.2.1 ht
  exact ⟨σ1, g1, g2, g3, g4, cv_C hI.1 g4 (by omega), hI.core (Core_C g4), (Core_C g4).1 86 (by omega)⟩
