/-! PURE: the law. A law is (m, kd, am, of, cd): m lines; line i is of kind kd i (0 need, 1 spare, 2 pan), of am i, its condition's code is cd (of i) .. cd (of (i + 1) - 1) -/
abbrev pn_La : Type := Nat × (Nat → Nat) × (Nat → Int32) × (Nat → Nat) × (Nat → Int32)
def bo (x : Int32) : Bool := decide (x = 0 ∨ x = 1)
/-- the facts that a condition may name, by their words -/
def isF (op : Int32) : Bool := decide (op = 1024 ∨ op = 1002 ∨ op = 1025 ∨ op = 1007 ∨ op = 1004 ∨ op = 1026 ∨ op = 1015 ∨ op = 1008 ∨ op = 1005 ∨ op = 1023)
/-- one step of a stack -/
def ex1 (F : Nat → Int32) (op : Int32) (st : List Int32) : Option (List Int32) :=
  if op < 1000 then (if st.length < 31 then some (op :: st) else none)
  else if op = 1022 then (match st with
    | a :: r => if bo a then some ((1 - a) :: r) else none
    | _ => none)
  else if op = 1021 then (match st with
    | b :: a :: r => if bo a && bo b then some ((a &&& b) :: r) else none
    | _ => none)
  else if op = 1020 then (match st with
    | b :: a :: r => if bo a && bo b then some ((a ||| b) :: r) else none
    | _ => none)
  else if op = 2043 then (match st with
    | b :: a :: r => some ((a + b) :: r)
    | _ => none)
  else if op = 2060 then (match st with
    | b :: a :: r => some ((if a < b then 1 else 0) :: r)
    | _ => none)
  else if op = 2062 then (match st with
    | b :: a :: r => some ((if b < a then 1 else 0) :: r)
    | _ => none)
  else if isF op then (if st.length < 31 then some (F (op - 1000).toNatClampNeg :: st) else none)
  else none
def exL (F : Nat → Int32) : List Int32 → List Int32 → Option (List Int32)
  | [], st => some st
  | op :: ops, st => (ex1 F op st).bind (exL F ops)
theorem exL_app (F : Nat → Int32) : ∀ (a b st : List Int32), exL F (a ++ b) st = (exL F a st).bind (exL F b) := by
  intro a
  induction a with
  | nil => intro b st; rfl
  | cons x a ih =>
    intro b st
    show (ex1 F x st).bind (exL F (a ++ b)) = ((ex1 F x st).bind (exL F a)).bind (exL F b)
    cases ex1 F x st with
    | none => rfl
    | some s => exact ih b s
def sg (cd : Nat → Int32) (a b : Nat) : List Int32 := (List.range (b - a)).map (fun j => cd (a + j))
/-- facts as they can be: the tags are 0 or 1 -/
def FW (F : Nat → Int32) : Prop := bo (F 5) = true ∧ bo (F 8) = true ∧ bo (F 23) = true
/-- a condition's code, or none -/
def GoodC (ops : List Int32) : Prop := ops = [] ∨ ∀ F, FW F → ∃ b, bo b = true ∧ exL F ops [] = some [b]
def LW (Λ : pn_La) : Prop := Λ.1 ≤ 12 ∧ Λ.2.2.2.1 0 = 0 ∧ Λ.2.2.2.1 Λ.1 ≤ 400 ∧ ∀ i, i < Λ.1 → Λ.2.1 i ≤ 2 ∧ rg (Λ.2.2.1 i) 0 30 ∧ Λ.2.2.2.1 i ≤ Λ.2.2.2.1 (i + 1) ∧ GoodC (sg Λ.2.2.2.2 (Λ.2.2.2.1 i) (Λ.2.2.2.1 (i + 1)))
theorem LW.of_le {Λ : pn_La} (h : LW Λ) : ∀ d i, i + d = Λ.1 → Λ.2.2.2.1 i ≤ Λ.2.2.2.1 Λ.1 := by
  intro d
  induction d with
  | zero => intro i hi; rw [show i = Λ.1 by omega]; exact Nat.le_refl _
  | succ d ih => intro i hi; exact Nat.le_trans (h.2.2.2 i (by omega)).2.2.1 (ih (i + 1) (by omega))
/-- the class's law w; h: there is one -/
def CL (σ : pn_S) (w : Nat) (h : Bool) (Λ : pn_La) : Prop :=
  (σ w 6 = if h then nI Λ.1 else -1) ∧ (h = false → Λ.1 = 0) ∧ (∀ i, i < Λ.1 → σ (w + 1) i = nI (1016 + Λ.2.1 i) ∧ σ (w + 2) i = Λ.2.2.1 i ∧ σ (w + 3) i = nI (Λ.2.2.2.1 i) ∧ σ (w + 3) (i + 1) = nI (Λ.2.2.2.1 (i + 1))) ∧ ∀ j, j < Λ.2.2.2.1 Λ.1 → σ (w + 4) j = Λ.2.2.2.2 j
theorem cl_fr {σ σ' : pn_S} {w : Nat} {h : Bool} {Λ : pn_La} (hC : CL σ w h Λ) (h6 : σ' w 6 = σ w 6) (h1 : σ' (w + 1) = σ (w + 1)) (h2 : σ' (w + 2) = σ (w + 2)) (h3 : σ' (w + 3) = σ (w + 3)) (h4 : σ' (w + 4) = σ (w + 4)) : CL σ' w h Λ := by
  unfold CL at hC ⊢
  rw [h6, h1, h2, h3, h4]
  exact hC
/-- the class's stack, over the 1 that lies below -/
def SRc (row : Nat → Int32) : List Int32 → Prop
  | [] => row 0 = 1
  | a :: r => row (r.length + 1) = a ∧ SRc row r
theorem SRc_up {row : Nat → Int32} {k : Nat} {x : Int32} : ∀ (st : List Int32), st.length < k → SRc row st → SRc (upd row k x) st := by
  intro st
  induction st with
  | nil => intro h h1; show upd row k x 0 = 1; rw [pk_un (by simp at h; omega)]; exact h1
  | cons a r ih =>
    intro h h1
    have h : r.length + 1 < k := h
    exact ⟨by rw [pk_un (by omega)]; exact h1.1, ih (by omega) h1.2⟩
/-- the same but for the scratch of the law w (its stack, its height) -/
def FrH (w : Nat) (σ σ' : pn_S) : Prop := (∀ i, i ≠ w → i ≠ w + 5 → σ' i = σ i) ∧ ∀ k, k ≠ 8 → σ' w k = σ w k
theorem FrH.rf {w : Nat} {σ : pn_S} : FrH w σ σ := ⟨fun _ _ _ => rfl, fun _ _ => rfl⟩
theorem FrH.tr {w : Nat} {a b c : pn_S} (h : FrH w a b) (h2 : FrH w b c) : FrH w a c := ⟨fun i h3 h4 => (h2.1 i h3 h4).trans (h.1 i h3 h4), fun k hk => (h2.2 k hk).trans (h.2 k hk)⟩
theorem c_push {σ : pn_S} {w h : Nat} (hh : σ w 8 = nI h) (hb : h < 32) (x : Int32) : fX2_push w x σ = some (pn_up (pn_up σ (w + 5) h x) w 8 (nI (h + 1))) := by
  unfold fX2_push
  rw [hh, if_neg (nI_pos (by omega)), if_neg (show ¬ Int32.ofNat 32 ≤ nI h from nI_ge (b := 32) hb (by omega)), q_ib hb (by omega), if_pos rfl, nI_clamp (by omega)]
  rw [pn_up_a _ _ _ _ (by omega), hh, nI_1]
theorem c_pop {σ : pn_S} {w h : Nat} (hh : σ w 8 = nI (h + 1)) (hb : h < 32) : fX2_pop w σ = some (σ (w + 5) h, pn_up σ w 8 (nI h)) := by
  unfold fX2_pop
  rw [hh, if_neg (nI_nle (by omega) (by omega)), if_pos (show nI (h + 1) ≤ Int32.ofNat 32 from nI_le (b := 32) (by omega) (by omega)), nI_pred, pn_up_s, q_ib hb (by omega), if_pos rfl, nI_clamp (by omega), pn_up_a _ _ _ _ (by omega)]
theorem FrH_push {σ : pn_S} {w h : Nat} {x y : Int32} : FrH w σ (pn_up (pn_up σ (w + 5) h x) w 8 y) := by
  refine ⟨fun i h1 h2 => by rw [pn_up_a _ _ _ _ h1, pn_up_a _ _ _ _ h2], fun k hk => by rw [pn_up_k _ _ _ _ hk, pn_up_a _ _ _ _ (by omega)]⟩
theorem FrH_pop {σ : pn_S} {w : Nat} {y : Int32} : FrH w σ (pn_up σ w 8 y) :=
  ⟨fun i h1 _ => by rw [pn_up_a _ _ _ _ h1], fun k hk => by rw [pn_up_k _ _ _ _ hk]⟩
/-- the stack st of the law w -/
def SC (σ : pn_S) (w : Nat) (st : List Int32) : Prop := σ w 8 = nI (st.length + 1) ∧ st.length < 32 ∧ SRc (σ (w + 5)) st
theorem SC_push {σ : pn_S} {w : Nat} {st : List Int32} (h : SC σ w st) (hb : st.length < 31) (x : Int32) : ∃ σ', fX2_push w x σ = some σ' ∧ SC σ' w (x :: st) ∧ FrH w σ σ' := by
  refine ⟨_, c_push h.1 (by omega) x, ⟨by rw [pn_up_s]; rfl, by show st.length + 1 < 32; omega, ?_⟩, FrH_push⟩
  rw [pn_up_a _ _ _ _ (by omega), pn_up_row]
  exact ⟨pk_us, SRc_up st (by omega) h.2.2⟩
theorem SC_pop {σ : pn_S} {w : Nat} {a : Int32} {st : List Int32} (h : SC σ w (a :: st)) : ∃ σ', fX2_pop w σ = some (a, σ') ∧ SC σ' w st ∧ FrH w σ σ' := by
  have h2 : st.length + 1 < 32 := h.2.1
  refine ⟨pn_up σ w 8 (nI (st.length + 1)), ?_, ⟨by rw [pn_up_s], by omega, by rw [pn_up_a _ _ _ _ (by omega)]; exact h.2.2.2⟩, FrH_pop⟩
  rw [c_pop (h := st.length + 1) h.1 h2, h.2.2.1]
theorem bo01 {x : Int32} (h : bo x = true) : x = 0 ∨ x = 1 := of_decide_eq_true h
/-- one step of the class's stack -/
theorem c_ex1 {σ : pn_S} {w e i : Nat} {F : Nat → Int32} {op : Int32} {st st' : List Int32} (hc : σ (w + 4) i = op) (hF : ∀ op, isF op = true → σ (w + 6) (op - 1000).toNatClampNeg = F (op - 1000).toNatClampNeg) (hi : i < e) (hi2 : i < 400) (he : e < 2 ^ 31) (hs : SC σ w st) (hx : ex1 F op st = some st') (f : Nat) :
    ∃ σ', fX2_holds_12 w (f + 1) (nI e) (nI i) σ = fX2_holds_12 w f (nI e) (nI (i + 1)) σ' ∧ SC σ' w st' ∧ FrH w σ σ' := by
  rw [fX2_holds_12, if_neg (nI_pos (by omega)), if_neg (nI_ge hi he), if_neg (show ¬ (400 : Int32) ≤ nI i from nI_ge (b := 400) hi2 (by omega)), q_ib hi2 (by omega), if_pos rfl, nI_clamp (by omega), hc, nI_1]
  unfold ex1 at hx
  by_cases h1 : op < 1000
  · rw [if_pos h1] at hx
    rw [if_neg (by rw [q_le]; rw [q_lt] at h1; omega)]
    by_cases hl : st.length < 31
    · rw [if_pos hl] at hx
      cases hx
      obtain ⟨σ', g1, g2, g3⟩ := SC_push hs hl op
      exact ⟨σ', by rw [g1]; rfl, g2, g3⟩
    · rw [if_neg hl] at hx; cases hx
  rw [if_neg h1] at hx
  rw [if_pos (by rw [q_le]; rw [q_lt] at h1; omega)]
  -- what joins two
  have two : ∀ (a b y : Int32) (r : List Int32), st = b :: a :: r → (∀ s : pn_S, fX2_joined op a b s = some y) → st' = y :: r → ∃ σ', fX2_holds_98 w (fX2_holds_12 w f) (nI e) (nI i) op σ = fX2_holds_12 w f (nI e) (nI (i + 1)) σ' ∧ SC σ' w st' ∧ FrH w σ σ' := by
    intro a b y r hst hj hst'
    subst hst; subst hst'
    obtain ⟨σ1, g1, g2, g3⟩ := SC_pop hs
    obtain ⟨σ2, k1, k2, k3⟩ := SC_pop g2
    have hl : r.length + 2 < 32 := hs.2.1
    obtain ⟨σ3, m1, m2, m3⟩ := SC_push k2 (by omega) y
    refine ⟨σ3, ?_, m2, (g3.tr k3).tr m3⟩
    unfold fX2_holds_98
    rw [g1]
    show pn_bi (fX2_pop w σ1) _ = _
    rw [k1]
    show (fX2_joined op a b σ2).bind _ = _
    rw [hj]
    show (fX2_push w y σ2).bind _ = _
    rw [m1, nI_1]
    rfl
  by_cases h2 : op = 1022
  · rw [if_pos h2] at hx
    rw [if_pos h2]
    match st, hx, hs with
    | a :: r, hx, hs =>
      by_cases hb : bo a = true
      · have hx : (if bo a = true then some ((1 - a) :: r) else none) = some st' := hx
        rw [if_pos hb] at hx
        cases hx
        obtain ⟨σ1, g1, g2, g3⟩ := SC_pop hs
        have hl : r.length + 1 < 32 := hs.2.1
        obtain ⟨σ3, m1, m2, m3⟩ := SC_push g2 (by omega) (1 - a)
        refine ⟨σ3, ?_, m2, g3.tr m3⟩
        rw [g1]
        show (fX2_push w (1 - a) σ1).bind _ = _
        rw [m1]
        rfl
      · have hx : (if bo a = true then some ((1 - a) :: r) else none) = some st' := hx
        rw [if_neg hb] at hx; cases hx
  rw [if_neg h2] at hx
  rw [if_neg h2]
  by_cases h3 : op = 1021
  · rw [if_pos h3] at hx
    rw [if_pos h3]
    match st, hx, two with
    | b :: a :: r, hx, two =>
      have hx : (if (bo a && bo b) = true then some ((a &&& b) :: r) else none) = some st' := hx
      by_cases hb : (bo a && bo b) = true
      · rw [if_pos hb] at hx
        cases hx
        exact two a b _ r rfl (fun s => by rw [h3]; rfl) rfl
      · rw [if_neg hb] at hx; cases hx
  rw [if_neg h3] at hx
  rw [if_neg h3]
  by_cases h4 : op = 1020
  · rw [if_pos h4] at hx
    rw [if_pos h4]
    match st, hx, two with
    | b :: a :: r, hx, two =>
      have hx : (if (bo a && bo b) = true then some ((a ||| b) :: r) else none) = some st' := hx
      by_cases hb : (bo a && bo b) = true
      · rw [if_pos hb] at hx
        cases hx
        exact two a b _ r rfl (fun s => by rw [h4]; rfl) rfl
      · rw [if_neg hb] at hx; cases hx
  rw [if_neg h4] at hx
  rw [if_neg h4]
  by_cases h5 : op = 2043
  · rw [if_pos h5] at hx
    rw [if_neg (by rw [h5]; decide)]
    match st, hx, two with
    | b :: a :: r, hx, two =>
      cases hx
      exact two a b _ r rfl (fun s => by rw [h5]; rfl) rfl
  rw [if_neg h5] at hx
  by_cases h6 : op = 2060
  · rw [if_pos h6] at hx
    rw [if_neg (by rw [h6]; decide)]
    match st, hx, two with
    | b :: a :: r, hx, two =>
      cases hx
      refine two a b _ r rfl (fun s => ?_) rfl
      rw [h6]
      show (if b ≤ a then some (0 : Int32) else some 1) = _
      by_cases q : a < b
      · rw [if_neg (by rw [q_le]; rw [q_lt] at q; omega), if_pos q]
      · rw [if_pos (by rw [q_le]; rw [q_lt] at q; omega), if_neg q]
  rw [if_neg h6] at hx
  by_cases h7 : op = 2062
  · rw [if_pos h7] at hx
    rw [if_neg (by rw [h7]; decide)]
    match st, hx, two with
    | b :: a :: r, hx, two =>
      cases hx
      refine two a b _ r rfl (fun s => ?_) rfl
      rw [h7]
      show (if a ≤ b then some (0 : Int32) else some 1) = _
      by_cases q : b < a
      · rw [if_neg (by rw [q_le]; rw [q_lt] at q; omega), if_pos q]
      · rw [if_pos (by rw [q_le]; rw [q_lt] at q; omega), if_neg q]
  rw [if_neg h7] at hx
  by_cases h8 : isF op = true
  · rw [if_pos h8] at hx
    by_cases hl : st.length < 31
    · rw [if_pos hl] at hx
      cases hx
      have h8' := of_decide_eq_true h8
      have key : ¬ (2000 : Int32) ≤ op ∧ ¬ (1027 : Int32) ≤ op ∧ pn_ib (op - 1000) 27 = true ∧ (op - 1000).toNatClampNeg < 27 := by
        rcases h8' with e | e | e | e | e | e | e | e | e | e <;> rw [e] <;> decide
      rw [if_pos (by have := key.1; rw [q_le] at this; rw [q_lt]; omega), if_neg key.2.1, if_pos key.2.2.1]
      unfold fX2_holds_146
      obtain ⟨σ', g1, g2, g3⟩ := SC_push hs hl (F (op - 1000).toNatClampNeg)
      rw [hF op h8, g1, nI_1]
      exact ⟨σ', rfl, g2, g3⟩
    · rw [if_neg hl] at hx; cases hx
  · rw [if_neg h8] at hx; cases hx
