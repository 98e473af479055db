/-! PURE: a crowd gathers; the class -/
/-- those of abs, below k, who need no more than are there -/
def wil (nd : Nat → Int32) (abs th : Int32) (k : Nat) : Int32 := fo (fun p acc => if bt abs p = true ∧ ¬ nI (pc th) < nd p then acc ||| bs p else acc) 0 k 0
theorem wil_bt (nd : Nat → Int32) (abs th : Int32) : ∀ k, k ≤ 8 → ∀ i, i < 32 → bt (wil nd abs th k) i = (decide (i < k) && (bt abs i && decide (¬ nI (pc th) < nd i))) := by
  intro k
  induction k with
  | zero => intro _ i _; rw [show wil nd abs th 0 = 0 from rfl, b_0]; simp
  | succ k ih =>
    intro hk i hi
    have e : wil nd abs th (k + 1) = if bt abs k = true ∧ ¬ nI (pc th) < nd k then wil nd abs th k ||| bs k else wil nd abs th k := by
      unfold wil
      rw [fo_last, Nat.zero_add]
    rw [e]
    by_cases hc : bt abs k = true ∧ ¬ nI (pc th) < nd k
    · rw [if_pos hc, b_or, ih (by omega) i hi, bt_bs (by omega) hi]
      by_cases h1 : i = k
      · subst h1
        simp [hc.1, hc.2]
      · have : decide (i < k + 1) = decide (i < k) := by simp; omega
        rw [this, decide_eq_false h1, Bool.or_false]
    · rw [if_neg hc, ih (by omega) i hi]
      by_cases h1 : i = k
      · subst h1
        have : (bt abs i && decide (¬ nI (pc th) < nd i)) = false := by
          cases hb : bt abs i with
          | false => rfl
          | true =>
            have : ¬ ¬ nI (pc th) < nd i := fun q => hc ⟨hb, q⟩
            rw [decide_eq_false this]; rfl
        rw [this, Bool.and_false, Bool.and_false]
      · have : decide (i < k + 1) = decide (i < k) := by simp; omega
        rw [this]
theorem wil_8 {nd : Nat → Int32} {abs th : Int32} {n : Nat} (hn : n ≤ 8) (h : ∀ p, n ≤ p → p < 8 → bt abs p = false) : wil nd abs th n = wil nd abs th 8 := by
  refine b_ext fun i hi => ?_
  rw [wil_bt nd abs th n hn i hi, wil_bt nd abs th 8 (by omega) i hi]
  by_cases h1 : i < n
  · rw [decide_eq_true h1, decide_eq_true (show i < 8 by omega)]
  · rw [decide_eq_false h1]
    by_cases h2 : i < 8
    · rw [h i (by omega) h2]; simp
    · rw [decide_eq_false h2]
theorem wil_s8 (nd : Nat → Int32) (abs th : Int32) : s8 (wil nd abs th 8) := fun i hi => by
  rcases Nat.lt_or_ge i 32 with q | q
  · rw [wil_bt nd abs th 8 (by omega) i q, decide_eq_false (by omega)]; rfl
  · exact b_big q
theorem wil_c {nd nd' : Nat → Int32} {abs th : Int32} (h : ∀ p, p < 8 → bt abs p = true → nd p = nd' p) : wil nd abs th 8 = wil nd' abs th 8 := by
  refine fo_congr 8 0 0 fun q _ hq b => ?_
  by_cases hb : bt abs q = true
  · rw [h q (by omega) hb]
  · rw [if_neg (fun z => hb z.1), if_neg (fun z => hb z.1)]
/-- round after round: who is there, when each came, the last round -/
def gat (nd : Nat → Int32) (cand : Int32) : Nat → Nat → Int32 → (Nat → Int32) → Int32 → Int32 × (Nat → Int32) × Int32
  | 0, _, th, rd, la => (th, rd, la)
  | k + 1, r, th, rd, la => if wil nd (cand &&& (th ^^^ (-1))) th 8 = 0 then (th, rd, la) else gat nd cand k (r + 1) (th ||| wil nd (cand &&& (th ^^^ (-1))) th 8) (fun p => if bt (wil nd (cand &&& (th ^^^ (-1))) th 8) p = true then nI r else rd p) (nI r)
def crw (nd : Nat → Int32) (cand beg : Int32) : Int32 × (Nat → Int32) × Int32 := gat nd cand 8 1 (beg &&& cand) (fun p => if bt (beg &&& cand) p = true then 0 else -1) 0
theorem gat_c {nd nd' : Nat → Int32} {cand : Int32} (h : ∀ p, p < 8 → bt cand p = true → nd p = nd' p) : ∀ (k r : Nat) (th : Int32) (rd : Nat → Int32) (la : Int32), gat nd cand k r th rd la = gat nd' cand k r th rd la := by
  intro k
  induction k with
  | zero => intro _ _ _ _; rfl
  | succ k ih =>
    intro r th rd la
    have e : wil nd (cand &&& (th ^^^ (-1))) th 8 = wil nd' (cand &&& (th ^^^ (-1))) th 8 := wil_c fun p hp hb => h p hp (by rw [b_and] at hb; exact (Bool.and_eq_true_iff.mp hb).1)
    unfold gat
    rw [e, ih]
theorem crw_c {nd nd' : Nat → Int32} {cand beg : Int32} (h : ∀ p, p < 8 → bt cand p = true → nd p = nd' p) : crw nd cand beg = crw nd' cand beg := gat_c h _ _ _ _ _
/-- who came is among those who may -/
theorem gat_in {nd : Nat → Int32} {cand : Int32} : ∀ (k r : Nat) (th : Int32) (rd : Nat → Int32) (la : Int32), (∀ p, p < 32 → bt th p = true → bt cand p = true) → ∀ p, p < 32 → bt (gat nd cand k r th rd la).1 p = true → bt cand p = true := by
  intro k
  induction k with
  | zero => intro r th rd la h; exact h
  | succ k ih =>
    intro r th rd la h
    unfold gat
    by_cases hz : wil nd (cand &&& (th ^^^ (-1))) th 8 = 0
    · rw [if_pos hz]; exact h
    · rw [if_neg hz]
      refine ih _ _ _ _ fun p hp hb => ?_
      rw [b_or] at hb
      rcases Bool.or_eq_true_iff.mp hb with q | q
      · exact h p hp q
      · rw [wil_bt _ _ _ 8 (by omega) p hp, b_and] at q
        simp only [Bool.and_eq_true] at q
        exact q.2.1.1
theorem crw_in {nd : Nat → Int32} {cand beg : Int32} {p : Nat} (hp : p < 32) (h : bt (crw nd cand beg).1 p = true) : bt cand p = true :=
  gat_in _ _ _ _ _ (fun q _ hb => by rw [b_and] at hb; exact (Bool.and_eq_true_iff.mp hb).2) p hp h
theorem crw_s8 {nd : Nat → Int32} {cand beg : Int32} (h : s8 cand) : s8 (crw nd cand beg).1 := fun i hi => by
  rcases Nat.lt_or_ge i 32 with q | q
  · cases hb : bt (crw nd cand beg).1 i with
    | false => rfl
    | true => rw [← crw_in q hb]; exact (h i hi)
  · exact b_big q
theorem fo_sum (g : Nat → Int32) : ∀ (k p : Nat) (a : Int32), fo (fun q acc => acc + g q) p k a = a + fo (fun q acc => acc + g q) p k 0 := by
  intro k
  induction k with
  | zero => intro p a; show a = a + 0; rw [Int32.add_zero]
  | succ k ih =>
    intro p a
    show fo _ (p + 1) k (a + g p) = a + fo _ (p + 1) k (0 + g p)
    rw [ih, ih (p + 1) (0 + g p)]
    grind
theorem fo_ite (c : Nat → Bool) (g : Nat → Int32) (k p : Nat) (a : Int32) : fo (fun q acc => if c q = true then acc + g q else acc) p k a = fo (fun q acc => acc + (if c q = true then g q else 0)) p k a :=
  fo_congr k p a fun q _ _ b => by
    by_cases h : c q = true
    · rw [if_pos h, if_pos h]
    · rw [if_neg h, if_neg h, Int32.add_zero]
def S37 (i : Nat) : Prop := i = 37 ∨ i = 40
theorem c_admit_loop {x r : Int32} : ∀ (k p f : Nat) (σ : pn_S), p + k = 8 → k < f → ∃ σ', fX0_admit_30 f x r (nI p) σ = some σ' ∧ σ' 37 6 = fo (fun q acc => if bt x q = true then acc + σ 39 q else acc) p k (σ 37 6) ∧ (∀ j, σ' 40 j = if p ≤ j ∧ j < 8 ∧ bt x j = true then r else σ 40 j) ∧ (∀ j, j ≠ 6 → σ' 37 j = σ 37 j) ∧ Fr S37 σ σ' := by
  intro k
  induction k with
  | zero =>
    intro p f σ hp hf
    match f, hf with
    | f + 1, _ =>
      refine ⟨σ, ?_, rfl, fun j => ?_, fun _ _ => rfl, Fr.rf⟩
      · rw [fX0_admit_30, if_pos (show (8 : Int32) ≤ nI p from nI_le (a := 8) (by omega) (by omega))]
      · rw [if_neg (by omega)]
  | succ k ih =>
    intro p f σ hp hf
    match f, hf with
    | f + 1, hf =>
      rw [fX0_admit_30, if_neg (show ¬ (8 : Int32) ≤ nI p from nI_ge (b := 8) (by omega) (by omega)), c_hasBit (by omega)]
      show ∃ σ', (if (if bt x p = true then (1 : Int32) else 0) = 0 then _ else _) = some σ' ∧ _
      by_cases hb : bt x p = true
      · rw [if_pos hb, if_neg (by decide), q_ib (by omega) (by omega), if_pos rfl, if_pos rfl, nI_clamp (by omega), nI_1]
        generalize hσ1 : pn_up (pn_up σ 40 p r) 37 6 ((pn_up σ 40 p r) 37 6 + (pn_up σ 40 p r) 39 p) = σ1
        have a6 : σ1 37 6 = σ 37 6 + σ 39 p := by rw [← hσ1, pn_up_s]; rfl
        have a40 : ∀ j, σ1 40 j = if j = p then r else σ 40 j := fun j => by rw [← hσ1, pn_up_a _ _ _ _ (by omega)]; rfl
        have a37 : ∀ j, j ≠ 6 → σ1 37 j = σ 37 j := fun j hj => by rw [← hσ1, pn_up_k _ _ _ _ hj]; rfl
        have af : Fr S37 σ σ1 := by rw [← hσ1]; exact (Fr.rf.up (Or.inr rfl)).up (Or.inl rfl)
        obtain ⟨σ', g1, g2, g3, g4, g5⟩ := ih (p + 1) f σ1 (by omega) (by omega)
        refine ⟨σ', g1, ?_, fun j => ?_, fun j hj => (g4 j hj).trans (a37 j hj), af.tr g5⟩
        · rw [g2, a6, af 39 (by unfold S37; omega)]
          show _ = fo _ (p + 1) k (if bt x p = true then σ 37 6 + σ 39 p else σ 37 6)
          rw [if_pos hb]
        · rw [g3, a40]
          by_cases hj : j = p
          · subst hj; rw [if_neg (by omega), if_pos rfl, if_pos ⟨Nat.le_refl _, by omega, hb⟩]
          · rw [if_neg hj]
            by_cases hc : p + 1 ≤ j ∧ j < 8 ∧ bt x j = true
            · rw [if_pos hc, if_pos ⟨by omega, hc.2⟩]
            · rw [if_neg hc, if_neg (fun q => hc ⟨by omega, q.2⟩)]
      · rw [if_neg hb, if_pos rfl, nI_1]
        obtain ⟨σ', g1, g2, g3, g4, g5⟩ := ih (p + 1) f σ (by omega) (by omega)
        refine ⟨σ', g1, ?_, fun j => ?_, g4, g5⟩
        · rw [g2]
          show _ = fo _ (p + 1) k (if bt x p = true then σ 37 6 + σ 39 p else σ 37 6)
          rw [if_neg hb]
        · rw [g3]
          by_cases hc : p + 1 ≤ j ∧ j < 8 ∧ bt x j = true
          · rw [if_pos hc, if_pos ⟨by omega, hc.2⟩]
          · rw [if_neg hc, if_neg (fun q => hc ⟨by
              have : j ≠ p := fun e => hb (by rw [← e]; exact q.2.2)
              omega, q.2⟩)]
theorem c_admit {σ : pn_S} {x r : Int32} (hx : s8 x) : ∃ σ', fX0_admit x r σ = some σ' ∧ σ' 37 3 = σ 37 3 ∧ σ' 37 4 = σ 37 4 ||| x ∧ σ' 37 5 = σ 37 5 + nI (pc x) ∧ σ' 37 6 = σ 37 6 + nz (σ 39) x ∧ σ' 37 7 = r ∧ (∀ j, j < 8 → σ' 40 j = if bt x j = true then r else σ 40 j) ∧ Fr S37 σ σ' := by
  unfold fX0_admit
  rw [j_bc hx, Option.bind_some]
  generalize hσ1 : pn_up (pn_up (pn_up σ 37 7 r) 37 4 ((pn_up σ 37 7 r) 37 4 ||| x)) 37 5 ((pn_up (pn_up σ 37 7 r) 37 4 ((pn_up σ 37 7 r) 37 4 ||| x)) 37 5 + nI (pc x)) = σ1
  obtain ⟨σ', g1, g2, g3, g4, g5⟩ := c_admit_loop (x := x) (r := r) 8 0 5000 σ1 (by omega) (by omega)
  have af : Fr S37 σ σ1 := by rw [← hσ1]; exact ((Fr.rf.up (Or.inl rfl)).up (Or.inl rfl)).up (Or.inl rfl)
  refine ⟨σ', g1, ?_, ?_, ?_, ?_, ?_, fun j hj => ?_, af.tr g5⟩
  · rw [g4 3 (by omega), ← hσ1]; rfl
  · rw [g4 4 (by omega), ← hσ1]; rfl
  · rw [g4 5 (by omega), ← hσ1]; rfl
  · rw [g2, fo_ite, fo_sum]
    have e6 : σ1 37 6 = σ 37 6 := by rw [← hσ1]; rfl
    have e39 : σ1 39 = σ 39 := by rw [← hσ1]; rfl
    rw [e6, e39]
    rfl
  · rw [g4 7 (by omega), ← hσ1]; rfl
  · rw [g3]
    have e40 : σ1 40 j = σ 40 j := by rw [← hσ1]; rfl
    rw [e40]
    by_cases hb : bt x j = true
    · rw [if_pos hb, if_pos ⟨by omega, hj, hb⟩]
    · rw [if_neg hb, if_neg (fun q => hb q.2.2)]
theorem c_willing_loop {σ : pn_S} {abs th : Int32} (h5 : σ 37 5 = nI (pc th)) : ∀ (k p f : Nat) (acc : Int32), p + k = 8 → k < f → fX0_willing_4 f abs acc (nI p) σ = some (fo (fun p acc => if bt abs p = true ∧ ¬ nI (pc th) < σ 38 p then acc ||| bs p else acc) p k acc) := by
  intro k
  induction k with
  | zero =>
    intro p f acc hp hf
    match f, hf with
    | f + 1, _ => rw [fX0_willing_4, if_pos (show (8 : Int32) ≤ nI p from nI_le (a := 8) (by omega) (by omega))]; rfl
  | succ k ih =>
    intro p f acc hp hf
    match f, hf with
    | f + 1, hf =>
      rw [fX0_willing_4, if_neg (show ¬ (8 : Int32) ≤ nI p from nI_ge (b := 8) (by omega) (by omega)), c_hasBit (by omega)]
      show (if (if bt abs p = true then (1 : Int32) else 0) = 0 then _ else _) = some (fo _ (p + 1) k (if bt abs p = true ∧ ¬ nI (pc th) < σ 38 p then acc ||| bs p else acc))
      by_cases hb : bt abs p = true
      · rw [if_pos hb, if_neg (by decide), q_ib (by omega) (by omega), if_pos rfl, nI_clamp (by omega), nI_1, h5]
        by_cases hc : nI (pc th) < σ 38 p
        · rw [if_pos hc, if_neg (fun q => q.2 hc), ih (p + 1) f _ (by omega) (by omega)]
        · rw [if_neg hc, if_pos ⟨hb, hc⟩, ih (p + 1) f _ (by omega) (by omega)]
          rfl
      · rw [if_neg hb, if_pos rfl, nI_1, if_neg (fun q => hb q.1), ih (p + 1) f _ (by omega) (by omega)]
theorem c_willing {σ : pn_S} {abs th : Int32} (h5 : σ 37 5 = nI (pc th)) : fX0_willing abs σ = some (wil (σ 38) abs th 8) := c_willing_loop h5 8 0 5000 0 (by omega) (by omega)
/-- what the class's crowd knows of a crowd c of which each has f pans -/
def CC (σ : pn_S) (f : Nat → Int32) (c : Int32 × (Nat → Int32) × Int32) : Prop := σ 37 4 = c.1 ∧ σ 37 5 = nI (pc c.1) ∧ σ 37 6 = nz f c.1 ∧ σ 37 7 = c.2.2 ∧ ∀ p, p < 8 → σ 40 p = c.2.1 p
theorem c_gat_loop {cand : Int32} (hc : s8 cand) : ∀ (k r f : Nat) (σ : pn_S) (th : Int32) (rd : Nat → Int32) (la : Int32), r + k = 9 → k < f → (∀ p, p < 32 → bt th p = true → bt cand p = true) → CC σ (σ 39) (th, rd, la) → ∃ σ', fX0_gather_43 f cand (nI r) σ = some σ' ∧ CC σ' (σ 39) (gat (σ 38) cand k r th rd la) ∧ σ' 37 3 = σ 37 3 ∧ Fr S37 σ σ' := by
  intro k
  induction k with
  | zero =>
    intro r f σ th rd la hr hf hin hC
    match f, hf with
    | f + 1, _ => exact ⟨σ, by rw [fX0_gather_43, if_pos (show (8 : Int32) < nI r from nI_lt (a := 8) (by omega) (by omega))], hC, rfl, Fr.rf⟩
  | succ k ih =>
    intro r f σ th rd la hr hf hin hC
    match f, hf with
    | f + 1, hf =>
      obtain ⟨c4, c5, c6, c7, c8⟩ := hC
      have c4 : σ 37 4 = th := c4
      rw [fX0_gather_43, if_neg (show ¬ (8 : Int32) < nI r from nI_nlt (a := 8) (b := r) (by omega) (by omega)), c4, c_willing (th := th) c5, Option.bind_some, gat]
      by_cases hz : wil (σ 38) (cand &&& (th ^^^ (-1))) th 8 = 0
      · rw [if_pos hz, if_pos hz]
        exact ⟨σ, rfl, ⟨c4, c5, c6, c7, c8⟩, rfl, Fr.rf⟩
      · rw [if_neg hz, if_neg hz]
        generalize hm : wil (σ 38) (cand &&& (th ^^^ (-1))) th 8 = m at hz ⊢
        have hm8 : s8 m := by rw [← hm]; exact wil_s8 _ _ _
        have hmb : ∀ p, p < 32 → bt m p = true → bt cand p = true ∧ bt th p = false := fun p hp hb => by
          rw [← hm, wil_bt _ _ _ 8 (by omega) p hp, b_and, b_not hp] at hb
          simp only [Bool.and_eq_true] at hb
          exact ⟨hb.2.1.1, by simpa using hb.2.1.2⟩
        obtain ⟨σ1, g1, g2, g3, g4, g5, g6, g7, g8⟩ := c_admit (σ := σ) (x := m) (r := nI r) hm8
        rw [g1, Option.bind_some]
        have dis : ∀ p, p < 8 → (bt th p && bt m p) = false := fun p hp => by
          cases h2 : bt m p with
          | false => rw [Bool.and_false]
          | true => rw [(hmb p (by omega) h2).2]; rfl
        have e38 : σ1 38 = σ 38 := g8 38 (by unfold S37; omega)
        have e39 : σ1 39 = σ 39 := g8 39 (by unfold S37; omega)
        obtain ⟨σ', k1, k2, k3, k4⟩ := ih (r + 1) f σ1 (th ||| m) (fun p => if bt m p = true then nI r else rd p) (nI r) (by omega) (by omega) (fun p hp hb => by
          rw [b_or] at hb
          rcases Bool.or_eq_true_iff.mp hb with q | q
          · exact hin p hp q
          · exact (hmb p hp q).1) ⟨by rw [g3, c4], by rw [g4, c5, nI_add, pc_or dis], by rw [g5, c6, e39, nz_or dis], g6, fun p hp => by
            rw [g7 p hp]
            by_cases hb : bt m p = true
            · rw [if_pos hb]; show _ = if bt m p = true then nI r else rd p; rw [if_pos hb]
            · rw [if_neg hb, c8 p hp]; show _ = if bt m p = true then nI r else rd p; rw [if_neg hb]⟩
        rw [e38, e39] at k2
        refine ⟨σ', ?_, k2, k3.trans g2, g8.tr k4⟩
        rw [nI_1]; exact k1
theorem j_fill {r n : Nat} {x : Int32} (hn : n < 4000) : ∀ (k p f : Nat) (σ : pn_S), p + k = n → k < f → fJ7_fill_53178_5 r n f x (nI p) (nI n) σ = some (pn_ua σ r (fun j => if p ≤ j ∧ j < n then x else σ r j)) := by
  intro k
  induction k with
  | zero =>
    intro p f σ hp hf
    match f, hf with
    | f + 1, _ =>
      rw [fJ7_fill_53178_5, if_pos (nI_le (by omega) (by omega))]
      refine congrArg some ?_
      funext a j
      by_cases h : a = r
      · subst h; rw [pn_ua_s, if_neg (by omega)]
      · rw [pn_ua_a _ _ _ h]
  | succ k ih =>
    intro p f σ hp hf
    match f, hf with
    | f + 1, hf =>
      rw [fJ7_fill_53178_5, if_neg (nI_ge (by omega) (by omega)), q_ib (by omega) (by omega), if_pos rfl, nI_clamp (by omega), nI_1, ih (p + 1) f _ (by omega) (by omega)]
      refine congrArg some ?_
      funext a j
      by_cases h : a = r
      · subst h
        rw [pn_ua_s, pn_ua_s]
        by_cases hj : j = p
        · subst hj; rw [if_neg (by omega), pn_up_s, if_pos (by omega)]
        · rw [pn_up_k _ _ _ _ hj]
          by_cases hc : p + 1 ≤ j ∧ j < n
          · rw [if_pos hc, if_pos (by omega)]
          · rw [if_neg hc, if_neg (by omega)]
      · rw [pn_ua_a _ _ _ h, pn_ua_a _ _ _ h, pn_up_a _ _ _ _ h]
theorem c_gather {σ : pn_S} {beg home : Int32} (ho : s8 (σ 37 3)) : ∃ σ', fX0_gather beg home σ = some σ' ∧ CC σ' (σ 39) (crw (σ 38) (σ 37 3 &&& (home ^^^ (-1))) beg) ∧ σ' 37 3 = σ 37 3 ∧ Fr S37 σ σ' := by
  unfold fX0_gather
  have hf : fJ7_fill_53178 40 8 (-1) σ = some (pn_ua σ 40 (fun j => if 0 ≤ j ∧ j < 8 then -1 else σ 40 j)) := j_fill (by omega) 8 0 5000 σ (by omega) (by omega)
  rw [hf, Option.bind_some]
  generalize hσ1 : pn_up (pn_up (pn_up (pn_ua σ 40 (fun j => if 0 ≤ j ∧ j < 8 then -1 else σ 40 j)) 37 4 0) 37 5 0) 37 6 0 = σ1
  have e3 : σ1 37 3 = σ 37 3 := by rw [← hσ1]; rfl
  have e38 : σ1 38 = σ 38 := by rw [← hσ1]; rfl
  have e39 : σ1 39 = σ 39 := by rw [← hσ1]; rfl
  have f1 : Fr S37 σ σ1 := by rw [← hσ1]; exact (((Fr.rf.ua (Or.inr rfl)).up (Or.inl rfl)).up (Or.inl rfl)).up (Or.inl rfl)
  rw [e3]
  generalize hcd : σ 37 3 &&& (home ^^^ (-1)) = cand
  have hc8 : s8 cand := by rw [← hcd]; exact s8_and ho
  unfold fX0_gather_32
  obtain ⟨σ2, g1, g2, g3, g4, g5, g6, g7, g8⟩ := c_admit (σ := σ1) (x := beg &&& cand) (r := 0) (s8_and' hc8)
  rw [g1, Option.bind_some]
  have z4 : σ1 37 4 = 0 := by rw [← hσ1]; rfl
  have z5 : σ1 37 5 = 0 := by rw [← hσ1]; rfl
  have z6 : σ1 37 6 = 0 := by rw [← hσ1]; rfl
  have z40 : ∀ j, j < 8 → σ1 40 j = -1 := fun j hj => by
    rw [← hσ1]
    show (if 0 ≤ j ∧ j < 8 then (-1 : Int32) else σ 40 j) = -1
    rw [if_pos ⟨by omega, hj⟩]
  obtain ⟨σ', k1, k2, k3, k4⟩ := c_gat_loop hc8 8 1 5000 σ2 (beg &&& cand) (fun p => if bt (beg &&& cand) p = true then 0 else -1) 0 (by omega) (by omega) (fun p hp hb => by rw [b_and] at hb; exact (Bool.and_eq_true_iff.mp hb).2) ⟨by
    rw [g3, z4]
    show 0 ||| (beg &&& cand) = beg &&& cand
    exact b_ext fun i hi => by rw [b_or, b_0, Bool.false_or], by
    rw [g4, z5]
    show 0 + nI _ = nI _
    rw [Int32.zero_add], by
    rw [g5, z6, g8 39 (by unfold S37; omega)]
    show 0 + _ = _
    rw [Int32.zero_add], g6, fun p hp => by
    rw [g7 p hp, z40 p hp]⟩
  rw [g8 38 (by unfold S37; omega), g8 39 (by unfold S37; omega), e38, e39] at k2
  exact ⟨σ', k1, k2, (k3.trans g2).trans e3, (f1.tr g8).tr k4⟩
