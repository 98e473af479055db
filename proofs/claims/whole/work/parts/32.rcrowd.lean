/-! PURE: a crowd gathers; the reference -/
/-- the same but for the reference's scratch of crowds -/
def FrR (σ σ' : pn_S) : Prop := (∀ i, i ≠ 85 → i ≠ 93 → i ≠ 94 → i ≠ 95 → σ' i = σ i) ∧ ∀ k, k ≠ 20 → σ' 85 k = σ 85 k
theorem FrR.rf {σ : pn_S} : FrR σ σ := ⟨fun _ _ _ _ _ => rfl, fun _ _ => rfl⟩
theorem FrR.tr {a b c : pn_S} (h : FrR a b) (h2 : FrR b c) : FrR a c := ⟨fun i h3 h4 h5 h6 => (h2.1 i h3 h4 h5 h6).trans (h.1 i h3 h4 h5 h6), fun k h3 => (h2.2 k h3).trans (h.2 k h3)⟩
theorem FrR.w {a b : pn_S} (h : FrR a b) : b 86 = a 86 := h.1 86 (by omega) (by omega) (by omega) (by omega)
theorem FrR_ua {a : pn_S} {i : Nat} {f : Nat → Int32} (hi : i = 93 ∨ i = 94 ∨ i = 95) : FrR a (pn_ua a i f) := ⟨fun j h1 h2 h3 h4 => pn_ua_a _ _ _ (by omega), fun k _ => by rw [pn_ua_a _ _ _ (by omega)]⟩
theorem FrR_up {a : pn_S} {i k : Nat} {x : Int32} (hi : i = 93 ∨ i = 94 ∨ i = 95) : FrR a (pn_up a i k x) := ⟨fun j h1 h2 h3 h4 => pn_up_a _ _ _ _ (by omega), fun k _ => by rw [pn_up_a _ _ _ _ (by omega)]⟩
theorem FrR_20 {a : pn_S} {x : Int32} : FrR a (pn_up a 85 20 x) := ⟨fun j h1 _ _ _ => pn_up_a _ _ _ _ h1, fun k hk => pn_up_k _ _ _ _ hk⟩
theorem ua_self (σ : pn_S) (a : Nat) : pn_ua σ a (σ a) = σ := by
  funext b
  by_cases h : b = a
  · subst h; rw [pn_ua_s]
  · rw [pn_ua_a _ _ _ h]
theorem r_needs' {σ : pn_S} {p t : Nat} {h0 : Bool} {Λ : pn_La} (hw : VW (σ 86)) (hp : p < vn (σ 86)) (ht : t < vn (σ 86)) (hR : RLa (σ 86) h0 Λ) (hL : LW Λ) : ∃ row', fX11_needsOf (nI p) (nI t) σ = some (needs (σ 86) Λ t p, pn_ua σ 93 row') := by
  have := r_needs hw hp ht hR hL (σ 93)
  rwa [ua_self] at this
theorem r_pans' {σ : pn_S} {p t : Nat} {h0 : Bool} {Λ : pn_La} (hw : VW (σ 86)) (hp : p < vn (σ 86)) (ht : t < vn (σ 86)) (hR : RLa (σ 86) h0 Λ) (hL : LW Λ) : ∃ row', fX11_pansOf (nI p) (nI t) σ = some (pans (σ 86) Λ t p, pn_ua σ 93 row') := by
  have := r_pans hw hp ht hR hL (σ 93)
  rwa [ua_self] at this
theorem r_people {σ : pn_S} (hw : VW (σ 86)) : fX11_people σ = some (nI (vn (σ 86))) := by
  unfold fX11_people
  rw [hw.n.1]
theorem r_lays_loop {W : pn_V} {t : Nat} {h0 : Bool} {Λ : pn_La} (hw : VW W) (ht : t < vn W) (hR : RLa W h0 Λ) (hL : LW Λ) : ∀ (k p f : Nat) (σ : pn_S), p + k = vn W → k < f → σ 86 = W → (∀ q, q < p → σ 94 q = needs W Λ t q) → ∃ σ', fX11_laysNeeds_2 f (nI t) (nI p) σ = some σ' ∧ (∀ q, q < vn W → σ' 94 q = needs W Λ t q) ∧ FrR σ σ' := by
  have hn := hw.n.2
  intro k
  induction k with
  | zero =>
    intro p f σ hp hf hW hq
    subst hW
    match f, hf with
    | f + 1, _ => exact ⟨σ, by rw [fX11_laysNeeds_2, r_people hw, Option.bind_some, if_pos (nI_le (by omega) (by omega))], fun q h => hq q (by omega), FrR.rf⟩
  | succ k ih =>
    intro p f σ hp hf hW hq
    subst hW
    match f, hf with
    | f + 1, hf =>
      rw [fX11_laysNeeds_2, r_people hw, Option.bind_some, if_neg (nI_ge (by omega) (by omega))]
      obtain ⟨row, g1⟩ := r_needs' hw (p := p) (by omega) ht hR hL
      rw [g1]
      show ∃ σ', (if pn_ib (nI p) 8 = true then _ else _) = some σ' ∧ _
      rw [q_ib (by omega) (by omega), if_pos rfl, nI_clamp (by omega), nI_1]
      have f1 : FrR σ (pn_up (pn_ua σ 93 row) 94 p (needs (σ 86) Λ t p)) := (FrR_ua (Or.inl rfl)).tr (FrR_up (Or.inr (Or.inl rfl)))
      obtain ⟨σ', k1, k2, k3⟩ := ih (p + 1) f (pn_up (pn_ua σ 93 row) 94 p (needs (σ 86) Λ t p)) (by omega) (by omega) f1.w (fun q h => by
        by_cases hqp : q = p
        · subst hqp; rw [pn_up_s]
        · rw [pn_up_k _ _ _ _ hqp, pn_ua_a _ _ _ (by omega)]; exact hq q (by omega))
      exact ⟨σ', k1, k2, f1.tr k3⟩
theorem r_lays {σ : pn_S} {t : Nat} {h0 : Bool} {Λ : pn_La} (hw : VW (σ 86)) (ht : t < vn (σ 86)) (hR : RLa (σ 86) h0 Λ) (hL : LW Λ) : ∃ σ', fX11_laysNeeds (nI t) σ = some σ' ∧ (∀ q, q < vn (σ 86) → σ' 94 q = needs (σ 86) Λ t q) ∧ FrR σ σ' := by
  have hn := hw.n.2
  exact r_lays_loop hw ht hR hL (vn (σ 86)) 0 5000 σ (by omega) (by omega) rfl (fun q h => by omega)
theorem r_beg_loop {σ : pn_S} (hw : VW (σ 86)) : ∀ (k fuel p : Nat) (acc : Int32), p + k = vn (σ 86) → k < fuel → fX11_beginners_4 fuel acc (nI p) σ = some (fo (fun p acc => acc ||| (tr (σ 86) p 7 <<< (nI p &&& 31))) p k acc) := by
  have hn := hw.n
  intro k
  induction k with
  | zero =>
    intro fuel p acc hp hf
    match fuel, hf with
    | f + 1, _ => rw [fX11_beginners_4, r_people hw, Option.bind_some, if_pos (nI_le (by omega) (by omega))]; rfl
  | succ k ih =>
    intro fuel p acc hp hf
    match fuel, hf with
    | f + 1, hf =>
      rw [fX11_beginners_4, r_people hw, Option.bind_some, if_neg (nI_ge (by omega) (by omega)), q_lit 7, r_of hw (by omega) (by omega), Option.bind_some, nI_1, ih f (p + 1) _ (by omega) (by omega)]
      rfl
theorem r_beg {σ : pn_S} (hw : VW (σ 86)) : fX11_beginners σ = some (vbeg (σ 86)) := by
  have := hw.n.2
  exact r_beg_loop hw (vn (σ 86)) 5000 0 0 (by omega) (by omega)
theorem r_pur_loop {σ : pn_S} (hw : VW (σ 86)) : ∀ (k fuel p : Nat) (acc : Int32), p + k = vn (σ 86) → k < fuel → fX11_pursesOfAll_4 fuel acc (nI p) σ = some (fo (fun p acc => acc + tr (σ 86) p 3) p k acc) := by
  have hn := hw.n
  intro k
  induction k with
  | zero =>
    intro fuel p acc hp hf
    match fuel, hf with
    | f + 1, _ => rw [fX11_pursesOfAll_4, r_people hw, Option.bind_some, if_pos (nI_le (by omega) (by omega))]; rfl
  | succ k ih =>
    intro fuel p acc hp hf
    match fuel, hf with
    | f + 1, hf =>
      rw [fX11_pursesOfAll_4, r_people hw, Option.bind_some, if_neg (nI_ge (by omega) (by omega)), q_lit 3, r_of hw (by omega) (by omega), Option.bind_some, nI_1, ih f (p + 1) _ (by omega) (by omega)]
      rfl
theorem r_pur {σ : pn_S} (hw : VW (σ 86)) : fX11_pursesOfAll σ = some (vpur (σ 86)) := by
  have := hw.n.2
  exact r_pur_loop hw (vn (σ 86)) 5000 0 0 (by omega) (by omega)
/-- the reference's noise of a set -/
theorem r_noise_loop {W : pn_V} {t : Nat} {h0 : Bool} {Λ : pn_La} {x : Int32} (hw : VW W) (ht : t < vn W) (hR : RLa W h0 Λ) (hL : LW Λ) : ∀ (k p f : Nat) (σ : pn_S) (acc : Int32), p + k = vn W → k < f → σ 86 = W → ∃ σ', fX11_noiseOf_5 f x (nI t) acc (nI p) σ = some (fo (fun q acc => if bt x q = true then acc + pans W Λ t q else acc) p k acc, σ') ∧ FrR σ σ' ∧ σ' 94 = σ 94 ∧ σ' 95 = σ 95 ∧ σ' 85 = σ 85 := by
  have hn := hw.n.2
  intro k
  induction k with
  | zero =>
    intro p f σ acc hp hf hW
    subst hW
    match f, hf with
    | f + 1, _ => exact ⟨σ, by rw [fX11_noiseOf_5, r_people hw, Option.bind_some, if_pos (nI_le (by omega) (by omega))]; rfl, FrR.rf, rfl, rfl, rfl⟩
  | succ k ih =>
    intro p f σ acc hp hf hW
    subst hW
    match f, hf with
    | f + 1, hf =>
      rw [fX11_noiseOf_5, r_people hw, Option.bind_some, if_neg (nI_ge (by omega) (by omega)), r_has (by omega), Option.bind_some, fo]
      by_cases hb : bt x p = true
      · rw [if_pos hb, if_pos hb, if_neg (by decide)]
        obtain ⟨row, g1⟩ := r_pans' hw (p := p) (by omega) ht hR hL
        rw [g1]
        show ∃ σ', fX11_noiseOf_5 f x (nI t) (acc + pans (σ 86) Λ t p) (nI p + 1) (pn_ua σ 93 row) = _ ∧ _
        rw [nI_1]
        obtain ⟨σ', k1, k2, k3, k4, k5⟩ := ih (p + 1) f (pn_ua σ 93 row) (acc + pans (σ 86) Λ t p) (by omega) (by omega) rfl
        exact ⟨σ', k1, (FrR_ua (Or.inl rfl)).tr k2, k3, k4, k5⟩
      · rw [if_neg hb, if_neg hb, if_pos rfl, Int32.add_zero, nI_1]
        exact ih (p + 1) f σ acc (by omega) (by omega) rfl
theorem r_noise {σ : pn_S} {t : Nat} {h0 : Bool} {Λ : pn_La} {x : Int32} (hw : VW (σ 86)) (ht : t < vn (σ 86)) (hR : RLa (σ 86) h0 Λ) (hL : LW Λ) (hx : ∀ p, vn (σ 86) ≤ p → p < 8 → bt x p = false) : ∃ σ', fX11_noiseOf x (nI t) σ = some (nz (pans (σ 86) Λ t) x, σ') ∧ FrR σ σ' ∧ σ' 94 = σ 94 ∧ σ' 95 = σ 95 ∧ σ' 85 = σ 85 := by
  have hn := hw.n.2
  obtain ⟨σ', g1, g2⟩ := r_noise_loop (x := x) hw ht hR hL (vn (σ 86)) 0 5000 σ 0 (by omega) (by omega) rfl
  refine ⟨σ', ?_, g2⟩
  have e : nz (pans (σ 86) Λ t) x = fo (fun q acc => if bt x q = true then acc + pans (σ 86) Λ t q else acc) 0 (vn (σ 86)) 0 := by
    unfold nz
    rw [sm_more _ hn (fun p h1 h2 => if_neg (by rw [hx p h1 h2]; decide)), fo_ite]
    rfl
  rw [e]
  exact g1
/-- who comes more -/
theorem r_more_loop {rec70 : Int32 → Int32 → Int32 → pn_S → Option (Int32 × pn_S)} {σ : pn_S} {may th : Int32} {r : Nat} (hw : VW (σ 86)) (h8 : s8 th) : ∀ (k p f : Nat) (acc : Int32), p + k = vn (σ 86) → k < f → fX11_gathers_83 rec70 f may th (nI r) acc (nI p) σ = fX11_gathers_144 rec70 5000 may th (nI r) (fo (fun p acc => if bt (may &&& (th ^^^ (-1))) p = true ∧ ¬ nI (pc th) < σ 94 p then acc ||| bs p else acc) p k acc) 0 σ := by
  have hn := hw.n.2
  have o0 : ∀ x : Int32, x ||| 0 = x := fun x => b_ext fun i _ => by rw [b_or, b_0, Bool.or_false]
  intro k
  induction k with
  | zero =>
    intro p f acc hp hf
    match f, hf with
    | f + 1, _ => rw [fX11_gathers_83, r_people hw, Option.bind_some, if_pos (nI_le (by omega) (by omega))]; rfl
  | succ k ih =>
    intro p f acc hp hf
    match f, hf with
    | f + 1, hf =>
      rw [fX11_gathers_83, r_people hw, Option.bind_some, if_neg (nI_ge (by omega) (by omega)), r_has (by omega), Option.bind_some, fo]
      by_cases hb : bt (may &&& (th ^^^ (-1))) p = true
      · rw [if_pos hb, if_neg (by decide), q_ib (by omega) (by omega), if_pos rfl, j_bc h8, Option.bind_some, nI_clamp (by omega)]
        by_cases hc : nI (pc th) < σ 94 p
        · rw [if_pos hc, if_neg (fun q => q.2 hc), fX11_gathers_131, o0, nI_1, ih (p + 1) f _ (by omega) (by omega)]
        · rw [if_neg hc, if_pos ⟨hb, hc⟩, nI_1, ih (p + 1) f _ (by omega) (by omega)]
          rfl
      · rw [if_neg hb, if_pos rfl, if_neg (fun q => hb q.1), fX11_gathers_131, o0, nI_1, ih (p + 1) f _ (by omega) (by omega)]
theorem r_in_loop {rec70 : Int32 → Int32 → Int32 → pn_S → Option (Int32 × pn_S)} {W : pn_V} {may th m : Int32} {r : Nat} (hw : VW W) : ∀ (k p f : Nat) (σ : pn_S), p + k = vn W → k < f → σ 86 = W → ∃ σ', fX11_gathers_144 rec70 f may th (nI r) m (nI p) σ = fX11_gathers_203 rec70 may th (nI r) m (if m = 0 then σ 85 20 else nI r) σ' ∧ (∀ q, q < vn W → σ' 95 q = if p ≤ q ∧ bt m q = true then nI r else σ 95 q) ∧ FrR σ σ' ∧ σ' 94 = σ 94 ∧ σ' 85 = σ 85 := by
  have hn := hw.n.2
  intro k
  induction k with
  | zero =>
    intro p f σ hp hf hW
    subst hW
    match f, hf with
    | f + 1, _ =>
      refine ⟨σ, ?_, fun q hq => by rw [if_neg (by omega)], FrR.rf, rfl, rfl⟩
      rw [fX11_gathers_144, r_people hw, Option.bind_some, if_pos (nI_le (by omega) (by omega))]
      by_cases hm : m = 0
      · rw [if_pos hm, if_pos hm]
      · rw [if_neg hm, if_neg hm]
  | succ k ih =>
    intro p f σ hp hf hW
    subst hW
    match f, hf with
    | f + 1, hf =>
      rw [fX11_gathers_144, r_people hw, Option.bind_some, if_neg (nI_ge (by omega) (by omega)), r_has (by omega), Option.bind_some]
      have key : ∀ x : Int32, (x = if bt m p = true then nI r else σ 95 p) → ∃ σ', fX11_gathers_181 rec70 (fX11_gathers_144 rec70 f) may th (nI r) m (nI p) (nI p) x σ = fX11_gathers_203 rec70 may th (nI r) m (if m = 0 then σ 85 20 else nI r) σ' ∧ (∀ q, q < vn (σ 86) → σ' 95 q = if p ≤ q ∧ bt m q = true then nI r else σ 95 q) ∧ FrR σ σ' ∧ σ' 94 = σ 94 ∧ σ' 85 = σ 85 := by
        intro x hx
        rw [fX11_gathers_181, q_ib (by omega) (by omega), if_pos rfl, nI_clamp (by omega), nI_1]
        obtain ⟨σ', k1, k2, k3, k4, k5⟩ := ih (p + 1) f (pn_up σ 95 p x) (by omega) (by omega) rfl
        refine ⟨σ', k1, fun q hq => ?_, (FrR_up (Or.inr (Or.inr rfl))).tr k3, k4, k5⟩
        rw [k2 q hq]
        by_cases hqp : q = p
        · subst hqp
          rw [if_neg (by omega), pn_up_s, hx]
          by_cases hb : bt m q = true
          · rw [if_pos hb, if_pos ⟨Nat.le_refl _, hb⟩]
          · rw [if_neg hb, if_neg (fun z => hb z.2)]
        · rw [pn_up_k _ _ _ _ hqp]
          by_cases hc : p + 1 ≤ q ∧ bt m q = true
          · rw [if_pos hc, if_pos ⟨by omega, hc.2⟩]
          · rw [if_neg hc, if_neg (fun z => hc ⟨by omega, z.2⟩)]
      by_cases hb : bt m p = true
      · rw [if_pos hb, if_neg (by decide)]
        exact key _ (by rw [if_pos hb])
      · rw [if_neg hb, if_pos rfl, q_ib (by omega) (by omega), if_pos rfl, nI_clamp (by omega)]
        exact key _ (by rw [if_neg hb])
theorem r_gat_loop {W : pn_V} {cand : Int32} (hw : VW W) (hc8 : s8 cand) (hcn : ∀ p, vn W ≤ p → p < 8 → bt cand p = false) : ∀ (k r f : Nat) (σ : pn_S) (th : Int32) (rd : Nat → Int32) (la : Int32), r + k = 9 → k < f → σ 86 = W → (∀ p, p < 32 → bt th p = true → bt cand p = true) → (∀ q, q < vn W → σ 95 q = rd q) → σ 85 20 = la →
    ∃ σ', fX11_gathers_70 f cand th (nI r) σ = some ((gat (σ 94) cand k r th rd la).1, σ') ∧ (∀ q, q < vn W → σ' 95 q = (gat (σ 94) cand k r th rd la).2.1 q) ∧ σ' 85 20 = (gat (σ 94) cand k r th rd la).2.2 ∧ FrR σ σ' ∧ σ' 94 = σ 94 := by
  have hn := hw.n.2
  intro k
  induction k with
  | zero =>
    intro r f σ th rd la hr hf hW hin hrd hla
    match f, hf with
    | f + 1, _ => exact ⟨σ, by rw [fX11_gathers_70, if_pos (show (8 : Int32) < nI r from nI_lt (a := 8) (by omega) (by omega))]; rfl, hrd, hla, FrR.rf, rfl⟩
  | succ k ih =>
    intro r f σ th rd la hr hf hW hin hrd hla
    match f, hf with
    | f + 1, hf =>
      have h8 : s8 th := fun i hi => by
        rcases Nat.lt_or_ge i 32 with q | q
        · cases hb : bt th i with
          | false => rfl
          | true => rw [← hin i q hb]; exact hc8 i hi
        · exact b_big q
      have hw' : VW (σ 86) := by rw [hW]; exact hw
      have hwn : vn (σ 86) = vn W := by rw [hW]
      rw [fX11_gathers_70, if_neg (show ¬ (8 : Int32) < nI r from nI_nlt (a := 8) (b := r) (by omega) (by omega)), show (0 : Int32) = nI 0 from rfl, r_more_loop hw' h8 (vn (σ 86)) 0 5000 (nI 0) (by omega) (by omega)]
      have em : fo (fun p acc => if bt (cand &&& (th ^^^ (-1))) p = true ∧ ¬ nI (pc th) < σ 94 p then acc ||| bs p else acc) 0 (vn (σ 86)) (nI 0) = wil (σ 94) (cand &&& (th ^^^ (-1))) th 8 := by
        rw [hwn]
        exact wil_8 hn fun p h1 h2 => by rw [b_and, hcn p h1 h2]; rfl
      rw [em, gat]
      generalize hm : wil (σ 94) (cand &&& (th ^^^ (-1))) th 8 = m
      have hmb : ∀ p, p < 32 → bt m p = true → bt cand p = true := fun p hp hb => by
        rw [← hm, wil_bt _ _ _ 8 (by omega) p hp, b_and] at hb
        simp only [Bool.and_eq_true] at hb
        exact hb.2.1.1
      obtain ⟨σ1, g1, g2, g3, g4, g5⟩ := r_in_loop (rec70 := fX11_gathers_70 f) (may := cand) (th := th) (m := m) (r := r) hw (vn W) 0 5000 σ (by omega) (by omega) hW
      rw [show nI 0 = (0 : Int32) from rfl] at g1
      rw [g1, fX11_gathers_203]
      by_cases hz : m = 0
      · rw [if_pos hz, if_pos hz, if_pos hz]
        refine ⟨_, rfl, fun q hq => ?_, ?_, g3.tr FrR_20, ?_⟩
        · rw [pn_up_a _ _ _ _ (by omega), g2 q hq, if_neg (fun z => by rw [hz, b_0] at z; cases z.2)]
          exact hrd q hq
        · rw [pn_up_s]; exact hla
        · rw [pn_up_a _ _ _ _ (by omega)]; exact g4
      · rw [if_neg hz, if_neg hz, if_neg hz, nI_1]
        obtain ⟨σ', k1, k2, k3, k4, k5⟩ := ih (r + 1) f (pn_up σ1 85 20 (nI r)) (th ||| m) (fun p => if bt m p = true then nI r else rd p) (nI r) (by omega) (by omega) (by rw [pn_up_a _ _ _ _ (by omega), g3.w]; exact hW) (fun p hp hb => by
          rw [b_or] at hb
          rcases Bool.or_eq_true_iff.mp hb with q | q
          · exact hin p hp q
          · exact hmb p hp q) (fun q hq => by
          rw [pn_up_a _ _ _ _ (by omega), g2 q hq]
          by_cases hb : bt m q = true
          · rw [if_pos ⟨Nat.zero_le _, hb⟩, if_pos hb]
          · rw [if_neg (fun z => hb z.2), if_neg hb]; exact hrd q hq) (by rw [pn_up_s])
        have e94 : (pn_up σ1 85 20 (nI r)) 94 = σ 94 := by rw [pn_up_a _ _ _ _ (by omega)]; exact g4
        rw [e94] at k1 k2 k3 k5
        exact ⟨σ', k1, k2, k3, (g3.tr FrR_20).tr k4, k5⟩
theorem r_init_loop {W : pn_V} {may th : Int32} (hw : VW W) : ∀ (k p f : Nat) (σ : pn_S), p + k = vn W → k < f → σ 86 = W → ∃ σ', fX11_gathers_30 f may th (nI p) σ = fX11_gathers_70 5000 may th 1 σ' ∧ (∀ q, q < vn W → σ' 95 q = if p ≤ q then (if bt th q = true then 0 else -1) else σ 95 q) ∧ FrR σ σ' ∧ σ' 94 = σ 94 ∧ σ' 85 = σ 85 := by
  have hn := hw.n.2
  intro k
  induction k with
  | zero =>
    intro p f σ hp hf hW
    subst hW
    match f, hf with
    | f + 1, _ => exact ⟨σ, by rw [fX11_gathers_30, r_people hw, Option.bind_some, if_pos (nI_le (by omega) (by omega))], fun q hq => by rw [if_neg (by omega)], FrR.rf, rfl, rfl⟩
  | succ k ih =>
    intro p f σ hp hf hW
    subst hW
    match f, hf with
    | f + 1, hf =>
      rw [fX11_gathers_30, r_people hw, Option.bind_some, if_neg (nI_ge (by omega) (by omega)), r_has (by omega), Option.bind_some]
      have key : ∀ x : Int32, (x = if bt th p = true then 0 else -1) → ∃ σ', fX11_gathers_60 (fX11_gathers_30 f) may th (nI p) (nI p) x σ = fX11_gathers_70 5000 may th 1 σ' ∧ (∀ q, q < vn (σ 86) → σ' 95 q = if p ≤ q then (if bt th q = true then 0 else -1) else σ 95 q) ∧ FrR σ σ' ∧ σ' 94 = σ 94 ∧ σ' 85 = σ 85 := by
        intro x hx
        rw [fX11_gathers_60, q_ib (by omega) (by omega), if_pos rfl, nI_clamp (by omega), nI_1]
        obtain ⟨σ', k1, k2, k3, k4, k5⟩ := ih (p + 1) f (pn_up σ 95 p x) (by omega) (by omega) rfl
        refine ⟨σ', k1, fun q hq => ?_, (FrR_up (Or.inr (Or.inr rfl))).tr k3, k4, k5⟩
        rw [k2 q hq]
        by_cases hqp : q = p
        · subst hqp
          rw [if_neg (by omega), pn_up_s, hx, if_pos (Nat.le_refl _)]
        · rw [pn_up_k _ _ _ _ hqp]
          by_cases hc : p + 1 ≤ q
          · rw [if_pos hc, if_pos (show p ≤ q by omega)]
          · rw [if_neg hc, if_neg (show ¬ p ≤ q by omega)]
      by_cases hb : bt th p = true
      · rw [if_pos hb, if_neg (by decide)]
        exact key _ (by rw [if_pos hb])
      · rw [if_neg hb, if_pos rfl]
        exact key _ (by rw [if_neg hb])
/-- the needs have been laid -/
def NEe (σ : pn_S) (Λ : pn_La) (t : Nat) : Prop := ∀ q, q < vn (σ 86) → σ 94 q = needs (σ 86) Λ t q
theorem r_gathers {σ : pn_S} {Λ : pn_La} {t : Nat} (hw : VW (σ 86)) (ht : t < vn (σ 86)) (hN : NEe σ Λ t) (beg home : Int32) : ∃ σ', fX11_gathers (nI t) beg home σ = some ((crowd (σ 86) Λ t beg home).1, σ') ∧ (∀ q, q < vn (σ 86) → σ' 95 q = (crowd (σ 86) Λ t beg home).2.1 q) ∧ σ' 85 20 = (crowd (σ 86) Λ t beg home).2.2 ∧ FrR σ σ' ∧ σ' 94 = σ 94 := by
  have hn := hw.n.2
  have hE : fX11_everybody σ = some (evb (vn (σ 86))) := by
    unfold fX11_everybody
    rw [r_people hw]
    rfl
  unfold fX11_gathers
  rw [hE, Option.bind_some]
  show ∃ σ', fX11_gathers_22 (cnd (vn (σ 86)) t home) (beg &&& cnd (vn (σ 86)) t home) σ = _ ∧ _
  unfold fX11_gathers_22
  obtain ⟨σ1, g1, g2, g3, g4, g5⟩ := r_init_loop (may := cnd (vn (σ 86)) t home) (th := beg &&& cnd (vn (σ 86)) t home) hw (vn (σ 86)) 0 5000 (pn_up σ 85 20 0) (by omega) (by omega) rfl
  have g1 : fX11_gathers_30 5000 (cnd (vn (σ 86)) t home) (beg &&& cnd (vn (σ 86)) t home) 0 (pn_up σ 85 20 0) = fX11_gathers_70 5000 (cnd (vn (σ 86)) t home) (beg &&& cnd (vn (σ 86)) t home) (nI 1) σ1 := g1
  rw [g1]
  have f1 : FrR σ σ1 := FrR_20.tr g3
  have e94 : σ1 94 = σ 94 := g4
  obtain ⟨σ', k1, k2, k3, k4, k5⟩ := r_gat_loop hw (cnd_s8 (t := t) (home := home) hn) (fun p h1 h2 => by
    cases hb : bt (cnd (vn (σ 86)) t home) p with
    | false => rfl
    | true => have := (cnd_bt hn (by omega) (by omega) hb).1; omega) 8 1 5000 σ1 (beg &&& cnd (vn (σ 86)) t home) (fun p => if bt (beg &&& cnd (vn (σ 86)) t home) p = true then 0 else -1) 0 (by omega) (by omega) f1.w (fun p hp hb => by rw [b_and] at hb; exact (Bool.and_eq_true_iff.mp hb).2) (fun q hq => by rw [g2 q hq, if_pos (Nat.zero_le _)]) (by rw [g5, pn_up_s])
  have ec : gat (σ1 94) (cnd (vn (σ 86)) t home) 8 1 (beg &&& cnd (vn (σ 86)) t home) (fun p => if bt (beg &&& cnd (vn (σ 86)) t home) p = true then 0 else -1) 0 = crowd (σ 86) Λ t beg home := by
    rw [e94]
    exact crw_c fun p hp hb => hN p (cnd_bt hn (by omega) (by omega) hb).1
  rw [ec] at k1 k2 k3
  exact ⟨σ', k1, k2, k3, f1.tr k4, k5.trans e94⟩
theorem r_crowd {σ : pn_S} {t : Nat} {h0 : Bool} {Λ : pn_La} (hw : VW (σ 86)) (ht : t < vn (σ 86)) (hR : RLa (σ 86) h0 Λ) (hL : LW Λ) : ∃ σ', fX11_crowdOf (nI t) σ = some ((crowd (σ 86) Λ t (vbeg (σ 86)) 0).1, σ') ∧ (∀ q, q < vn (σ 86) → σ' 95 q = (crowd (σ 86) Λ t (vbeg (σ 86)) 0).2.1 q) ∧ σ' 85 20 = (crowd (σ 86) Λ t (vbeg (σ 86)) 0).2.2 ∧ FrR σ σ' ∧ NEe σ' Λ t := by
  unfold fX11_crowdOf
  obtain ⟨σ1, g1, g2, g3⟩ := r_lays hw ht hR hL
  have e86 := g3.w
  have hw1 : VW (σ1 86) := by rw [e86]; exact hw
  have hN : NEe σ1 Λ t := fun q hq => by rw [e86] at hq ⊢; exact g2 q hq
  obtain ⟨σ2, k1, k2, k3, k4, k5⟩ := r_gathers hw1 (by rw [e86]; exact ht) hN (vbeg (σ1 86)) 0
  rw [g1, Option.bind_some, r_beg hw1, Option.bind_some, k1]
  rw [e86] at k1 k2 k3 ⊢
  refine ⟨σ2, rfl, k2, k3, g3.tr k4, fun q hq => ?_⟩
  have e2 : σ2 86 = σ 86 := (k4.w).trans e86
  rw [e2] at hq ⊢
  rw [k5]
  exact g2 q hq
