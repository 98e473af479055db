/-! PURE: sets of beginners, one after another -/
theorem nlt_nI {a b : Nat} (h : b ≤ a) (ha : a < 2147483648) : ¬ nI a < nI b := by rw [q_lt, nI_toInt (by omega), nI_toInt (by omega)]; omega
theorem nI_le_iff {a b : Nat} (ha : a < 2147483648) (hb : b < 2147483648) : nI a ≤ nI b ↔ a ≤ b := by rw [q_le, nI_toInt (by omega), nI_toInt (by omega)]; omega
theorem nI_lt_iff {a b : Nat} (ha : a < 2147483648) (hb : b < 2147483648) : nI a < nI b ↔ a < b := by rw [q_lt, nI_toInt (by omega), nI_toInt (by omega)]; omega
theorem s8_k {k : Nat} (h : k < 256) : s8 (nI k) := fun i hi => by
  rcases Nat.lt_or_ge i 32 with q | q
  · exact (by decide +kernel : ∀ k, k < 256 → ∀ i, i < 32 → 8 ≤ i → bt (nI k) i = false) k h i q hi
  · exact b_big q
def fwS (part ok : Nat → Bool) (k : Nat) (s : Int32 × Nat) : Int32 × Nat := if part k = true ∧ pc (nI k) < s.2 ∧ ok k = true then (nI k, pc (nI k)) else s
theorem fw_le (part ok : Nat → Bool) (k : Nat) (s : Int32 × Nat) : (fwS part ok k s).2 ≤ s.2 := by
  unfold fwS
  split
  · next h => show pc (nI k) ≤ _; omega
  · exact Nat.le_refl _
theorem fw_eq {part ok : Nat → Bool} {s0 : Int32 × Nat} : ∀ m, (∀ k, k < m → part k = false → ok k = true → ∃ k', k' < k ∧ part k' = true ∧ ok k' = true ∧ pc (nI k') < pc (nI k)) →
    fo (fwS (fun _ => true) ok) 0 m s0 = fo (fwS part ok) 0 m s0 ∧ ∀ k', k' < m → part k' = true → ok k' = true → (fo (fwS part ok) 0 m s0).2 ≤ pc (nI k') := by
  intro m
  induction m with
  | zero => intro _; exact ⟨rfl, fun k' h => by omega⟩
  | succ m ih =>
    intro H
    obtain ⟨i1, i2⟩ := ih fun k hk => H k (by omega)
    rw [fo_s, fo_s, i1]
    refine ⟨?_, fun k' hk hp ho => ?_⟩
    · cases hp : part m with
      | true => unfold fwS; simp [hp]
      | false =>
        have e : fwS part ok m (fo (fwS part ok) 0 m s0) = fo (fwS part ok) 0 m s0 := by unfold fwS; rw [if_neg (by rw [hp]; exact fun z => by cases z.1)]
        rw [e]
        cases ho : ok m with
        | false => unfold fwS; rw [if_neg (by rw [ho]; exact fun z => by cases z.2.2)]
        | true =>
          obtain ⟨k', h1, h2, h3, h4⟩ := H m (by omega) hp ho
          have := i2 k' h1 h2 h3
          unfold fwS at this ⊢
          rw [if_neg (by omega)]
    · by_cases hkm : k' = m
      · subst hkm
        unfold fwS
        by_cases q : pc (nI k') < (fo (fwS part ok) 0 k' s0).2
        · unfold fwS at q; rw [if_pos ⟨hp, q, ho⟩]; exact Nat.le_refl _
        · unfold fwS at q; rw [if_neg (fun z => q z.2.1)]; omega
      · have := fw_le part ok m (fo (fwS part ok) 0 m s0)
        have := i2 k' (by omega) hp ho
        omega
def oth (n t : Nat) : Nat := (evb n &&& (bs t ^^^ (-1))).toNatClampNeg
theorem oth_f : ∀ n, n < 9 → ∀ t, t < n → evb n &&& (bs t ^^^ (-1)) = nI (oth n t) ∧ oth n t < 2 ^ n := by decide +kernel
theorem part_f : ∀ n, n < 9 → ∀ t, t < n → ∀ k, k < 2 ^ n → ((nI k &&& (nI (oth n t) ^^^ (-1)) = 0) ↔ bt (nI k) t = false) ∧ (oth n t < k → bt (nI k) t = true) := by decide +kernel
theorem drop_a : ∀ t, t < 8 → ∀ k, k < 256 → bt (nI k) t = false ∨ (2 ^ t ≤ k ∧ bt (nI (k - 2 ^ t)) t = false ∧ pc (nI k) = pc (nI (k - 2 ^ t)) + 1) := by decide +kernel
theorem drop_b : ∀ t, t < 8 → ∀ k, k < 256 → ∀ i, i < 8 → bt (nI k) t = false ∨ i = t ∨ bt (nI (k - 2 ^ t)) i = bt (nI k) i := by decide +kernel
theorem drop_f (t : Nat) (ht : t < 8) (k : Nat) (hk : k < 256) (hb : bt (nI k) t = true) : 2 ^ t ≤ k ∧ bt (nI (k - 2 ^ t)) t = false ∧ pc (nI k) = pc (nI (k - 2 ^ t)) + 1 ∧ (∀ i, i < 8 → i ≠ t → bt (nI (k - 2 ^ t)) i = bt (nI k) i) := by
  obtain ⟨a1, a2, a3⟩ := (drop_a t ht k hk).resolve_left (by rw [hb]; decide)
  exact ⟨a1, a2, a3, fun i hi hne => ((drop_b t ht k hk i hi).resolve_left (by rw [hb]; decide)).resolve_left hne⟩
theorem evb_f : ∀ n, n < 9 → evb n = nI (2 ^ n - 1) := by decide +kernel
theorem pow_le8 {n : Nat} (h : n ≤ 8) : 2 ^ n ≤ 256 ∧ 1 ≤ 2 ^ n := (by decide : ∀ n, n < 9 → 2 ^ n ≤ 256 ∧ 1 ≤ 2 ^ n) n (by omega)
theorem crowd_beg {V : pn_V} {Λ : pn_La} {t : Nat} {b b' home : Int32} (h : b &&& cnd (vn V) t home = b' &&& cnd (vn V) t home) : crowd V Λ t b home = crowd V Λ t b' home := by unfold crowd crw; rw [h]
theorem cnd_at {n t : Nat} {home : Int32} (ht : t < 32) : bt (cnd n t home) t = false := by
  unfold cnd
  rw [b_and, b_and, b_not ht, bt_bs ht ht]
  simp
theorem crowd_drop {V : pn_V} {Λ : pn_La} {t k : Nat} (hn : vn V ≤ 8) (ht : t < 8) (hk : k < 256) (hb : bt (nI k) t = true) : crowd V Λ t (nI (k - 2 ^ t)) 0 = crowd V Λ t (nI k) 0 := by
  obtain ⟨d1, d2, d3, d4⟩ := drop_f t ht k hk hb
  refine crowd_beg (s8_ext (s8_and' (cnd_s8 hn)) (s8_and' (cnd_s8 hn)) fun i hi => ?_)
  rw [b_and, b_and]
  by_cases q : i = t
  · subst q
    rw [cnd_at (by omega), Bool.and_false, Bool.and_false]
  · rw [d4 i hi q]
theorem rg2 {τ : pn_S} {h : Bool} {Λ : pn_La} {V : pn_V} {t : Nat} (hI : Inv τ h Λ) (e : τ 86 = V) (ht : t < vn V) (hN : NEe τ Λ t) (beg home : Int32) : ∃ σ', fX11_gathers (nI t) beg home τ = some ((crowd V Λ t beg home).1, σ') ∧ (∀ q, q < vn V → σ' 95 q = (crowd V Λ t beg home).2.1 q) ∧ FrR τ σ' ∧ NEe σ' Λ t ∧ σ' 86 = V ∧ Inv σ' h Λ := by
  subst e
  obtain ⟨σ2, k1, k2, k3, k4, k5⟩ := r_gathers hI.2.1 ht hN beg home
  refine ⟨σ2, k1, k2, k4, fun q hq => ?_, k4.w, hI.core (Core_R k4)⟩
  rw [k4.w] at hq ⊢
  rw [k5]
  exact hN q hq
theorem rev {τ : pn_S} {h : Bool} {Λ : pn_La} {V : pn_V} (hI : Inv τ h Λ) (e : τ 86 = V) : fX11_everybody τ = some (evb (vn V)) := by
  unfold fX11_everybody
  rw [rpe hI e, Option.bind_some]
  rfl
/-! fewest -/
def fok (V : pn_V) (Λ : pn_La) (t : Nat) (x : Int32) (k : Nat) : Bool := !decide (nI (pc (crowd V Λ t (nI k) 0).1) < x)
def fpa (t k : Nat) : Bool := !bt (nI k) t
theorem c_fewest {σ : pn_S} {V : pn_V} {Λ : pn_La} {t : Nat} {x : Int32} (hn : vn V ≤ 8) (ht : t < vn V) (hI : INv σ V Λ t) : ∃ σ', fX10_fewest_46 5000 x (σ 37 3) (-1) 9 0 σ = some (.inl (fo (fwS (fpa t) (fok V Λ t x)) 0 (2 ^ vn V) (-1, 9)).1, σ') ∧ FrC σ σ' := by
  obtain ⟨o1, o2⟩ := oth_f (vn V) (by omega) t ht
  obtain ⟨w1, w2⟩ := pow_le8 hn
  have e3 : σ 37 3 = nI (oth (vn V) t) := hI.1.trans o1
  obtain ⟨s, g1, g2, g3, g4⟩ := lpE (n := oth (vn V) t + 1) (F := fun f k (s : (Int32 × Nat) × pn_S) => fX10_fewest_46 f x (nI (oth (vn V) t)) s.1.1 (nI s.1.2) (nI k) s.2) (out := fun s => some (.inl s.1.1, s.2)) (fun k s => s.1 = fo (fwS (fpa t) (fok V Λ t x)) 0 k (-1, 9) ∧ s.1.2 ≤ 9 ∧ INv s.2 V Λ t ∧ FrC σ s.2)
    (fun f s _ => by rw [fX10_fewest_46, if_pos (nI_lt (by omega) (by omega))])
    (fun f k s hk hs => by
      obtain ⟨⟨fo1, le⟩, ρ⟩ := s
      have h1 : (fo1, le) = fo (fwS (fpa t) (fok V Λ t x)) 0 k (-1, 9) := hs.1
      have h2 : le ≤ 9 := hs.2.1
      have h3 : INv ρ V Λ t := hs.2.2.1
      have h4 : FrC σ ρ := hs.2.2.2
      have hk2 : k < 2 ^ vn V := by omega
      have st : ∀ S, fwS (fpa t) (fok V Λ t x) k (fo1, le) = S → S = fo (fwS (fpa t) (fok V Λ t x)) 0 (k + 1) (-1, 9) := fun S e => by rw [fo_s, ← h1, e]
      have pf := (part_f (vn V) (by omega) t ht k hk2).1
      show ∃ s', fX10_fewest_46 (f + 1) x (nI (oth (vn V) t)) fo1 (nI le) (nI k) ρ = _ ∧ _
      rw [fX10_fewest_46, if_neg (nlt_nI (by omega) (by omega)), nI_1]
      unfold fX10_isPart
      by_cases hb : bt (nI k) t = false
      · rw [if_pos (pf.mpr hb), Option.bind_some, if_neg (by decide), j_bc (s8_k (by omega)), Option.bind_some]
        by_cases hl : le ≤ pc (nI k)
        · rw [if_pos ((nI_le_iff (by omega) (by have := pc_le (nI k); omega)).mpr hl)]
          exact ⟨((fo1, le), ρ), rfl, st _ (by unfold fwS; rw [if_neg (by show ¬ (_ ∧ pc (nI k) < le ∧ _); omega)]), h2, h3, h4⟩
        · obtain ⟨σ9, k1, k2, k3, k4⟩ := c_gather2 hn ht h3 (nI k) 0
          rw [if_neg (fun z => hl ((nI_le_iff (by omega) (by have := pc_le (nI k); omega)).mp z))]
          unfold fX10_sizeBy
          rw [k1, Option.bind_some, bi_some, k2.2.1]
          by_cases hx : nI (pc (crowd V Λ t (nI k) 0).1) < x
          · rw [if_pos hx]
            exact ⟨((fo1, le), σ9), rfl, st _ (by unfold fwS fok; rw [if_neg (by simp [hx])]), h2, k3, h4.tr k4⟩
          · rw [if_neg hx, j_bc (s8_k (by omega)), Option.bind_some]
            exact ⟨((nI k, pc (nI k)), σ9), rfl, st _ (by unfold fwS fok fpa; rw [if_pos ⟨by rw [hb]; rfl, by show pc (nI k) < le; omega, by simp [hx]⟩]), by have := pc_le (nI k); show pc (nI k) ≤ 9; omega, k3, h4.tr k4⟩
      · rw [if_neg (fun z => hb (pf.mp z)), Option.bind_some, if_pos rfl]
        exact ⟨((fo1, le), ρ), rfl, st _ (by unfold fwS fpa; rw [if_neg (by simp [hb])]), h2, h3, h4⟩) (oth (vn V) t + 1) 0 5000 ((-1, 9), σ) (by omega) (by omega) ⟨rfl, Nat.le_refl _, hI, FrC.rf⟩
  refine ⟨s.2, ?_, g4.2⟩
  rw [e3]
  refine g1.trans ?_
  rw [g2]
  obtain ⟨d, hd⟩ : ∃ d, 2 ^ vn V = oth (vn V) t + 1 + d := ⟨2 ^ vn V - (oth (vn V) t + 1), by omega⟩
  have e4 : fo (fwS (fpa t) (fok V Λ t x)) 0 (2 ^ vn V) (-1, 9) = fo (fwS (fpa t) (fok V Λ t x)) 0 (oth (vn V) t + 1) (-1, 9) := by
    rw [hd, fo_app]
    refine fo_id _ _ _ fun q h1 h2 => ?_
    have := (part_f (vn V) (by omega) t ht q (by omega)).2 (by omega)
    unfold fwS fpa
    rw [if_neg (by simp [this])]
  rw [e4]
theorem r_fewest {τ : pn_S} {h : Bool} {Λ : pn_La} {V : pn_V} {t : Nat} {x : Int32} (hI : Inv τ h Λ) (e : τ 86 = V) (ht : t < vn V) (hN : NEe τ Λ t) : ∃ σ', fX11_fewest_57 5000 (nI t) x (-1) 9 0 τ = some ((fo (fwS (fun _ => true) (fok V Λ t x)) 0 (2 ^ vn V) (-1, 9)).1, σ') ∧ FrR τ σ' := by
  have hn : vn V ≤ 8 := by rw [← e]; exact hI.2.1.n.2
  obtain ⟨w1, w2⟩ := pow_le8 hn
  obtain ⟨s, g1, g2, g3, g4⟩ := lpE (n := 2 ^ vn V) (F := fun f k (s : (Int32 × Nat) × pn_S) => fX11_fewest_57 f (nI t) x s.1.1 (nI s.1.2) (nI k) s.2) (out := fun s => some (s.1.1, s.2)) (fun k s => s.1 = fo (fwS (fun _ => true) (fok V Λ t x)) 0 k (-1, 9) ∧ s.1.2 ≤ 9 ∧ FrR τ s.2 ∧ NEe s.2 Λ t ∧ s.2 86 = V ∧ Inv s.2 h Λ)
    (fun f s hs => by rw [fX11_fewest_57, rev hs.2.2.2.2.2 hs.2.2.2.2.1, Option.bind_some, evb_f _ (by omega), if_pos (nI_lt (by omega) (by omega))])
    (fun f k s hk hs => by
      obtain ⟨⟨fo1, le⟩, ρ⟩ := s
      have h1 : (fo1, le) = fo (fwS (fun _ => true) (fok V Λ t x)) 0 k (-1, 9) := hs.1
      have h2 : le ≤ 9 := hs.2.1
      have h3 : FrR τ ρ := hs.2.2.1
      have h4 : NEe ρ Λ t := hs.2.2.2.1
      have h5 : ρ 86 = V := hs.2.2.2.2.1
      have h6 : Inv ρ h Λ := hs.2.2.2.2.2
      have st : ∀ S, fwS (fun _ => true) (fok V Λ t x) k (fo1, le) = S → S = fo (fwS (fun _ => true) (fok V Λ t x)) 0 (k + 1) (-1, 9) := fun S e => by rw [fo_s, ← h1, e]
      show ∃ s', fX11_fewest_57 (f + 1) (nI t) x fo1 (nI le) (nI k) ρ = _ ∧ _
      rw [fX11_fewest_57, rev h6 h5, Option.bind_some, evb_f _ (by omega), if_neg (nlt_nI (by omega) (by omega)), nI_1, j_bc (s8_k (by omega)), Option.bind_some]
      by_cases hl : le ≤ pc (nI k)
      · rw [if_pos ((nI_le_iff (by omega) (by have := pc_le (nI k); omega)).mpr hl)]
        exact ⟨((fo1, le), ρ), rfl, st _ (by unfold fwS; rw [if_neg (by show ¬ (_ ∧ pc (nI k) < le ∧ _); omega)]), h2, h3, h4, h5, h6⟩
      · obtain ⟨σ9, k1, k2, k3, k4, k5, k6⟩ := rg2 h6 h5 ht h4 (nI k) 0
        rw [if_neg (fun z => hl ((nI_le_iff (by omega) (by have := pc_le (nI k); omega)).mp z)), k1, bi_some, j_bc (crowd_s8 hn), Option.bind_some]
        by_cases hx : nI (pc (crowd V Λ t (nI k) 0).1) < x
        · rw [if_neg (by rw [q_lt] at hx; rw [q_le]; omega)]
          exact ⟨((fo1, le), σ9), rfl, st _ (by unfold fwS fok; rw [if_neg (by simp [hx])]), h2, h3.tr k3, k4, k5, k6⟩
        · rw [if_pos (by rw [q_lt] at hx; rw [q_le]; omega), j_bc (s8_k (by omega)), Option.bind_some]
          exact ⟨((nI k, pc (nI k)), σ9), rfl, st _ (by unfold fwS fok; rw [if_pos ⟨rfl, by show pc (nI k) < le; omega, by simp [hx]⟩]), by have := pc_le (nI k); show pc (nI k) ≤ 9; omega, h3.tr k3, k4, k5, k6⟩) (2 ^ vn V) 0 5000 ((-1, 9), τ) (by omega) (by omega) ⟨rfl, Nat.le_refl _, FrR.rf, hN, e, hI⟩
  refine ⟨s.2, ?_, g4.1⟩
  refine g1.trans ?_
  rw [g2]
theorem fewest_eq {V : pn_V} {Λ : pn_La} {t : Nat} {x : Int32} (hn : vn V ≤ 8) (ht : t < vn V) : fo (fwS (fun _ => true) (fok V Λ t x)) 0 (2 ^ vn V) (-1, 9) = fo (fwS (fpa t) (fok V Λ t x)) 0 (2 ^ vn V) (-1, 9) :=
  (fw_eq (2 ^ vn V) fun k hk hp ho => by
    obtain ⟨w1, w2⟩ := pow_le8 hn
    have hb : bt (nI k) t = true := by unfold fpa at hp; simpa using hp
    obtain ⟨d1, d2, d3, d4⟩ := drop_f t (by omega) k (by omega) hb
    have : 1 ≤ 2 ^ t := Nat.one_le_two_pow
    refine ⟨k - 2 ^ t, by omega, by unfold fpa; rw [d2]; rfl, ?_, by omega⟩
    unfold fok at ho ⊢
    rw [crowd_drop hn (by omega) (by omega) hb]
    exact ho).1
theorem ag_fewest (a x : Int32) : Ag (fX10_fewest a x) (fX11_fewest a x) hL_fewest :=
  ag_1 (a := a) (fun _ => rfl) (fun _ => rfl) (if_pos rfl) fun σ h Λ t hI ht ha => by
    subst ha
    refine agb_num (c := 2) (F := fX11_fewest_34 (nI t) x) hI rfl (fun _ => rfl) (fun _ _ => rfl) ((if_neg (by decide)).trans (if_pos rfl)) (by decide) fun h1 h2 => ?_
    obtain ⟨σ1, g1, g2, g3⟩ := c_invite hI.1 hI.2.1 hI.2.2.1 hI.2.2.2.2.1 (by omega) ht
    obtain ⟨σ2, k1, k2⟩ := c_fewest (x := x) hI.2.1.n.2 ht g2
    refine agb_ro hI (σ1 := σ2) (by rw [g1, Option.bind_some]; exact k1) (Core_C (g3.tr k2)) fun τ iτ eτ => ?_
    obtain ⟨σ3, m1, m2, m3⟩ := r_lays (t := t) iτ.2.1 (by rw [eτ]; exact ht) iτ.2.2.2.1 iτ.2.2.2.2.1
    have ne : NEe σ3 Λ t := fun q hq => by rw [m3.w] at hq ⊢; exact m2 q hq
    obtain ⟨σ4, n1, n2⟩ := r_fewest (x := x) (iτ.core (Core_R m3)) (m3.w.trans eτ) ht ne
    refine ⟨σ4, ?_, m3.tr n2⟩
    rw [m1, Option.bind_some, ← fewest_eq hI.2.1.n.2 ht]
    exact n1
/-! keep -/
def kok (V : pn_V) (Λ : pn_La) (t : Nat) (k : Nat) : Bool := decide (nz (pans V Λ t) (crowd V Λ t (vbeg V) (nI k)).1 < tr V t 2)
def kpa (C k : Nat) : Bool := decide (nI k &&& (nI C ^^^ (-1)) = 0)
theorem ag_keep (a : Int32) : Ag (fX10_keep a) (fX11_keep a) hL_keep :=
  ag_1 (a := a) (fun _ => rfl) (fun _ => rfl) (if_pos rfl) fun σ h Λ t hI ht ha => by
    subst ha
    have hn := hI.2.1.n.2
    obtain ⟨C, hC, eC⟩ := s8_nat (crowd_s8 (V := σ 86) (Λ := Λ) (t := t) (beg := vbeg (σ 86)) (home := 0) hn)
    obtain ⟨σ1, g1, g2, g3, g4, g5, g6, g7⟩ := cs hI ht
    obtain ⟨s, j1, j2, j3, j4, j5⟩ := lpE (n := C + 1) (F := fun f k (s : (Int32 × Nat) × pn_S) => fX10_keep_27 f (nI t) (nI C) s.1.1 (nI s.1.2) (nI k) s.2) (out := fun s => some (.inl s.1.1, s.2)) (fun k s => s.1 = fo (fwS (kpa C) (kok (σ 86) Λ t)) 0 k (-1, 9) ∧ s.1.2 ≤ 9 ∧ INv s.2 (σ 86) Λ t ∧ FrC σ s.2)
      (fun f s _ => by rw [fX10_keep_27, if_pos (nI_lt (by omega) (by omega))])
      (fun f k s hk hs => by
        obtain ⟨⟨fo1, le⟩, ρ⟩ := s
        have h1 : (fo1, le) = fo (fwS (kpa C) (kok (σ 86) Λ t)) 0 k (-1, 9) := hs.1
        have h2 : le ≤ 9 := hs.2.1
        have h3 : INv ρ (σ 86) Λ t := hs.2.2.1
        have h4 : FrC σ ρ := hs.2.2.2
        have st : ∀ S, fwS (kpa C) (kok (σ 86) Λ t) k (fo1, le) = S → S = fo (fwS (kpa C) (kok (σ 86) Λ t)) 0 (k + 1) (-1, 9) := fun S e => by rw [fo_s, ← h1, e]
        show ∃ s', fX10_keep_27 (f + 1) (nI t) (nI C) fo1 (nI le) (nI k) ρ = _ ∧ _
        rw [fX10_keep_27, if_neg (nlt_nI (by omega) (by omega)), nI_1]
        unfold fX10_isPart
        by_cases hb : nI k &&& (nI C ^^^ (-1)) = 0
        · rw [if_pos hb, Option.bind_some, if_neg (by decide), j_bc (s8_k (by omega)), Option.bind_some]
          by_cases hl : le ≤ pc (nI k)
          · rw [if_pos ((nI_le_iff (by omega) (by have := pc_le (nI k); omega)).mpr hl)]
            exact ⟨((fo1, le), ρ), rfl, st _ (by unfold fwS; rw [if_neg (by show ¬ (_ ∧ pc (nI k) < le ∧ _); omega)]), h2, h3, h4⟩
          · obtain ⟨σ9, k1, k2, k3, k4⟩ := c_gather2 hn ht h3 (vbeg (σ 86)) (nI k)
            have g : fX8_of 5 (nI t) 2 σ9 = some (tr (σ 86) t 2) := c_of (cv_C hI.1 (h4.tr k4) (by omega)) hI.2.1 ht (k := 2) (by omega)
            rw [if_neg (fun z => hl ((nI_le_iff (by omega) (by have := pc_le (nI k); omega)).mp z))]
            unfold fX10_isCalmWithout
            rw [c_beg (cv_C hI.1 h4 (by omega)) hI.2.1, Option.bind_some, k1, Option.bind_some, g, Option.bind_some, k2.2.2.1]
            by_cases hx : nz (pans (σ 86) Λ t) (crowd (σ 86) Λ t (vbeg (σ 86)) (nI k)).1 < tr (σ 86) t 2
            · rw [if_neg (by rw [q_lt] at hx; rw [q_le]; omega), bi_some, if_neg (by decide), j_bc (s8_k (by omega)), Option.bind_some]
              exact ⟨((nI k, pc (nI k)), σ9), rfl, st _ (by unfold fwS kok kpa; rw [if_pos ⟨decide_eq_true hb, by show pc (nI k) < le; omega, by simp [hx]⟩]), by have := pc_le (nI k); show pc (nI k) ≤ 9; omega, k3, h4.tr k4⟩
            · rw [if_pos (by rw [q_lt] at hx; rw [q_le]; omega), bi_some, if_pos rfl]
              exact ⟨((fo1, le), σ9), rfl, st _ (by unfold fwS kok; rw [if_neg (by simp [hx])]), h2, k3, h4.tr k4⟩
        · rw [if_neg hb, Option.bind_some, if_pos rfl]
          exact ⟨((fo1, le), ρ), rfl, st _ (by unfold fwS kpa; rw [if_neg (fun z => hb (of_decide_eq_true z.1))]), h2, h3, h4⟩) (C + 1) 0 5000 ((-1, 9), σ1) (by omega) (by omega) ⟨rfl, Nat.le_refl _, g3, g4⟩
    refine agb_ro hI (x := s.1.1) (σ1 := s.2) (by rw [g1, Option.bind_some, g2.1, eC]; exact j1) (Core_C j5) fun τ iτ eτ => ?_
    obtain ⟨τ1, m1, m2, m3, m4, m5, m6, m7⟩ := rc iτ eτ ht
    obtain ⟨s', n1, n2, n3, n4, n5⟩ := lpE (n := C + 1) (F := fun f k (s : (Int32 × Nat) × pn_S) => fX11_keep_35 f (nI t) (nI C) s.1.1 (nI s.1.2) (nI k) s.2) (out := fun s => some (s.1.1, s.2)) (fun k s => s.1 = fo (fwS (kpa C) (kok (σ 86) Λ t)) 0 k (-1, 9) ∧ s.1.2 ≤ 9 ∧ FrR τ s.2 ∧ NEe s.2 Λ t ∧ s.2 86 = σ 86 ∧ Inv s.2 h Λ)
      (fun f s _ => by rw [fX11_keep_35, if_pos (nI_lt (by omega) (by omega))])
      (fun f k s hk hs => by
        obtain ⟨⟨fo1, le⟩, ρ⟩ := s
        have h1 : (fo1, le) = fo (fwS (kpa C) (kok (σ 86) Λ t)) 0 k (-1, 9) := hs.1
        have h2 : le ≤ 9 := hs.2.1
        have h3 : FrR τ ρ := hs.2.2.1
        have h4 : NEe ρ Λ t := hs.2.2.2.1
        have h5 : ρ 86 = σ 86 := hs.2.2.2.2.1
        have h6 : Inv ρ h Λ := hs.2.2.2.2.2
        have st : ∀ S, fwS (kpa C) (kok (σ 86) Λ t) k (fo1, le) = S → S = fo (fwS (kpa C) (kok (σ 86) Λ t)) 0 (k + 1) (-1, 9) := fun S e => by rw [fo_s, ← h1, e]
        show ∃ s', fX11_keep_35 (f + 1) (nI t) (nI C) fo1 (nI le) (nI k) ρ = _ ∧ _
        rw [fX11_keep_35, if_neg (nlt_nI (by omega) (by omega)), nI_1]
        by_cases hb : nI k &&& (nI C ^^^ (-1)) = 0
        · rw [if_pos hb, j_bc (s8_k (by omega)), Option.bind_some]
          by_cases hl : le ≤ pc (nI k)
          · rw [if_neg (fun z => absurd ((nI_lt_iff (by have := pc_le (nI k); omega) (by omega)).mp z) (by omega))]
            exact ⟨((fo1, le), ρ), rfl, st _ (by unfold fwS; rw [if_neg (by show ¬ (_ ∧ pc (nI k) < le ∧ _); omega)]), h2, h3, h4, h5, h6⟩
          · obtain ⟨σ9, k1, k2, k3, k4, k5, k6⟩ := rg2 h6 h5 ht h4 (vbeg (σ 86)) (nI k)
            obtain ⟨τ9, y1, y2, y3, y4⟩ := rnz k6 k5 ht (cr_out (Λ := Λ) (t := t) (beg := vbeg (σ 86)) (home := nI k) hn (by omega))
            have y94 : NEe τ9 Λ t := by
              have hw := k6.2.1
              obtain ⟨τ8, z1, z2, z3, z4, z5⟩ := r_noise (t := t) (x := (crowd (σ 86) Λ t (vbeg (σ 86)) (nI k)).1) hw (by rw [k5]; exact ht) k6.2.2.2.1 k6.2.2.2.2.1 (by rw [k5]; exact cr_out (Λ := Λ) (t := t) (beg := vbeg (σ 86)) (home := nI k) hn (by omega))
              rw [k5] at z1
              rw [z1] at y1
              cases y1
              intro q hq
              rw [z2.w] at hq ⊢
              rw [z3]
              exact k4 q hq
            have g : fX11_of (nI t) 2 τ9 = some (tr (σ 86) t 2) := rof y4 y3 ht (k := 2) (by omega)
            have gb : fX11_beginners ρ = some (vbeg (σ 86)) := by rw [← h5]; exact r_beg h6.2.1
            rw [if_pos ((nI_lt_iff (by have := pc_le (nI k); omega) (by omega)).mpr (by omega)), gb, Option.bind_some, k1, bi_some, y1, bi_some, g, Option.bind_some]
            by_cases hx : nz (pans (σ 86) Λ t) (crowd (σ 86) Λ t (vbeg (σ 86)) (nI k)).1 < tr (σ 86) t 2
            · rw [if_pos hx, j_bc (s8_k (by omega)), Option.bind_some]
              exact ⟨((nI k, pc (nI k)), τ9), rfl, st _ (by unfold fwS kok kpa; rw [if_pos ⟨decide_eq_true hb, by show pc (nI k) < le; omega, by simp [hx]⟩]), by have := pc_le (nI k); show pc (nI k) ≤ 9; omega, (h3.tr k3).tr y2, y94, y3, y4⟩
            · rw [if_neg hx]
              exact ⟨((fo1, le), τ9), rfl, st _ (by unfold fwS kok; rw [if_neg (by simp [hx])]), h2, (h3.tr k3).tr y2, y94, y3, y4⟩
        · rw [if_neg hb]
          exact ⟨((fo1, le), ρ), rfl, st _ (by unfold fwS kpa; rw [if_neg (fun z => hb (of_decide_eq_true z.1))]), h2, h3, h4, h5, h6⟩) (C + 1) 0 5000 ((-1, 9), τ1) (by omega) (by omega) ⟨rfl, Nat.le_refl _, m4, m5, m6, m7⟩
    refine ⟨s'.2, ?_, n4⟩
    rw [m1, bi_some, eC, j2, ← n2]
    exact n1
/-! tips -/
def tpS (V : pn_V) (Λ : pn_La) (t : Nat) (c : Int32) (p : Nat) (o : Option (Nat × Nat)) : Option (Nat × Nat) := if bt c p = true then (match o with
  | none => some (p, pc (crowd V Λ t (vbeg V) (bs p)).1)
  | some z => if z.2 ≤ pc (crowd V Λ t (vbeg V) (bs p)).1 then some z else some (p, pc (crowd V Λ t (vbeg V) (bs p)).1)) else o
def tp1 : Option (Nat × Nat) → Int32
  | none => -1
  | some z => nI z.1
def tp2 (x : Int32) : Option (Nat × Nat) → Int32
  | none => x
  | some z => nI z.2
theorem tp_le {V : pn_V} {Λ : pn_La} {t : Nat} {c : Int32} {p : Nat} {o : Option (Nat × Nat)} (h : ∀ z, o = some z → z.2 ≤ 8) : ∀ z, tpS V Λ t c p o = some z → z.2 ≤ 8 := by
  intro z hz
  have hc := pc_le (crowd V Λ t (vbeg V) (bs p)).1
  unfold tpS at hz
  split at hz
  · cases o with
    | none => cases hz; exact hc
    | some y =>
      have hz : (if y.2 ≤ pc (crowd V Λ t (vbeg V) (bs p)).1 then some y else some (p, pc (crowd V Λ t (vbeg V) (bs p)).1)) = some z := hz
      split at hz <;> cases hz
      · exact h _ rfl
      · exact hc
  · exact h z hz
theorem ag_tips (a : Int32) : Ag (fX10_tips a) (fX11_tips a) hL_tips :=
  ag_1 (a := a) (fun _ => rfl) (fun _ => rfl) (if_pos rfl) fun σ h Λ t hI ht ha => by
    subst ha
    have hn := hI.2.1.n
    obtain ⟨σ1, g1, g2, g3, g4, g5, g6, g7⟩ := cs hI ht
    obtain ⟨s, j1, j2, j3, j4, j5⟩ := lpE (n := vn (σ 86)) (F := fun f p (s : Option (Nat × Nat) × pn_S) => fX10_tips_36 f (cr0 (σ 86) Λ t) (vbeg (σ 86)) (tp1 s.1) (tp2 9 s.1) (nI p) s.2) (out := fun s => some (.inl (tp1 s.1), s.2)) (fun p s => s.1 = fo (tpS (σ 86) Λ t (cr0 (σ 86) Λ t)) 0 p none ∧ (∀ z, s.1 = some z → z.2 ≤ 8) ∧ INv s.2 (σ 86) Λ t ∧ FrC σ s.2)
      (fun f s hs => by
        have e : s.2 5 2 = nI (vn (σ 86)) := by rw [(cv_C hI.1 hs.2.2.2 (by omega)).1.1, hn.1]
        rw [fX10_tips_36, e, if_pos (nI_le (by omega) (by omega))])
      (fun f p s hp hs => by
        obtain ⟨o, ρ⟩ := s
        have h1 : o = fo (tpS (σ 86) Λ t (cr0 (σ 86) Λ t)) 0 p none := hs.1
        have h2 : ∀ z, o = some z → z.2 ≤ 8 := hs.2.1
        have h3 : INv ρ (σ 86) Λ t := hs.2.2.1
        have h4 : FrC σ ρ := hs.2.2.2
        have e : ρ 5 2 = nI (vn (σ 86)) := by rw [(cv_C hI.1 h4 (by omega)).1.1, hn.1]
        have st : tpS (σ 86) Λ t (cr0 (σ 86) Λ t) p o = fo (tpS (σ 86) Λ t (cr0 (σ 86) Λ t)) 0 (p + 1) none := by rw [fo_s, ← h1]
        show ∃ s', fX10_tips_36 (f + 1) (cr0 (σ 86) Λ t) (vbeg (σ 86)) (tp1 o) (tp2 9 o) (nI p) ρ = _ ∧ _
        rw [fX10_tips_36, e, if_neg (nI_ge (by omega) (by omega)), c_hasBit (by omega), Option.bind_some]
        by_cases q : bt (cr0 (σ 86) Λ t) p = true
        · obtain ⟨σ9, k1, k2, k3, k4⟩ := c_gather2 hn.2 ht h3 (vbeg (σ 86)) (bs p)
          have k1' : fX0_gather (vbeg (σ 86)) ((1 : Int32) <<< (nI p &&& 31)) ρ = some σ9 := k1
          have hc := pc_le (crowd (σ 86) Λ t (vbeg (σ 86)) (bs p)).1
          refine ⟨(tpS (σ 86) Λ t (cr0 (σ 86) Λ t) p o, σ9), ?_, st, tp_le h2, k3, h4.tr k4⟩
          rw [if_pos q, if_neg (by decide)]
          unfold fX10_sizeBy fX10_tips_71
          rw [k1', Option.bind_some, bi_some, k2.2.1, nI_1]
          unfold tpS
          rw [if_pos q]
          cases o with
          | none => rw [if_neg (show ¬ tp2 9 none ≤ _ by rw [q_le, nI_toInt (by omega)]; show ¬ (9 : Int) ≤ _; omega)]; try rfl
          | some z =>
            have hz := h2 z rfl
            show (if nI z.2 ≤ nI _ then _ else _) = fX10_tips_36 f _ _ (tp1 (if z.2 ≤ _ then some z else _)) (tp2 9 (if z.2 ≤ _ then some z else _)) _ _
            by_cases y : z.2 ≤ pc (crowd (σ 86) Λ t (vbeg (σ 86)) (bs p)).1
            · rw [if_pos ((nI_le_iff (by omega) (by omega)).mpr y), if_pos y]; try rfl
            · rw [if_neg (fun w => y ((nI_le_iff (by omega) (by omega)).mp w)), if_neg y]; try rfl
        · refine ⟨(tpS (σ 86) Λ t (cr0 (σ 86) Λ t) p o, ρ), ?_, st, tp_le h2, h3, h4⟩
          rw [if_neg q, if_pos rfl]
          unfold fX10_tips_71 tpS
          rw [if_pos (show tp2 9 o ≤ tp2 9 o by rw [q_le]; omega), if_neg q, nI_1]) (vn (σ 86)) 0 5000 (none, σ1) (by omega) (by omega) ⟨rfl, (fun z hz => by cases hz), g3, g4⟩
    refine agb_ro hI (x := tp1 s.1) (σ1 := s.2) (by rw [g1, Option.bind_some, c_beg g5 hI.2.1, Option.bind_some, g2.1]; exact j1) (Core_C j5) fun τ iτ eτ => ?_
    obtain ⟨τ1, m1, m2, m3, m4, m5, m6, m7⟩ := rc iτ eτ ht
    obtain ⟨s', n1, n2, n3, n4, n5⟩ := lpE (n := vn (σ 86)) (F := fun f p (s : Option (Nat × Nat) × pn_S) => fX11_tips_36 f (nI t) (cr0 (σ 86) Λ t) (tp1 s.1) (tp2 1000000 s.1) (nI p) s.2) (out := fun s => some (tp1 s.1, s.2)) (fun p s => s.1 = fo (tpS (σ 86) Λ t (cr0 (σ 86) Λ t)) 0 p none ∧ (∀ z, s.1 = some z → z.2 ≤ 8) ∧ FrR τ s.2 ∧ NEe s.2 Λ t ∧ s.2 86 = σ 86 ∧ Inv s.2 h Λ)
      (fun f s hs => by rw [fX11_tips_36, rpe hs.2.2.2.2.2 hs.2.2.2.2.1, Option.bind_some, if_pos (nI_le (by omega) (by omega))])
      (fun f p s hp hs => by
        obtain ⟨o, ρ⟩ := s
        have h1 : o = fo (tpS (σ 86) Λ t (cr0 (σ 86) Λ t)) 0 p none := hs.1
        have h2 : ∀ z, o = some z → z.2 ≤ 8 := hs.2.1
        have h3 : FrR τ ρ := hs.2.2.1
        have h4 : NEe ρ Λ t := hs.2.2.2.1
        have h5 : ρ 86 = σ 86 := hs.2.2.2.2.1
        have h6 : Inv ρ h Λ := hs.2.2.2.2.2
        have st : tpS (σ 86) Λ t (cr0 (σ 86) Λ t) p o = fo (tpS (σ 86) Λ t (cr0 (σ 86) Λ t)) 0 (p + 1) none := by rw [fo_s, ← h1]
        show ∃ s', fX11_tips_36 (f + 1) (nI t) (cr0 (σ 86) Λ t) (tp1 o) (tp2 1000000 o) (nI p) ρ = _ ∧ _
        rw [fX11_tips_36, rpe h6 h5, Option.bind_some, if_neg (nI_ge (by omega) (by omega)), r_has (by omega), Option.bind_some]
        by_cases q : bt (cr0 (σ 86) Λ t) p = true
        · obtain ⟨σ9, k1, k2, k3, k4, k5, k6⟩ := rg2 h6 h5 ht h4 (vbeg (σ 86)) (bs p)
          have k1' : fX11_gathers (nI t) (vbeg (σ 86)) ((1 : Int32) <<< (nI p &&& 31)) ρ = some ((crowd (σ 86) Λ t (vbeg (σ 86)) (bs p)).1, σ9) := k1
          have gb : fX11_beginners ρ = some (vbeg (σ 86)) := by rw [← h5]; exact r_beg h6.2.1
          have hc := pc_le (crowd (σ 86) Λ t (vbeg (σ 86)) (bs p)).1
          refine ⟨(tpS (σ 86) Λ t (cr0 (σ 86) Λ t) p o, σ9), ?_, st, tp_le h2, h3.tr k3, k4, k5, k6⟩
          rw [if_pos q, if_neg (by decide), gb, Option.bind_some, k1', bi_some, j_bc (crowd_s8 hn.2), Option.bind_some]
          unfold fX11_tips_88
          rw [jmin, Option.bind_some, nI_1]
          unfold tpS
          rw [if_pos q]
          cases o with
          | none =>
            have y : ¬ tp2 1000000 none ≤ nI (pc (crowd (σ 86) Λ t (vbeg (σ 86)) (bs p)).1) := by rw [q_le, nI_toInt (by omega)]; show ¬ (1000000 : Int) ≤ _; omega
            rw [if_neg y, Option.bind_some, if_pos (by rw [q_le] at y; rw [q_lt]; omega)]
            rfl
          | some z =>
            have hz := h2 z rfl
            show (if nI z.2 ≤ nI _ then _ else _) = fX11_tips_36 f _ _ (tp1 (if z.2 ≤ _ then some z else _)) (tp2 1000000 (if z.2 ≤ _ then some z else _)) _ _
            by_cases y : z.2 ≤ pc (crowd (σ 86) Λ t (vbeg (σ 86)) (bs p)).1
            · rw [if_pos ((nI_le_iff (by omega) (by omega)).mpr y), if_pos y, if_neg (show ¬ nI (pc (crowd (σ 86) Λ t (vbeg (σ 86)) (bs p)).1) < tp2 1000000 (some z) from nlt_nI y (by omega))]; try rfl
            · rw [if_neg (fun w => y ((nI_le_iff (by omega) (by omega)).mp w)), if_neg y, Option.bind_some, if_pos (show nI (pc (crowd (σ 86) Λ t (vbeg (σ 86)) (bs p)).1) < tp2 1000000 (some z) from (nI_lt_iff (by omega) (by omega)).mpr (by omega))]; try rfl
        · refine ⟨(tpS (σ 86) Λ t (cr0 (σ 86) Λ t) p o, ρ), ?_, st, tp_le h2, h3, h4, h5, h6⟩
          rw [if_neg q, if_pos rfl]
          unfold tpS
          rw [if_neg q, nI_1]) (vn (σ 86)) 0 5000 (none, τ1) (by omega) (by omega) ⟨rfl, (fun z hz => by cases hz), m4, m5, m6, m7⟩
    refine ⟨s'.2, ?_, n4⟩
    rw [m1, bi_some, j2, ← n2]
    exact n1
