/-! PURE: prices -/
def cr0 (V : pn_V) (Λ : pn_La) (t : Nat) : Int32 := (crowd V Λ t (vbeg V) 0).1
/-- what t would pay at this ale; none: -1 -/
def paid (V : pn_V) (Λ : pn_La) (t : Nat) (ale : Int32) : Int32 := if nz (pans V Λ t) (cr0 V Λ t) < tr V t 2 then -1 else if tr V t 3 < ale * nI (pc (cr0 V Λ t)) then -1 else ale * nI (pc (cr0 V Λ t))
theorem c_would {σ : pn_S} {V : pn_V} {Λ : pn_La} {t : Nat} (h : CV σ 5 V) (hw : VW V) (ht : t < vn V) (hc : CC σ (pans V Λ t) (crowd V Λ t (vbeg V) 0)) (ale : Int32) : fX10_wouldPay (nI t) ale σ = some (if nz (pans V Λ t) (cr0 V Λ t) < tr V t 2 then 0 else if tr V t 3 < ale * nI (pc (cr0 V Λ t)) then 0 else 1) := by
  have g : fX8_of 5 (nI t) 2 σ = some (tr V t 2) := c_of h hw ht (k := 2) (by omega)
  have g' : fX8_of 5 (nI t) 3 σ = some (tr V t 3) := c_of h hw ht (k := 3) (by omega)
  unfold fX10_wouldPay
  rw [g, Option.bind_some, hc.2.2.1, g', Option.bind_some, hc.2.1]
  unfold cr0
  split
  · rfl
  · split <;> rfl
theorem r_paid {τ : pn_S} {h : Bool} {Λ : pn_La} {V : pn_V} {p : Nat} (hI : Inv τ h Λ) (e : τ 86 = V) (hp : p < vn V) (ale : Int32) : ∃ σ', fX11_paidBy (nI p) ale τ = some (paid V Λ p ale, σ') ∧ FrR τ σ' ∧ σ' 86 = V ∧ Inv σ' h Λ := by
  have hn : vn V ≤ 8 := by rw [← e]; exact hI.2.1.n.2
  obtain ⟨σ2, k1, k2, k3, k4, k5, k6, k7⟩ := rc hI e hp
  obtain ⟨σ3, m1, m2, m3, m4⟩ := rnz k7 k6 hp (cr_out (Λ := Λ) (t := p) (beg := vbeg V) (home := 0) hn (by omega))
  have g : fX11_of (nI p) 2 σ3 = some (tr V p 2) := rof m4 m3 hp (k := 2) (by omega)
  have g' : fX11_of (nI p) 3 σ3 = some (tr V p 3) := rof m4 m3 hp (k := 3) (by omega)
  refine ⟨σ3, ?_, k4.tr m2, m3, m4⟩
  unfold fX11_paidBy
  rw [k1, bi_some, r_price (crowd_s8 hn), Option.bind_some, m1, bi_some, g, Option.bind_some, g', Option.bind_some]
  unfold paid cr0
  split
  · rfl
  · split <;> rfl
theorem pc0 {c : Int32} (h : s8 c) : pc c = 0 ↔ c = 0 := by
  obtain ⟨k, hk, rfl⟩ := s8_nat h
  exact (by decide +kernel : ∀ k, k < 256 → (pc (nI k) = 0 ↔ nI k = 0)) k hk
def dear (V : pn_V) (Λ : pn_La) (t : Nat) : Int32 := if cr0 V Λ t = 0 then -1 else paid V Λ t (V 10)
theorem ag_dearest : AgI fX10_dearest fX11_dearest := agi_ro fun σ h Λ hI => by
  have hn := hI.2.1.n
  have em1 : (-1 : Int32).toInt = -1 := rfl
  have e0 : (0 : Int32).toInt = 0 := rfl
  have am1 : ∀ (p : Nat) (s : Int32 × Int32), -1 ≤ s.2.toInt → -1 ≤ (amS (dear (σ 86) Λ) p s).2.toInt := fun p s hs => by
    unfold amS
    split
    · exact hs
    · next q => rw [q_le] at q; show -1 ≤ (dear (σ 86) Λ p).toInt; omega
  obtain ⟨s, g1, g2, g3, g4⟩ := lpE (n := vn (σ 86)) (F := fun f p (s : (Int32 × Int32) × pn_S) => fX10_dearest_6 f s.1.1 s.1.2 (nI p) s.2) (out := fun s => some (s.1.1, s.2)) (fun p s => s.1 = amx (dear (σ 86) Λ) p (-1, -1) ∧ -1 ≤ s.1.2.toInt ∧ Core σ s.2)
    (fun f s hs => by
      have e : s.2 5 2 = nI (vn (σ 86)) := by rw [(hI.core hs.2.2).1.1.1, hs.2.2.w, hn.1]
      rw [fX10_dearest_6, e, if_pos (nI_le (by omega) (by omega))])
    (fun f p s hp hs => by
      have iI := hI.core hs.2.2
      have e86 := hs.2.2.w
      have e : s.2 5 2 = nI (vn (σ 86)) := by rw [iI.1.1.1, e86, hn.1]
      obtain ⟨σ1, k1, k2, k3, k4, k5, k6, k7⟩ := cs iI (t := p) (by rw [e86]; exact hp)
      rw [e86] at k2 k5 k7
      refine ⟨(amS (dear (σ 86) Λ) p s.1, σ1), ?_, by rw [amx_s, ← hs.1], am1 p s.1 hs.2.1, hs.2.2.tr (Core_C k4)⟩
      have ks : σ1 37 5 = nI (pc (cr0 (σ 86) Λ p)) := k2.2.1
      have kq : fX10_priceOf σ1 = some (σ 86 10 * nI (pc (cr0 (σ 86) Λ p))) := c_priceOf k5 k2
      rw [fX10_dearest_6, e, if_neg (nI_ge (by omega) (by omega)), k1, Option.bind_some, ks, k5.1.2.2.2.2.2.2.2.2.2.1, c_would k5 hI.2.1 hp k2, Option.bind_some, kq, Option.bind_some, Option.bind_some, nI_1]
      unfold amS dear
      have s8c : s8 (cr0 (σ 86) Λ p) := crowd_s8 hn.2
      have epc : (nI (pc (cr0 (σ 86) Λ p))).toInt = pc (cr0 (σ 86) Λ p) := nI_toInt (by have := pc_le (cr0 (σ 86) Λ p); omega)
      by_cases q : cr0 (σ 86) Λ p = 0
      · have q0 := (pc0 s8c).mpr q
        rw [if_pos q, if_pos (show nI (pc (cr0 (σ 86) Λ p)) ≤ 0 by rw [q_le, epc]; omega), if_pos (show (-1 : Int32) ≤ s.1.2 by rw [q_le]; omega)]
      · have q0 : pc (cr0 (σ 86) Λ p) ≠ 0 := fun z => q ((pc0 s8c).mp z)
        rw [if_neg q, if_neg (show ¬ nI (pc (cr0 (σ 86) Λ p)) ≤ 0 by rw [q_le, epc]; omega)]
        unfold paid
        by_cases q1 : nz (pans (σ 86) Λ p) (cr0 (σ 86) Λ p) < tr (σ 86) p 2
        · rw [if_pos q1, if_pos q1, if_pos rfl, if_pos (show (-1 : Int32) ≤ s.1.2 by rw [q_le]; omega)]
        · rw [if_neg q1, if_neg q1]
          by_cases q2 : tr (σ 86) p 3 < σ 86 10 * nI (pc (cr0 (σ 86) Λ p))
          · rw [if_pos q2, if_pos q2, if_pos rfl, if_pos (show (-1 : Int32) ≤ s.1.2 by rw [q_le]; omega)]
          · rw [if_neg q2, if_neg q2, if_neg (by decide)]
            split <;> rfl) (vn (σ 86)) 0 5000 ((-1, -1), σ) (by omega) (by omega) ⟨rfl, by rw [em1]; omega, Core.rf⟩
  refine ⟨s.1.1, s.2, g1, g4, fun τ iτ eτ => ?_⟩
  obtain ⟨s', m1, m2, m3⟩ := lpE (n := vn (σ 86)) (F := fun f p (s : (Int32 × Int32) × pn_S) => fX11_dearest_11 f s.1.1 s.1.2 (nI p) s.2) (out := fun s => some (s.1.1, s.2)) (fun p s => s.1 = amx (dear (σ 86) Λ) p (-1, -1) ∧ Core τ s.2)
    (fun f s hs => by rw [fX11_dearest_11, rpe (iτ.core hs.2) (hs.2.w.trans eτ), Option.bind_some, if_pos (nI_le (by omega) (by omega))])
    (fun f p s hp hs => by
      obtain ⟨σ1, k1, k2, k3, k4, k5, k6, k7⟩ := rc (iτ.core hs.2) (hs.2.w.trans eτ) hp
      obtain ⟨σ3, j1, j2, j3, j4⟩ := r_paid k7 k6 hp (σ 86 10)
      have fin : ∀ (n : Int32) (σ' : pn_S), fX11_dearest_43 (fX11_dearest_11 f) s.1.1 s.1.2 (nI p) n σ' = fX11_dearest_11 f (if n ≤ s.1.2 then s.1 else (nI p, n)).1 (if n ≤ s.1.2 then s.1 else (nI p, n)).2 (nI (p + 1)) σ' := fun n σ' => by
        unfold fX11_dearest_43 fX11_dearest_56
        rw [jmax, Option.bind_some, nI_1]
        by_cases q : n ≤ s.1.2
        · rw [if_pos q, if_pos q, mxa q]
        · rw [if_neg q, if_neg q, Option.bind_some, mxb q]
      by_cases q : cr0 (σ 86) Λ p = 0
      · refine ⟨(amS (dear (σ 86) Λ) p s.1, σ1), ?_, by rw [amx_s, ← hs.1], hs.2.tr (Core_R k4)⟩
        rw [fX11_dearest_11, rpe (iτ.core hs.2) (hs.2.w.trans eτ), Option.bind_some, if_neg (nI_ge (by omega) (by omega)), k1, bi_some, if_pos (show (crowd (σ 86) Λ p (vbeg (σ 86)) 0).1 = 0 from q), fin]
        unfold amS dear
        rw [if_pos q]
      · refine ⟨(amS (dear (σ 86) Λ) p s.1, σ3), ?_, by rw [amx_s, ← hs.1], (hs.2.tr (Core_R k4)).tr (Core_R j2)⟩
        rw [fX11_dearest_11, rpe (iτ.core hs.2) (hs.2.w.trans eτ), Option.bind_some, if_neg (nI_ge (by omega) (by omega)), k1, bi_some, if_neg (show ¬ (crowd (σ 86) Λ p (vbeg (σ 86)) 0).1 = 0 from q), k6, j1, bi_some, fin]
        unfold amS dear
        rw [if_neg q]) (vn (σ 86)) 0 5000 ((-1, -1), pn_up τ 85 0 0) (by omega) (by omega) ⟨rfl, Core_thrown⟩
  refine ⟨s'.2, ?_, m3⟩
  rw [g2, ← m2]
  exact m1
/-! what an ale brings -/
def inc (V : pn_V) (Λ : pn_La) (n : Nat) (ale : Nat) : Int32 := fo (fun t acc => acc + mx0 (paid V Λ t (nI ale))) 0 n 0
theorem ale_rg {a : Nat} (ha : a ≤ 20) (c : Int32) : 0 ≤ (nI a * nI (pc c)).toInt ∧ (nI a * nI (pc c)).toInt ≤ 160 := by
  have h1 := pc_le c
  have h2 : a * pc c ≤ 20 * 8 := Nat.mul_le_mul ha h1
  rw [pk_mul, nI_toInt (by omega)]
  omega
theorem mx0_id {x : Int32} (h : 0 ≤ x.toInt) : mx0 x = x := by
  have e0 : (0 : Int32).toInt = 0 := rfl
  unfold mx0
  by_cases q : 0 < x
  · rw [if_pos q]
  · rw [if_neg q, q_eq]
    rw [q_lt] at q
    omega
theorem mx_paid (V : pn_V) (Λ : pn_La) (t : Nat) {a : Nat} (ha : a ≤ 20) : mx0 (paid V Λ t (nI a)) = if (if nz (pans V Λ t) (cr0 V Λ t) < tr V t 2 then (0 : Int32) else if tr V t 3 < nI a * nI (pc (cr0 V Λ t)) then 0 else 1) = 0 then 0 else nI a * nI (pc (cr0 V Λ t)) := by
  unfold paid
  split
  · rfl
  · split
    · rfl
    · rw [if_neg (by decide), mx0_id (ale_rg ha _).1]
theorem r_brought {τ : pn_S} {h : Bool} {Λ : pn_La} {V : pn_V} (hI : Inv τ h Λ) (e : τ 86 = V) (a : Nat) : ∃ σ', fX11_broughtBy (nI a) τ = some (inc V Λ (vn V) a, σ') ∧ FrR τ σ' ∧ σ' 86 = V ∧ Inv σ' h Λ := by
  have hn : vn V ≤ 8 := by rw [← e]; exact hI.2.1.n.2
  obtain ⟨s, g1, g2, g3, g4, g5⟩ := lpE (n := vn V) (F := fun f p (s : Int32 × pn_S) => fX11_broughtBy_4 f (nI a) s.1 (nI p) s.2) (out := fun s => some (s.1, s.2)) (fun p s => s.1 = inc V Λ p a ∧ FrR τ s.2 ∧ s.2 86 = V ∧ Inv s.2 h Λ)
    (fun f s hs => by rw [fX11_broughtBy_4, rpe hs.2.2.2 hs.2.2.1, Option.bind_some, if_pos (nI_le (by omega) (by omega))])
    (fun f p s hp hs => by
      obtain ⟨σ1, k1, k2, k3, k4⟩ := r_paid hs.2.2.2 hs.2.2.1 hp (nI a)
      refine ⟨(s.1 + mx0 (paid V Λ p (nI a)), σ1), ?_, ?_, hs.2.1.tr k2, k3, k4⟩
      · rw [fX11_broughtBy_4, rpe hs.2.2.2 hs.2.2.1, Option.bind_some, if_neg (nI_ge (by omega) (by omega)), k1, bi_some, jmx, Option.bind_some, nI_1]
      · unfold inc
        rw [fo_s, hs.1]
        rfl) (vn V) 0 5000 (0, τ) (by omega) (by omega) ⟨rfl, FrR.rf, e, hI⟩
  refine ⟨s.2, ?_, g3, g4, g5⟩
  unfold fX11_broughtBy
  refine g1.trans ?_
  rw [g2]
theorem c_sums {σ : pn_S} {h : Bool} {Λ : pn_La} (hI : Inv σ h Λ) : ∃ σ', fX10_sumPrices σ = some σ' ∧ (∀ a, a ≤ 20 → σ' 84 a = inc (σ 86) Λ (vn (σ 86)) a) ∧ Core σ σ' := by
  have hn := hI.2.1.n
  have fl : fJ7_fill_53178 84 21 0 σ = some (pn_ua σ 84 (fun j => if 0 ≤ j ∧ j < 21 then 0 else σ 84 j)) := j_fill (r := 84) (n := 21) (x := 0) (by omega) 21 0 5000 σ (by omega) (by omega)
  obtain ⟨s, g1, g2, g3⟩ := lpE (n := vn (σ 86)) (F := fun f p s => fX10_sumPrices_10 f (nI p) s) (out := fun s => some s) (fun p s => (∀ a, a ≤ 20 → s 84 a = inc (σ 86) Λ p a) ∧ Core σ s)
    (fun f s hs => by
      have e : s 5 2 = nI (vn (σ 86)) := by rw [(hI.core hs.2).1.1.1, hs.2.w, hn.1]
      rw [fX10_sumPrices_10, e, if_pos (nI_le (by omega) (by omega))])
    (fun f p s hp hs => by
      have iI := hI.core hs.2
      have e86 := hs.2.w
      have e : s 5 2 = nI (vn (σ 86)) := by rw [iI.1.1.1, e86, hn.1]
      obtain ⟨σ1, k1, k2, k3, k4, k5, k6, k7⟩ := cs iI (t := p) (by rw [e86]; exact hp)
      rw [e86] at k2 k5 k7
      have z1 : σ1 84 = s 84 := k4.1 84 (by omega) (by omega) (by omega) (by omega) (by omega) (by omega) (by omega)
      obtain ⟨s2, j1, j2, j3⟩ := lpE (n := 21) (F := fun f' a s => fX10_sumPrices_28 (fX10_sumPrices_10 f) f' (nI p) (nI a) s) (out := fun s => fX10_sumPrices_10 f (nI (p + 1)) s) (fun a s' => (∀ b, b ≤ 20 → s' 84 b = if b < a then inc (σ 86) Λ (p + 1) b else inc (σ 86) Λ p b) ∧ Fr (fun i => i = 84) σ1 s')
        (fun f' s' _ => by rw [fX10_sumPrices_28, if_pos (show (20 : Int32) < nI 21 by decide), nI_1])
        (fun f' a s' ha hs' => by
          have v5 : CV s' 5 (σ 86) := cv_fr k5 (hs'.2 5 (by omega)) (hs'.2 6 (by omega)) (hs'.2 7 (by omega))
          have cc : CC s' (pans (σ 86) Λ p) (crowd (σ 86) Λ p (vbeg (σ 86)) 0) := by
            unfold CC
            rw [hs'.2 37 (by omega), hs'.2 40 (by omega)]
            exact k2
          have ea : s' 84 a = inc (σ 86) Λ p a := by rw [hs'.1 a (by omega), if_neg (by omega)]
          refine ⟨pn_up s' 84 a (inc (σ 86) Λ (p + 1) a), ?_, fun b hb => ?_, hs'.2.up rfl⟩
          · rw [fX10_sumPrices_28, if_neg (show ¬ (20 : Int32) < nI a by rw [q_lt, nI_toInt (by omega)]; show ¬ (20 : Int) < a; omega), q_ib (by omega) (by omega), if_pos rfl, c_would v5 hI.2.1 hp cc, Option.bind_some]
            unfold fX10_sumPrices_63
            rw [q_ib (by omega) (by omega), if_pos rfl, if_pos rfl, nI_clamp (by omega), nI_1, ea, cc.2.1]
            have e3 : inc (σ 86) Λ (p + 1) a = inc (σ 86) Λ p a + mx0 (paid (σ 86) Λ p (nI a)) := by unfold inc; rw [fo_s]
            rw [e3, mx_paid _ _ _ (by omega)]
            unfold cr0
            split
            · rfl
            · split <;> rfl
          · by_cases q : b = a
            · rw [q, pn_up_s, if_pos (by omega)]
            · rw [pn_up_k _ _ _ _ q, hs'.1 b hb]
              by_cases q2 : b < a
              · rw [if_pos q2, if_pos (by omega)]
              · rw [if_neg q2, if_neg (by omega)]) 21 0 5000 σ1 (by omega) (by omega) ⟨fun b hb => by rw [if_neg (by omega), z1]; exact hs.1 b hb, Fr.rf⟩
      refine ⟨s2, ?_, fun a ha => by rw [j2 a ha, if_pos (by omega)], (hs.2.tr (Core_C k4)).tr (Core_fr (j3.mono fun i hi => by unfold scr; omega))⟩
      rw [fX10_sumPrices_10, e, if_neg (nI_ge (by omega) (by omega)), k1, Option.bind_some]
      exact j1) (vn (σ 86)) 0 5000 (pn_ua σ 84 (fun j => if 0 ≤ j ∧ j < 21 then 0 else σ 84 j)) (by omega) (by omega) ⟨fun a ha => by rw [pn_ua_s, if_pos (by omega)]; rfl, Core_ua (by unfold scr; omega)⟩
  refine ⟨s, ?_, g2, g3⟩
  unfold fX10_sumPrices
  rw [fl, Option.bind_some]
  exact g1
theorem ag_brings (a : Int32) : Ag (fX10_brings a) (fX11_brings a) hL_brings :=
  ag_n (a := a) (fX11_brings_21 a) (fun _ => rfl) (fun _ => rfl) (fun _ _ => rfl) (if_pos rfl) fun σ h Λ hI h1 h2 => by
    have e0 : (0 : Int32).toInt = 0 := rfl
    have e20 : (20 : Int32).toInt = 20 := rfl
    obtain ⟨k, hk, rfl⟩ := rg_k (a := a) (n := 21) (by omega) (by omega)
    obtain ⟨σ1, g1, g2, g3⟩ := c_sums hI
    refine agb_ro hI (x := inc (σ 86) Λ (vn (σ 86)) k) (σ1 := σ1) (by rw [g1, Option.bind_some, q_ib (by omega) (by omega), if_pos rfl, nI_clamp (by omega), g2 k (by omega)]) g3 fun τ iτ eτ => ?_
    obtain ⟨σ2, m1, m2, m3, m4⟩ := r_brought iτ eτ k
    exact ⟨σ2, by rw [m1, bi_some], m2⟩
theorem fo_zero {f : Nat → Int32 → Int32} : ∀ (k p : Nat), (∀ q, f q 0 = 0) → fo f p k 0 = 0 := fun k p h => fo_id k p 0 fun q _ _ => h q
theorem inc0 (V : pn_V) (Λ : pn_La) (n : Nat) : inc V Λ n 0 = 0 := fo_zero n 0 fun q => by
  rw [mx_paid V Λ q (a := 0) (by omega)]
  have e : nI 0 * nI (pc (cr0 V Λ q)) = 0 := by rw [pk_mul, Nat.zero_mul]; rfl
  rw [e, ite_self]
  rfl
/-- the greatest, from the one at 0 -/
def bstS (g : Nat → Int32) (a : Nat) (x : Nat) : Nat := if g a ≤ g x then x else a
theorem ag_best : AgI fX10_best fX11_best := agi_ro fun σ h Λ hI => by
  obtain ⟨σ1, g1, g2, g3⟩ := c_sums hI
  have hn := hI.2.1.n.2
  obtain ⟨s, j1, j2, j3⟩ := lpE (n := 20) (F := fun f a x => fX10_best_8 f (nI x) (nI (a + 1)) σ1) (out := fun x => some (nI x, σ1)) (fun a x => x = fo (fun a => bstS (inc (σ 86) Λ (vn (σ 86))) (a + 1)) 0 a 0 ∧ x ≤ a)
    (fun f x _ => by rw [fX10_best_8, if_pos (show (20 : Int32) < nI (20 + 1) by decide)])
    (fun f a x ha hx => by
      refine ⟨_, ?_, by rw [fo_s, ← hx.1], by unfold bstS; split <;> omega⟩
      rw [fX10_best_8, if_neg (show ¬ (20 : Int32) < nI (a + 1) by rw [q_lt, nI_toInt (by omega)]; show ¬ (20 : Int) < (a + 1 : Nat); omega), q_ib (by omega) (by omega), if_pos rfl, q_ib (by omega) (by omega), if_pos rfl, nI_clamp (by omega), nI_clamp (by omega), nI_1, g2 _ (by omega), g2 _ (by omega)]
      unfold bstS
      split <;> rfl) 20 0 5000 0 (by omega) (by omega) ⟨rfl, Nat.le_refl _⟩
  refine ⟨nI s, σ1, ?_, g3, fun τ iτ eτ => ?_⟩
  · unfold fX10_best
    rw [g1, Option.bind_some]
    exact j1
  · have f0 : FrR (pn_up τ 85 0 0) (pn_up τ 85 0 0) := FrR.rf
    obtain ⟨t0, b1, b2, b3, b4⟩ := r_brought (iτ.core (Core_thrown (x := 0))) ((w85 τ 0).trans eτ) 0
    obtain ⟨s', m1, m2, m3, m4, m5, m6⟩ := lpE (n := 20) (F := fun f a (s : Nat × pn_S) => fX11_best_11 f (nI s.1) (inc (σ 86) Λ (vn (σ 86)) s.1) (nI (a + 1)) s.2) (out := fun s => some (nI s.1, s.2)) (fun a s => s.1 = fo (fun a => bstS (inc (σ 86) Λ (vn (σ 86))) (a + 1)) 0 a 0 ∧ s.1 ≤ a ∧ Core τ s.2 ∧ s.2 86 = σ 86 ∧ Inv s.2 h Λ)
      (fun f x _ => by rw [fX11_best_11, if_pos (show (20 : Int32) < nI (20 + 1) by decide)])
      (fun f a s ha hs => by
        obtain ⟨t1, c1, c2, c3, c4⟩ := r_brought hs.2.2.2.2 hs.2.2.2.1 (a + 1)
        refine ⟨(bstS (inc (σ 86) Λ (vn (σ 86))) (a + 1) s.1, t1), ?_, by rw [fo_s, ← hs.1], by show bstS _ _ _ ≤ _; unfold bstS; have := hs.2.1; split <;> omega, hs.2.2.1.tr (Core_R c2), c3, c4⟩
        rw [fX11_best_11, if_neg (show ¬ (20 : Int32) < nI (a + 1) by rw [q_lt, nI_toInt (by omega)]; show ¬ (20 : Int) < (a + 1 : Nat); omega), c1, bi_some]
        unfold fX11_best_35 bstS
        rw [jmax, Option.bind_some, nI_1]
        by_cases q : inc (σ 86) Λ (vn (σ 86)) (a + 1) ≤ inc (σ 86) Λ (vn (σ 86)) s.1
        · rw [if_pos q, if_pos q, mxa q]
        · rw [if_neg q, if_neg q, Option.bind_some, mxb q]) 20 0 4999 (0, t0) (by omega) (by omega) ⟨rfl, Nat.le_refl _, (Core_thrown (x := 0)).tr (Core_R b2), b3, b4⟩
    refine ⟨s'.2, ?_, m4⟩
    rw [j2, ← m2]
    unfold fX11_best
    rw [fX11_best_11, if_neg (by decide)]
    have b1' : fX11_broughtBy 0 (pn_up τ 85 0 0) = some (inc (σ 86) Λ (vn (σ 86)) 0, t0) := b1
    rw [b1', bi_some]
    unfold fX11_best_35
    rw [inc0, if_neg (by decide), jmax, Option.bind_some]
    rw [inc0] at m1
    exact m1
