/-! PURE: heard, ask -/
theorem r_fits {τ : pn_S} {h : Bool} {Λ : pn_La} {V : pn_V} {t m k : Nat} (hI : Inv τ h Λ) (e : τ 86 = V) (ht : t < vn V) (hN : NEe τ Λ t) (hm : m ≤ 20) (h11 : τ 85 11 = nI (2 * m)) (ho : okA V (τ 91) m) : ∃ τ', fX11_fits (nI t) (nI k) τ = some (b01 (fit V Λ t (τ 91) m k), τ') ∧ FrR τ τ' ∧ NEe τ' Λ t := by
  have hn : vn V ≤ 8 := by rw [← e]; exact hI.2.1.n.2
  unfold fX11_fits fit
  rw [r_has (by omega), Option.bind_some]
  by_cases q : bt (nI k) t = true
  · exact ⟨τ, by rw [if_pos q, if_neg (by decide), q]; rfl, FrR.rf, hN⟩
  · obtain ⟨σ9, k1, k2, k3, k4, k5, k6⟩ := rg2 hI e ht hN (nI k) 0
    have e91 : σ9 91 = τ 91 := k3.1 91 (by omega) (by omega) (by omega) (by omega)
    have fl := r_fitl (τ := σ9) (V := V) (rd := (crowd V Λ t (nI k) 0).2.1) (m := m) hn hm (by rw [k3.2 11 (by omega)]; exact h11) (by rw [e91]; exact ho) k2 m 0 5000 (by omega) (by omega)
    have q' : bt (nI k) t = false := by simpa using q
    refine ⟨σ9, ?_, k3, k4⟩
    rw [if_neg q, if_pos rfl, k1, bi_some, q']
    rw [e91] at fl
    exact fl
theorem r_many {τ : pn_S} {h : Bool} {Λ : pn_La} {V : pn_V} {t m : Nat} (hI : Inv τ h Λ) (e : τ 86 = V) (ht : t < vn V) (hN : NEe τ Λ t) (hm : m ≤ 20) (h11 : τ 85 11 = nI (2 * m)) (ho : okA V (τ 91) m) (one : Int32) (Q : Nat → Bool) (hQ : (one = -1 ∧ Q = fun _ => true) ∨ ∃ p, p < 8 ∧ one = nI p ∧ Q = fun j => bt (nI j) p) : ∃ τ', fX11_howManyFit (nI t) one τ = some (nI (cnt (fun j => fit V Λ t (τ 91) m j && Q j) (2 ^ vn V)), τ') ∧ FrR τ τ' ∧ NEe τ' Λ t := by
  have hn : vn V ≤ 8 := by rw [← e]; exact hI.2.1.n.2
  obtain ⟨w1, w2⟩ := pow_le8 hn
  obtain ⟨s, g1, g2, g3, g4⟩ := lpE (n := 2 ^ vn V) (F := fun f k (s : Nat × pn_S) => fX11_howManyFit_5 f (nI t) one (nI s.1) (nI k) s.2) (out := fun s => some (nI s.1, s.2)) (fun k s => s.1 = cnt (fun j => fit V Λ t (τ 91) m j && Q j) k ∧ FrR τ s.2 ∧ NEe s.2 Λ t)
    (fun f s hs => by rw [fX11_howManyFit_5, rev (hI.core (Core_R hs.2.1)) (hs.2.1.w.trans e), Option.bind_some, evb_f _ (by omega), if_pos (nI_lt (by omega) (by omega))])
    (fun f k s hk hs => by
      obtain ⟨c, ρ⟩ := s
      obtain ⟨h1, h2, h3⟩ : c = cnt (fun j => fit V Λ t (τ 91) m j && Q j) k ∧ FrR τ ρ ∧ NEe ρ Λ t := hs
      have iρ := hI.core (Core_R h2)
      have eρ := h2.w.trans e
      have e91 : ρ 91 = τ 91 := h2.1 91 (by omega) (by omega) (by omega) (by omega)
      obtain ⟨ρ1, k1, k2, k3⟩ := r_fits (k := k) iρ eρ ht h3 hm (by rw [h2.2 11 (by omega)]; exact h11) (by rw [e91]; exact ho)
      rw [e91] at k1
      have st : cnt (fun j => fit V Λ t (τ 91) m j && Q j) (k + 1) = c + (if (fit V Λ t (τ 91) m k && Q k) = true then 1 else 0) := by rw [cnt_s, ← h1]
      have both : Q k = true → ∃ s' : Nat × pn_S, fX11_howManyFit_29 (fX11_howManyFit_5 f) (nI t) one (nI k) (nI c) ρ = fX11_howManyFit_5 f (nI t) one (nI s'.1) (nI (k + 1)) s'.2 ∧ s'.1 = cnt (fun j => fit V Λ t (τ 91) m j && Q j) (k + 1) ∧ FrR τ s'.2 ∧ NEe s'.2 Λ t := fun hq => by
        unfold fX11_howManyFit_29 fX11_howManyFit_43
        rw [k1, bi_some, nI_1, nI_1]
        cases hf : fit V Λ t (τ 91) m k with
        | false => exact ⟨(c, ρ1), by rw [if_pos (show b01 false = 0 from rfl), Int32.add_zero], by rw [st, hf]; rfl, h2.tr k2, k3⟩
        | true => exact ⟨(c + 1, ρ1), by rw [if_neg (show ¬ b01 true = 0 by decide)], by rw [st, hf, hq]; rfl, h2.tr k2, k3⟩
      show ∃ s', fX11_howManyFit_5 (f + 1) (nI t) one (nI c) (nI k) ρ = _ ∧ _
      rw [fX11_howManyFit_5, rev iρ eρ, Option.bind_some, evb_f _ (by omega), if_neg (nlt_nI (by omega) (by omega))]
      rcases hQ with ⟨z, zq⟩ | ⟨p, hp, z, zq⟩
      · rw [if_pos z]
        exact both (by rw [zq])
      · rw [if_neg (by rw [z]; exact nI_m1 hp), z, r_has (by omega), Option.bind_some, ← z]
        by_cases q : bt (nI k) p = true
        · rw [if_pos q, if_neg (by decide)]
          exact both (by rw [zq]; exact q)
        · rw [if_neg q, if_pos rfl]
          unfold fX11_howManyFit_43
          have q' : Q k = false := by rw [zq]; simpa using q
          exact ⟨(c, ρ), by rw [nI_1, Int32.add_zero], by rw [st, q', Bool.and_false]; rfl, h2, h3⟩) (2 ^ vn V) 0 5000 (0, τ) (by omega) (by omega) ⟨rfl, FrR.rf, hN⟩
  refine ⟨s.2, ?_, g3, g4⟩
  unfold fX11_howManyFit
  refine g1.trans ?_
  rw [g2]
theorem r_uses {σ ρ : pn_S} {h : Bool} {Λ : pn_La} {n : Nat} (hI : Inv σ h Λ) (c : CorT σ ρ) (h13 : ρ 1 3 = 0) (h9 : ρ 85 9 = nI n) : ∃ τ, fX11_uses ρ = some τ ∧ Inv τ h Λ ∧ τ 85 11 = nI n ∧ τ 91 = ρ 91 ∧ τ 85 0 = 0 ∧ τ 96 = ρ 96 ∧ τ 86 = ρ 86 := by
  refine ⟨_, rfl, ?_, ?_, ?_, ?_, ?_, ?_⟩
  · have u : ∀ i, i ≠ 85 → pn_up (pn_up (pn_up (pn_up ρ 85 0 0) 85 11 (pn_up ρ 85 0 0 85 9)) 85 9 0) 85 10 0 i = ρ i := fun i hi => by rw [pn_up_a _ _ _ _ hi, pn_up_a _ _ _ _ hi, pn_up_a _ _ _ _ hi, pn_up_a _ _ _ _ hi]
    have k : ∀ j, j = 6 ∨ j = 7 ∨ j = 14 → pn_up (pn_up (pn_up (pn_up ρ 85 0 0) 85 11 (pn_up ρ 85 0 0 85 9)) 85 9 0) 85 10 0 85 j = ρ 85 j := fun j hj => by rw [pn_up_k _ _ _ _ (by omega), pn_up_k _ _ _ _ (by omega), pn_up_k _ _ _ _ (by omega), pn_up_k _ _ _ _ (by omega)]
    refine inv_T hI (c.tr ⟨fun i hi => u i (by omega), by rw [u 0 (by omega)], by rw [u 0 (by omega)], by rw [u 14 (by omega)], by rw [u 28 (by omega)], by rw [u 41 (by omega)], by rw [u 41 (by omega)], k 6 (by omega), k 7 (by omega), k 14 (by omega)⟩) ⟨0, by omega, by rw [u 1 (by omega)]; exact h13, ?_, fun i hi => by omega⟩
    rw [pn_up_k _ _ _ _ (by omega), pn_up_s]
    rfl
  · rw [pn_up_k _ _ _ _ (by omega), pn_up_k _ _ _ _ (by omega), pn_up_s, pn_up_k _ _ _ _ (by omega), h9]
  · rw [pn_up_a _ _ _ _ (by omega), pn_up_a _ _ _ _ (by omega), pn_up_a _ _ _ _ (by omega), pn_up_a _ _ _ _ (by omega)]
  · rw [pn_up_k _ _ _ _ (by omega), pn_up_k _ _ _ _ (by omega), pn_up_k _ _ _ _ (by omega), pn_up_s]
  · rw [pn_up_a _ _ _ _ (by omega), pn_up_a _ _ _ _ (by omega), pn_up_a _ _ _ _ (by omega), pn_up_a _ _ _ _ (by omega)]
  · rw [pn_up_a _ _ _ _ (by omega), pn_up_a _ _ _ _ (by omega), pn_up_a _ _ _ _ (by omega), pn_up_a _ _ _ _ (by omega)]
def T0 (σ σ1 : pn_S) : Prop := σ1 1 3 = 0 ∧ (∀ i, 85 ≤ i → σ1 i = σ i) ∧ CorT σ σ1
theorem c_sets {σ : pn_S} {h : Bool} {Λ : pn_La} (hI : Inv σ h Λ) {n : Nat} (hn4 : n ≤ 400) (t2 : σ 1 3 = nI n) (t4 : ∀ i, i < n → σ 2 i = σ 91 i &&& 255 ∧ rg (σ 91 i) (-128) 127) (a : Int32) :
    (¬ isP (σ 86) a → ∃ σ1, fX10_findSets a σ = some (.inr "java/lang/IndexOutOfBoundsException", σ1) ∧ T0 σ σ1) ∧
    (∀ t, t < vn (σ 86) → a = nI t → tol (σ 86) (σ 91) a n = false → ∃ σ1, fX10_findSets a σ = some (.inr "java/lang/IllegalArgumentException", σ1) ∧ T0 σ σ1) ∧
    (∀ t, t < vn (σ 86) → a = nI t → tol (σ 86) (σ 91) a n = true → ∃ σ1, fX10_findSets a σ = some (.inl (), σ1) ∧ T0 σ σ1 ∧ SeT (fit (σ 86) Λ t (σ 91) (n / 2)) σ1 (2 ^ vn (σ 86)) ∧ INv σ1 (σ 86) Λ t) := by
  have hw := hI.2.1
  have hn := hw.n.2
  have fu : Fr (fun i => i = 1) σ (pn_up (pn_up σ 1 4 (σ 1 3)) 1 3 0) := fun i hi => by rw [pn_up_a _ _ _ _ hi, pn_up_a _ _ _ _ hi]
  have h14 : pn_up (pn_up σ 1 4 (σ 1 3)) 1 3 0 1 4 = nI n := by rw [pn_up_k _ _ _ _ (by omega), pn_up_s, t2]
  have h13 : pn_up (pn_up σ 1 4 (σ 1 3)) 1 3 0 1 3 = 0 := pn_up_s _ _ _ _
  have ef : fX10_findSets a σ = pn_bx (fX10_checkPerson a (pn_up (pn_up σ 1 4 (σ 1 3)) 1 3 0)) fun _ σ2 => (fX10_arePairs a σ2).bind fun x3 => if x3 = 0 then some (.inr "java/lang/IllegalArgumentException", σ2) else (fX0_invite 5 14 a σ2).bind fun σ5 => (fX6_clear σ5).bind fun σ6 => fX10_findSets_61 5000 (σ5 37 3) 0 σ6 := rfl
  generalize pn_up (pn_up σ 1 4 (σ 1 3)) 1 3 0 = u at fu h14 h13 ef
  have cu : CV u 5 (σ 86) := cv_fr hI.1 (fu 5 (by omega)) (fu 6 (by omega)) (fu 7 (by omega))
  have cl : CL u 14 h Λ := cl_fr hI.2.2.1 (by rw [fu 14 (by omega)]) (fu 15 (by omega)) (fu 16 (by omega)) (fu 17 (by omega)) (fu 18 (by omega))
  have ct : CorT σ u := ⟨fun i hi => fu i (by omega), by rw [fu 0 (by omega)], by rw [fu 0 (by omega)], by rw [fu 14 (by omega)], by rw [fu 28 (by omega)], by rw [fu 41 (by omega)], by rw [fu 41 (by omega)], by rw [fu 85 (by omega)], by rw [fu 85 (by omega)], by rw [fu 85 (by omega)]⟩
  have tu : T0 σ u := ⟨h13, fun i hi => fu i (by omega), ct⟩
  obtain ⟨ch1, ch2⟩ := c_has cu hw a
  have told : fX10_arePairs a u = some (b01 (tol (σ 86) (σ 91) a n)) := c_told cu hw hn4 h14 fun i hi => by rw [fu 2 (by omega)]; exact t4 i hi
  refine ⟨fun q => ⟨u, ?_, tu⟩, fun t ht ha hf => ⟨u, ?_, tu⟩, fun t ht ha hf => ?_⟩
  · rw [ef]
    unfold fX10_checkPerson
    rw [ch2 q, Option.bind_some, if_pos rfl, bx_inr]
  · rw [ef]
    unfold fX10_checkPerson
    rw [ch1 (by rw [ha]; exact isP_nI hw ht), Option.bind_some, if_neg (by decide), bx_inl, told, Option.bind_some, hf, if_pos (show b01 false = 0 from rfl)]
  · subst ha
    have tl := hf
    unfold tol at tl
    rw [Bool.and_eq_true] at tl
    have tl1 : n % 2 = 0 ∧ n ≤ 40 := of_decide_eq_true tl.1
    obtain ⟨m, hm⟩ : ∃ m, n = 2 * m := ⟨n / 2, by omega⟩
    have em : n / 2 = m := by omega
    rw [em] at tl ⊢
    obtain ⟨σ5, g1, g2, g3⟩ := c_invite cu hw cl hI.2.2.2.2.1 (by omega) ht
    have fl : fJ7_fill_53178 80 8 0 σ5 = some (pn_ua σ5 80 (fun j => if 0 ≤ j ∧ j < 8 then 0 else σ5 80 j)) := j_fill (r := 80) (n := 8) (x := 0) (by omega) 8 0 5000 σ5 (by omega) (by omega)
    have cr : fX6_clear σ5 = some (pn_up (pn_up (pn_ua σ5 80 (fun j => if 0 ≤ j ∧ j < 8 then 0 else σ5 80 j)) 79 1 0) 79 2 0) := by unfold fX6_clear; rw [fl, Option.bind_some]
    have f6 : Fr (fun i => i = 79 ∨ i = 80) σ5 (pn_up (pn_up (pn_ua σ5 80 (fun j => if 0 ≤ j ∧ j < 8 then 0 else σ5 80 j)) 79 1 0) 79 2 0) := ((Fr.rf.ua (by omega)).up (by omega)).up (by omega)
    have s6 : SeT (fit (σ 86) Λ t (σ 91) m) (pn_up (pn_up (pn_ua σ5 80 (fun j => if 0 ≤ j ∧ j < 8 then 0 else σ5 80 j)) 79 1 0) 79 2 0) 0 := ⟨by rw [pn_up_k _ _ _ _ (by omega), pn_up_s]; rfl, fun p hp => by rw [pn_up_a _ _ _ _ (by omega), pn_up_a _ _ _ _ (by omega), pn_ua_s, if_pos (by omega)]; rfl, fun i hi => by rw [pn_up_s, b_0]; rfl⟩
    generalize pn_up (pn_up (pn_ua σ5 80 (fun j => if 0 ≤ j ∧ j < 8 then 0 else σ5 80 j)) 79 1 0) 79 2 0 = σ6 at cr f6 s6
    have fh : FrS9 u σ6 := (FrS9_C g3).tr (FrS9_S f6)
    have in6 : INv σ6 (σ 86) Λ t := by unfold INv; rw [f6 37 (by omega), f6 38 (by omega), f6 39 (by omega)]; exact g2
    obtain ⟨σ1, k1, k2, k3, k4⟩ := c_find (w := σ 91) (m := m) hn ht in6 (by omega) (by rw [fh.1 1 (by omega) (by omega) (by omega) (by omega) (by omega) (by omega) (by omega) (by omega) (by omega), ← hm]; exact h14) (fun i hi => by rw [fh.1 2 (by omega) (by omega) (by omega) (by omega) (by omega) (by omega) (by omega) (by omega) (by omega), fu 2 (by omega)]; exact t4 i (by omega)) (okA_of tl.2) s6
    have fa := fh.tr k4
    have e : ∀ i, i ≠ 14 → i ≠ 19 → i ≠ 20 → i ≠ 37 → i ≠ 38 → i ≠ 39 → i ≠ 40 → i ≠ 79 → i ≠ 80 → σ1 i = u i := fa.1
    have cT : CorT u σ1 := by
      refine ⟨fun i hi => e i (by omega) (by omega) (by omega) (by omega) (by omega) (by omega) (by omega) (by omega) (by omega), ?_, ?_, fa.2 6 (by omega) (by omega) (by omega), ?_, ?_, ?_, ?_, ?_, ?_⟩ <;> rw [e _ (by omega) (by omega) (by omega) (by omega) (by omega) (by omega) (by omega) (by omega) (by omega)]
    refine ⟨σ1, ?_, ⟨by rw [e 1 (by omega) (by omega) (by omega) (by omega) (by omega) (by omega) (by omega) (by omega) (by omega)]; exact h13, fun i hi => (e i (by omega) (by omega) (by omega) (by omega) (by omega) (by omega) (by omega) (by omega) (by omega)).trans (tu.2.1 i hi), ct.tr cT⟩, k2, k3⟩
    rw [ef]
    unfold fX10_checkPerson
    rw [ch1 (isP_nI hw ht), Option.bind_some, if_neg (by decide), bx_inl, told, Option.bind_some, hf, if_neg (show ¬ b01 true = 0 by decide), g1, Option.bind_some, cr, Option.bind_some]
    have e37 : σ5 37 3 = σ6 37 3 := by rw [f6 37 (by omega)]
    rw [e37]
    exact k1
/-- the looks are done by findSets and by the reference alike -/
theorem ag_s {fc : pn_S → Option ((Int32 ⊕ String) × pn_S)} {fr : pn_S → Option (Int32 × pn_S)} {hL : String → Option Int32} {Bc : pn_S → Option ((Int32 ⊕ String) × pn_S)} {Br : pn_S → Option (Int32 × pn_S)} {a : Int32} (F : Int32 → pn_S → Option (Int32 × pn_S))
    (hfc : ∀ σ, fc σ = pn_bx (fX10_findSets a σ) fun _ σ1 => Bc σ1)
    (hfr : ∀ σ, fr σ = (fX11_uses σ).bind fun σ1 => (fX11_nobody a σ1).bind fun x2 => pn_bi (fX11_throwsIf x2 1 σ1) fun x3 σ3 => if x3 = 0 then (fX11_isTold a σ3).bind fun x5 => if x5 = 0 then F 1 σ3 else F 0 σ3 else some (0, σ3))
    (hF : ∀ s σ, F s σ = pn_bi (fX11_throwsIf s 2 σ) fun x7 σ7 => if x7 = 0 then Br σ7 else some (0, σ7))
    (hh : hL "java/lang/IndexOutOfBoundsException" = some 1) (hh2 : hL "java/lang/IllegalArgumentException" = some 2)
    (hok : ∀ (V : pn_V) (h : Bool) (Λ : pn_La) (t m : Nat) (w : Nat → Int32) (σ1 : pn_S), VW V → t < vn V → a = nI t → m ≤ 20 → okA V w m → SeT (fit V Λ t w m) σ1 (2 ^ vn V) → INv σ1 V Λ t → ∃ x, Bc σ1 = some (.inl x, σ1) ∧ ∀ τ, Inv τ h Λ → τ 86 = V → τ 91 = w → τ 85 11 = nI (2 * m) → ∃ τ', Br τ = some (x, τ') ∧ FrR τ τ') : Ag fc fr hL := by
  intro σ h Λ hI
  obtain ⟨n, t1, t2, t3, t4⟩ := hI.2.2.2.2.2.1
  have hw := hI.2.1
  obtain ⟨s1, s2, s3⟩ := c_sets hI t1 t2 t4 a
  have us : ∀ σ1 ρ : pn_S, T0 σ σ1 → (ρ = σ1 ∨ ∃ y, ρ = pn_up σ1 96 0 y) → ∃ τ, fX11_uses ρ = some τ ∧ Inv τ h Λ ∧ τ 85 11 = nI n ∧ τ 91 = σ 91 ∧ τ 85 0 = 0 ∧ τ 96 = ρ 96 ∧ τ 86 = σ 86 := fun σ1 ρ T hρ => by
    obtain ⟨z1, z2, z3⟩ := T
    rcases hρ with rfl | ⟨y, rfl⟩
    · obtain ⟨τ, k1, k2, k3, k4, k5, k6, k7⟩ := r_uses (n := n) hI z3 z1 (by rw [z2 85 (by omega)]; exact t3)
      exact ⟨τ, k1, k2, k3, k4.trans (z2 91 (by omega)), k5, k6, k7.trans (z2 86 (by omega))⟩
    · obtain ⟨τ, k1, k2, k3, k4, k5, k6, k7⟩ := r_uses (ρ := pn_up σ1 96 0 y) (n := n) hI (z3.tr (Core_96.T)) (by rw [pn_up_a _ _ _ _ (by omega)]; exact z1) (by rw [pn_up_a _ _ _ _ (by omega), z2 85 (by omega)]; exact t3)
      exact ⟨τ, k1, k2, k3, by rw [k4, pn_up_a _ _ _ _ (by omega), z2 91 (by omega)], k5, k6, by rw [k7, pn_up_a _ _ _ _ (by omega), z2 86 (by omega)]⟩
  rcases isP_dec (σ 86) a with q | q
  · obtain ⟨t, ht, ha⟩ := q.nat
    cases hf : tol (σ 86) (σ 91) a n with
    | false =>
      obtain ⟨σ1, e1, T⟩ := s2 t ht ha hf
      obtain ⟨τ, k1, k2, k3, k4, k5, k6, k7⟩ := us σ1 σ1 T (Or.inl rfl)
      have nb := r_nob (σ := τ) k2.2.1 a
      rw [k7] at nb
      have tld := r_told (t := a) k7 hw t1 k3
      rw [k4, hf] at tld
      refine Or.inr ⟨_, σ1, 0, pn_up τ 85 0 2, h, Λ, by rw [hfc, e1, bx_inr], ?_, by rw [pn_up_s]; exact hh2, by rw [pn_up_s]; decide, k2.core Core_thrown⟩
      rw [hfr, k1, Option.bind_some, nb.1 q, Option.bind_some, r_t0, bi_some, if_pos rfl, tld, Option.bind_some, if_pos (show b01 false = 0 from rfl), hF, r_t1, bi_some, if_neg (by decide)]
    | true =>
      obtain ⟨σ1, e1, T, st, inv⟩ := s3 t ht ha hf
      have tl := hf
      unfold tol at tl
      rw [Bool.and_eq_true] at tl
      have tl1 : n % 2 = 0 ∧ n ≤ 40 := of_decide_eq_true tl.1
      obtain ⟨x, x1, x2⟩ := hok (σ 86) h Λ t (n / 2) (σ 91) σ1 hw ht ha (by omega) (okA_of tl.2) st inv
      refine Or.inl ⟨x, σ1, by rw [hfc, e1, bx_inl, x1], fun y => ?_⟩
      obtain ⟨τ, k1, k2, k3, k4, k5, k6, k7⟩ := us σ1 (pn_up σ1 96 0 y) T (Or.inr ⟨y, rfl⟩)
      have nb := r_nob (σ := τ) k2.2.1 a
      rw [k7] at nb
      have tld := r_told (t := a) k7 hw t1 k3
      rw [k4, hf] at tld
      obtain ⟨τ', m1, m2⟩ := x2 τ k2 k7 k4 (by rw [k3, show 2 * (n / 2) = n by omega])
      refine ⟨τ', h, Λ, ?_, by rw [m2.2 0 (by omega)]; exact k5, by rw [m2.1 96 (by omega) (by omega) (by omega) (by omega), k6, pn_up_s], k2.core (Core_R m2)⟩
      rw [hfr, k1, Option.bind_some, nb.1 q, Option.bind_some, r_t0, bi_some, if_pos rfl, tld, Option.bind_some, if_neg (show ¬ b01 true = 0 by decide), hF, r_t0, bi_some, if_pos rfl, m1]
  · obtain ⟨σ1, e1, T⟩ := s1 q
    obtain ⟨τ, k1, k2, k3, k4, k5, k6, k7⟩ := us σ1 σ1 T (Or.inl rfl)
    have nb := r_nob (σ := τ) k2.2.1 a
    rw [k7] at nb
    refine Or.inr ⟨_, σ1, 0, pn_up τ 85 0 1, h, Λ, by rw [hfc, e1, bx_inr], ?_, by rw [pn_up_s]; exact hh, by rw [pn_up_s]; decide, k2.core Core_thrown⟩
    rw [hfr, k1, Option.bind_some, nb.2 q, Option.bind_some, r_t1, bi_some, if_neg (by decide)]
theorem bt_hi : ∀ n, n < 9 → ∀ k, k < 2 ^ n → ∀ i, i < 32 → n ≤ i → bt (nI k) i = false := by decide +kernel
theorem ag_heard (a b : Int32) : Ag (fX10_heard a b) (fX11_heard a b) hL_heard :=
  ag_s (a := a) (fX11_heard_31 a b) (fun _ => rfl) (fun _ => rfl) (fun _ _ => rfl) (if_pos rfl) ((if_neg (by decide)).trans (if_pos rfl)) fun V h Λ t m w σ1 hw ht ha hm ho st inv => by
    subst ha
    have hn := hw.n.2
    obtain ⟨w1, w2⟩ := pow_le8 hn
    refine ⟨if b = 0 then nI (cnt (fit V Λ t w m) (2 ^ vn V)) else σ1 79 2, by rw [st.1]; split <;> rfl, fun τ iτ eτ e91 e11 => ?_⟩
    obtain ⟨τ1, l1, l2, l3⟩ := r_lays (t := t) iτ.2.1 (by rw [eτ]; exact ht) iτ.2.2.2.1 iτ.2.2.2.2.1
    have ne : NEe τ1 Λ t := fun q hq => by rw [l3.w] at hq ⊢; exact l2 q hq
    have i1 := iτ.core (Core_R l3)
    have e1 := l3.w.trans eτ
    have e91' : τ1 91 = w := (l3.1 91 (by omega) (by omega) (by omega) (by omega)).trans e91
    obtain ⟨τ2, m1, m2, m3⟩ := r_many i1 e1 ht ne hm (by rw [l3.2 11 (by omega)]; exact e11) (by rw [e91']; exact ho) (-1) (fun _ => true) (Or.inl ⟨rfl, rfl⟩)
    rw [e91'] at m1
    have ec : cnt (fun j => fit V Λ t w m j && true) (2 ^ vn V) = cnt (fit V Λ t w m) (2 ^ vn V) := cnt_c fun k _ => by rw [Bool.and_true]
    rw [ec] at m1
    rw [l1, Option.bind_some, m1, bi_some]
    by_cases q : b = 0
    · exact ⟨τ2, by rw [if_pos q, if_pos q], l3.tr m2⟩
    · rw [if_neg q, if_neg q]
      have cm := cnt_m (fit V Λ t w m) (2 ^ vn V)
      obtain ⟨s, g1, g2, g3, g4⟩ := lpE (n := vn V) (F := fun f p (s : Int32 × pn_S) => fX11_heard_64 f (nI t) (nI (cnt (fit V Λ t w m) (2 ^ vn V))) s.1 (nI p) s.2) (out := fun s => some (s.1, s.2)) (fun p s => s.1 = fo (fun p acc => acc ||| (if 0 < cnt (fit V Λ t w m) (2 ^ vn V) ∧ cnt (fun j => fit V Λ t w m j && bt (nI j) p) (2 ^ vn V) = cnt (fit V Λ t w m) (2 ^ vn V) then bs p else 0)) 0 p 0 ∧ FrR τ s.2 ∧ NEe s.2 Λ t)
        (fun f s hs => by rw [fX11_heard_64, rpe (iτ.core (Core_R hs.2.1)) (hs.2.1.w.trans eτ), Option.bind_some, if_pos (nI_le (by omega) (by omega))])
        (fun f p s hp hs => by
          obtain ⟨acc, ρ⟩ := s
          obtain ⟨h1, h2, h3⟩ := hs
          have h2 : FrR τ ρ := h2
          have h3 : NEe ρ Λ t := h3
          have iρ := iτ.core (Core_R h2)
          have eρ := h2.w.trans eτ
          have e91ρ : ρ 91 = w := (h2.1 91 (by omega) (by omega) (by omega) (by omega)).trans e91
          show ∃ s', fX11_heard_64 (f + 1) (nI t) (nI (cnt (fit V Λ t w m) (2 ^ vn V))) acc (nI p) ρ = _ ∧ _
          rw [fX11_heard_64, rpe iρ eρ, Option.bind_some, if_neg (nI_ge (by omega) (by omega))]
          unfold fX11_heard_97
          by_cases z : cnt (fit V Λ t w m) (2 ^ vn V) = 0
          · refine ⟨(acc ||| 0, ρ), by rw [if_pos (show nI (cnt (fit V Λ t w m) (2 ^ vn V)) ≤ 0 by rw [z]; decide), nI_1], ?_, h2, h3⟩
            rw [fo_s, ← h1]
            show acc ||| 0 = acc ||| _
            rw [if_neg (by omega)]
          · have zz : ¬ nI (cnt (fit V Λ t w m) (2 ^ vn V)) ≤ 0 := by rw [q_le, nI_toInt (by omega)]; show ¬ _ ≤ (0 : Int); omega
            obtain ⟨ρ1, k1, k2, k3⟩ := r_many iρ eρ ht h3 hm (by rw [h2.2 11 (by omega)]; exact e11) (by rw [e91ρ]; exact ho) (nI p) (fun j => bt (nI j) p) (Or.inr ⟨p, by omega, rfl, rfl⟩)
            rw [e91ρ] at k1
            have cm2 := cnt_m (fun j => fit V Λ t w m j && bt (nI j) p) (2 ^ vn V)
            rw [if_neg zz, k1, bi_some, nI_1]
            by_cases y : cnt (fun j => fit V Λ t w m j && bt (nI j) p) (2 ^ vn V) = cnt (fit V Λ t w m) (2 ^ vn V)
            · refine ⟨(acc ||| bs p, ρ1), by rw [if_pos (by rw [y])]; rfl, ?_, h2.tr k2, k3⟩
              rw [fo_s, ← h1]
              show acc ||| bs p = acc ||| _
              rw [if_pos ⟨by omega, y⟩]
            · refine ⟨(acc ||| 0, ρ1), by rw [if_neg (fun u => y ((nI_eq (by omega) (by omega)).mp u))], ?_, h2.tr k2, k3⟩
              rw [fo_s, ← h1]
              show acc ||| 0 = acc ||| _
              rw [if_neg (fun u => y u.2)]) (vn V) 0 5000 (0, τ2) (by omega) (by omega) ⟨rfl, l3.tr m2, m3⟩
      refine ⟨s.2, ?_, g3⟩
      refine g1.trans ?_
      rw [g2]
      congr 2
      have bits : ∀ n, n ≤ 8 → ∀ i, i < 32 → bt (fo (fun p acc => acc ||| (if 0 < cnt (fit V Λ t w m) (2 ^ vn V) ∧ cnt (fun j => fit V Λ t w m j && bt (nI j) p) (2 ^ vn V) = cnt (fit V Λ t w m) (2 ^ vn V) then bs p else 0)) 0 n 0) i = decide (i < n ∧ 0 < cnt (fit V Λ t w m) (2 ^ vn V) ∧ cnt (fun j => fit V Λ t w m j && bt (nI j) i) (2 ^ vn V) = cnt (fit V Λ t w m) (2 ^ vn V)) := by
        intro n
        induction n with
        | zero => intro _ i hi; rw [decide_eq_false (by omega)]; exact b_0 i
        | succ n ih =>
          intro hn8 i hi
          rw [fo_s]
          show bt (_ ||| _) i = _
          rw [b_or, ih (by omega) i hi]
          by_cases c : 0 < cnt (fit V Λ t w m) (2 ^ vn V) ∧ cnt (fun j => fit V Λ t w m j && bt (nI j) n) (2 ^ vn V) = cnt (fit V Λ t w m) (2 ^ vn V)
          · rw [if_pos c, bt_bs (by omega) hi]
            by_cases e : i = n
            · subst e
              rw [decide_eq_true rfl, Bool.or_true, decide_eq_true ⟨by omega, c⟩]
            · rw [decide_eq_false e, Bool.or_false]
              by_cases d : i < n
              · simp [d, show i < n + 1 by omega]
              · simp [d, show ¬ i < n + 1 by omega]
          · rw [if_neg c, b_0, Bool.or_false]
            by_cases e : i = n
            · subst e
              rw [decide_eq_false (fun u => by omega), decide_eq_false (fun u => c u.2)]
            · by_cases d : i < n
              · simp [d, show i < n + 1 by omega]
              · simp [d, show ¬ i < n + 1 by omega]
      refine b_ext fun i hi => ?_
      rw [bits (vn V) hn i hi, st.2.2 i hi]
      by_cases d : i < vn V
      · simp [d]
      · have z : cnt (fun j => fit V Λ t w m j && bt (nI j) i) (2 ^ vn V) = 0 := cnt_0 _ fun k hk => by rw [bt_hi (vn V) (by omega) k hk i hi (by omega), Bool.and_false]
        rw [z, decide_eq_false (by omega), decide_eq_false (by omega)]
/-! ask -/
def akS (t n : Nat) (g : Nat → Nat) (p : Nat) (o : Option (Nat × Nat)) : Option (Nat × Nat) := if p < n ∧ p ≠ t then (match o with
  | none => some (p, g p)
  | some z => if z.2 ≤ g p then some z else some (p, g p)) else o
theorem ak_le {t n : Nat} {g : Nat → Nat} (hg : ∀ p, g p ≤ 256) {p : Nat} {o : Option (Nat × Nat)} (hp : p < 8) (h : ∀ z, o = some z → z.2 ≤ 256 ∧ z.1 < 8) : ∀ z, akS t n g p o = some z → z.2 ≤ 256 ∧ z.1 < 8 := by
  intro z hz
  have hc := hg p
  unfold akS at hz
  split at hz
  · cases o with
    | none => cases hz; exact ⟨hc, hp⟩
    | some y =>
      have hz : (if y.2 ≤ g p then some y else some (p, g p)) = some z := hz
      split at hz <;> cases hz
      · exact h _ rfl
      · exact ⟨hc, hp⟩
  · exact h z hz
def grt (c x : Nat) : Nat := if x < c - x then c - x else x
theorem jmaxN {c x : Nat} (hx : x ≤ c) (hc : c ≤ 256) (σ : pn_S) : fJ9_max_7cf53 (nI x) (nI c - nI x) σ = some (nI (grt c x)) := by
  have e : nI c - nI x = nI (c - x) := by
    rw [q_eq, q_sub (by rw [nI_toInt (by omega), nI_toInt (by omega)]; omega) (by rw [nI_toInt (by omega), nI_toInt (by omega)]; omega), nI_toInt (by omega), nI_toInt (by omega), nI_toInt (by omega)]
    omega
  rw [jmax, e]
  unfold grt
  by_cases q : x < c - x
  · rw [if_pos ((nI_lt_iff (by omega) (by omega)).mpr q), if_pos q]
  · rw [if_neg (fun z => q ((nI_lt_iff (by omega) (by omega)).mp z)), if_neg q]
theorem grt_le {c x : Nat} (hx : x ≤ c) : grt c x ≤ c := by unfold grt; split <;> omega
theorem ag_ask (a : Int32) : Ag (fX10_ask a) (fX11_ask a) hL_ask :=
  ag_s (a := a) (fX11_ask_31 a) (fun _ => rfl) (fun _ => rfl) (fun _ _ => rfl) (if_pos rfl) ((if_neg (by decide)).trans (if_pos rfl)) fun V h Λ t m w σ1 hw ht ha hm ho st inv => by
    subst ha
    have hn := hw.n.2
    obtain ⟨w1, w2⟩ := pow_le8 hn
    have cm := cnt_m (fit V Λ t w m) (2 ^ vn V)
    have cl : ∀ p, cnt (fun j => fit V Λ t w m j && bt (nI j) p) (2 ^ vn V) ≤ cnt (fit V Λ t w m) (2 ^ vn V) := fun p => cnt_le _ _ _
    have rA : ∀ τ, Inv τ h Λ → τ 86 = V → τ 91 = w → τ 85 11 = nI (2 * m) → ∃ τ2, (fX11_laysNeeds (nI t) τ).bind (fun σ9 => pn_bi (fX11_howManyFit (nI t) (-1) σ9) fun x10 σ10 => fX11_ask_62 5000 (nI t) x10 (-1) 1000000 0 σ10) = fX11_ask_62 5000 (nI t) (nI (cnt (fit V Λ t w m) (2 ^ vn V))) (-1) 1000000 0 τ2 ∧ FrR τ τ2 ∧ NEe τ2 Λ t := fun τ iτ eτ e91 e11 => by
      obtain ⟨τ1, l1, l2, l3⟩ := r_lays (t := t) iτ.2.1 (by rw [eτ]; exact ht) iτ.2.2.2.1 iτ.2.2.2.2.1
      have ne : NEe τ1 Λ t := fun q hq => by rw [l3.w] at hq ⊢; exact l2 q hq
      have e91' : τ1 91 = w := (l3.1 91 (by omega) (by omega) (by omega) (by omega)).trans e91
      obtain ⟨τ2, m1, m2, m3⟩ := r_many (iτ.core (Core_R l3)) (l3.w.trans eτ) ht ne hm (by rw [l3.2 11 (by omega)]; exact e11) (by rw [e91']; exact ho) (-1) (fun _ => true) (Or.inl ⟨rfl, rfl⟩)
      rw [e91'] at m1
      have ec : cnt (fun j => fit V Λ t w m j && true) (2 ^ vn V) = cnt (fit V Λ t w m) (2 ^ vn V) := cnt_c fun k _ => by rw [Bool.and_true]
      rw [ec] at m1
      exact ⟨τ2, by rw [l1, Option.bind_some, m1, bi_some], l3.tr m2, m3⟩
    by_cases few : cnt (fit V Λ t w m) (2 ^ vn V) < 2
    · refine ⟨-1, ?_, fun τ iτ eτ e91 e11 => ?_⟩
      · unfold fX6_bestToAsk
        rw [fX6_bestToAsk_10, if_neg (by decide), st.1, if_pos (show nI _ < 2 from (nI_lt_iff (b := 2) (by omega) (by omega)).mpr few), Option.bind_some]
      · obtain ⟨τ2, r1, r2, r3⟩ := rA τ iτ eτ e91 e11
        refine ⟨τ2, ?_, r2⟩
        rw [r1, fX11_ask_62, rpe (iτ.core (Core_R r2)) (r2.w.trans eτ), Option.bind_some]
        by_cases z : nI (vn V) ≤ 0
        · rw [if_pos z]
        · rw [if_neg z, if_pos (show nI _ ≤ 1 from (nI_le_iff (b := 1) (by omega) (by omega)).mpr (by omega))]
    · let g : Nat → Nat := fun p => grt (cnt (fit V Λ t w m) (2 ^ vn V)) (cnt (fun j => fit V Λ t w m j && bt (nI j) p) (2 ^ vn V))
      have hg : ∀ p, g p ≤ 256 := fun p => Nat.le_trans (grt_le (cl p)) (by omega)
      obtain ⟨s, j1, j2, j3⟩ := lpE (n := 8) (F := fun f p (o : Option (Nat × Nat)) => fX6_bestToAsk_10 f (evb (vn V) &&& (bs t ^^^ (-1))) (tp1 o) (tp2 (nI (cnt (fit V Λ t w m) (2 ^ vn V))) o) (nI p) σ1) (out := fun o => some (tp1 o)) (fun p o => o = fo (akS t (vn V) g) 0 p none ∧ ∀ z, o = some z → z.2 ≤ 256 ∧ z.1 < 8)
        (fun f s _ => by rw [fX6_bestToAsk_10, if_pos (show (8 : Int32) ≤ nI 8 by decide)])
        (fun f p o hp ho' => by
          refine ⟨akS t (vn V) g p o, ?_, by rw [fo_s, ← ho'.1], ak_le hg hp ho'.2⟩
          have eb : bt (evb (vn V) &&& (bs t ^^^ (-1))) p = decide (p < vn V ∧ p ≠ t) := by
            rw [b_and, bt_evb hn, b_not (by omega), bt_bs (by omega) (by omega)]
            by_cases z1 : p < vn V <;> by_cases z2 : p = t <;> simp [z1, z2]
          rw [fX6_bestToAsk_10, if_neg (show ¬ (8 : Int32) ≤ nI p from nI_ge (b := 8) hp (by omega)), st.1, if_neg (show ¬ nI _ < 2 from nlt_nI (b := 2) (by omega) (by omega)), q_ib (by omega) (by omega), if_pos rfl, if_pos rfl, nI_clamp (by omega), st.2.1 p hp, jmaxN (cl p) (by omega), Option.bind_some, c_hasBit (by omega), Option.bind_some, eb, nI_1]
          unfold fX6_bestToAsk_69 akS
          rw [nI_1]
          by_cases z : p < vn V ∧ p ≠ t
          · rw [decide_eq_true z, if_pos rfl, if_neg (by decide), if_pos z]
            cases o with
            | none => rw [if_pos (show tp1 none = -1 from rfl)]; rfl
            | some y =>
              obtain ⟨y2, y1⟩ := ho'.2 y rfl
              have gp := hg p
              rw [if_neg (show ¬ tp1 (some y) = -1 from nI_m1 y1)]
              show (if nI y.2 ≤ nI (g p) then _ else _) = fX6_bestToAsk_10 f _ (tp1 (if y.2 ≤ g p then some y else some (p, g p))) (tp2 _ (if y.2 ≤ g p then some y else some (p, g p))) _ _
              by_cases u : y.2 ≤ g p
              · rw [if_pos ((nI_le_iff (by omega) (by omega)).mpr u), if_pos u]
              · rw [if_neg (fun v => u ((nI_le_iff (by omega) (by omega)).mp v)), if_neg u]; rfl
          · rw [decide_eq_false z, if_neg (show ¬ false = true by decide), if_pos rfl, if_neg z]) 8 0 5000 none (by omega) (by omega) ⟨rfl, fun z hz => by cases hz⟩
      have e8 : fo (akS t (vn V) g) 0 8 none = fo (akS t (vn V) g) 0 (vn V) none := by
        obtain ⟨d, hd⟩ : ∃ d, 8 = vn V + d := ⟨8 - vn V, by omega⟩
        rw [hd, fo_app]
        refine fo_id _ _ _ fun q h1 h2 => ?_
        unfold akS
        rw [if_neg (by omega)]
      refine ⟨tp1 s, ?_, fun τ iτ eτ e91 e11 => ?_⟩
      · unfold fX6_bestToAsk
        rw [inv.1, st.1]
        have j1' : fX6_bestToAsk_10 5000 (evb (vn V) &&& (bs t ^^^ (-1))) (-1) (nI (cnt (fit V Λ t w m) (2 ^ vn V))) 0 σ1 = some (tp1 s) := j1
        rw [j1', Option.bind_some]
      · obtain ⟨τ2, r1, r2, r3⟩ := rA τ iτ eτ e91 e11
        obtain ⟨s', n1, n2, n3, n4, n5⟩ := lpE (n := vn V) (F := fun f p (s : Option (Nat × Nat) × pn_S) => fX11_ask_62 f (nI t) (nI (cnt (fit V Λ t w m) (2 ^ vn V))) (tp1 s.1) (tp2 1000000 s.1) (nI p) s.2) (out := fun s => some (tp1 s.1, s.2)) (fun p s => s.1 = fo (akS t (vn V) g) 0 p none ∧ (∀ z, s.1 = some z → z.2 ≤ 256 ∧ z.1 < 8) ∧ FrR τ s.2 ∧ NEe s.2 Λ t)
          (fun f s hs => by rw [fX11_ask_62, rpe (iτ.core (Core_R hs.2.2.1)) (hs.2.2.1.w.trans eτ), Option.bind_some, if_pos (nI_le (by omega) (by omega))])
          (fun f p s hp hs => by
            obtain ⟨o, ρ⟩ := s
            obtain ⟨h1, h2, h3, h4⟩ := hs
            have h1 : o = fo (akS t (vn V) g) 0 p none := h1
            have h2 : ∀ z, o = some z → z.2 ≤ 256 ∧ z.1 < 8 := h2
            have h3 : FrR τ ρ := h3
            have h4 : NEe ρ Λ t := h4
            have iρ := iτ.core (Core_R h3)
            have eρ := h3.w.trans eτ
            have e91ρ : ρ 91 = w := (h3.1 91 (by omega) (by omega) (by omega) (by omega)).trans e91
            have st' : akS t (vn V) g p o = fo (akS t (vn V) g) 0 (p + 1) none := by rw [fo_s, ← h1]
            show ∃ s', fX11_ask_62 (f + 1) (nI t) (nI (cnt (fit V Λ t w m) (2 ^ vn V))) (tp1 o) (tp2 1000000 o) (nI p) ρ = _ ∧ _
            rw [fX11_ask_62, rpe iρ eρ, Option.bind_some, if_neg (nI_ge (by omega) (by omega)), if_neg (show ¬ nI _ ≤ 1 from fun z => few (by have := (nI_le_iff (b := 1) (by omega) (by omega)).mp z; omega))]
            by_cases z : p = t
            · refine ⟨(akS t (vn V) g p o, ρ), ?_, st', ak_le hg (by omega) h2, h3, h4⟩
              rw [if_pos (by rw [z]), nI_1]
              unfold akS
              rw [if_neg (fun u => u.2 z)]
            · obtain ⟨ρ1, k1, k2, k3⟩ := r_many iρ eρ ht h4 hm (by rw [h3.2 11 (by omega)]; exact e11) (by rw [e91ρ]; exact ho) (nI p) (fun j => bt (nI j) p) (Or.inr ⟨p, by omega, rfl, rfl⟩)
              rw [e91ρ] at k1
              refine ⟨(akS t (vn V) g p o, ρ1), ?_, st', ak_le hg (by omega) h2, h3.tr k2, k3⟩
              rw [if_neg (fun u => z ((nI_eq (by omega) (by omega)).mp u)), k1, bi_some, jmaxN (cl p) (by omega), Option.bind_some]
              unfold fX11_ask_118
              rw [jmin, Option.bind_some, nI_1]
              unfold akS
              rw [if_pos (show p < vn V ∧ p ≠ t from ⟨hp, z⟩)]
              have gp := hg p
              cases o with
              | none =>
                have y : ¬ tp2 1000000 none ≤ nI (g p) := by rw [q_le, nI_toInt (by omega)]; show ¬ (1000000 : Int) ≤ _; omega
                show (if tp2 1000000 none ≤ nI (g p) then _ else _) = _
                rw [if_neg y, Option.bind_some, if_pos (show nI (g p) < tp2 1000000 none by rw [q_le] at y; rw [q_lt]; omega)]
                rfl
              | some y =>
                obtain ⟨y2, y1⟩ := h2 y rfl
                show (if nI y.2 ≤ nI (g p) then _ else _) = fX11_ask_62 f _ _ (tp1 (if y.2 ≤ g p then some y else some (p, g p))) (tp2 _ (if y.2 ≤ g p then some y else some (p, g p))) _ _
                by_cases u : y.2 ≤ g p
                · rw [if_pos ((nI_le_iff (by omega) (by omega)).mpr u), if_pos u, if_neg (show ¬ nI (g p) < tp2 1000000 (some y) from nlt_nI u (by omega))]
                · rw [if_neg (fun v => u ((nI_le_iff (by omega) (by omega)).mp v)), if_neg u, Option.bind_some, if_pos (show nI (g p) < tp2 1000000 (some y) from (nI_lt_iff (by omega) (by omega)).mpr (by omega))]
                  rfl) (vn V) 0 5000 (none, τ2) (by omega) (by omega) ⟨rfl, (fun z hz => by cases hz), r2, r3⟩
        refine ⟨s'.2, ?_, n4⟩
        rw [r1, j2, e8, ← n2]
        exact n1
