/-! PURE: the tape -/
def byt (x : Int32) (q : Nat) : Int32 := ((x.toUInt32 >>> ((nI (24 - 8 * q)).toUInt32 &&& Int32.toUInt32 31)).toInt32) &&& 255
def rby (x : Int32) (q : Nat) : Int32 := (Int32.toInt8 ((Int32.toInt8 (x >>> (nI (24 - 8 * q) &&& 31))).toInt32)).toInt32
theorem bt_i8 (y : Int32) {i : Nat} (hi : i < 32) : bt ((Int32.toInt8 y).toInt32) i = if i < 8 then bt y i else bt y 7 := by
  unfold bt
  rw [Int8.toBitVec_toInt32, Int32.toBitVec_toInt8, BitVec.getLsbD_signExtend, BitVec.getLsbD_signExtend, BitVec.msb_signExtend]
  by_cases h : i < 8
  · simp [hi, h]
  · simp [hi, h]
    rw [BitVec.getMsbD_eq_getLsbD]
    simp
theorem byt_rby (x : Int32) {q : Nat} (hq : q < 4) : byt x q = rby x q &&& 255 ∧ rg (rby x q) (-128) 127 := by
  refine ⟨b_ext fun i hi => ?_, ?_⟩
  · unfold byt rby
    rw [b_and, b_and, b_255]
    by_cases h : i < 8
    · rw [b_ushr _ (by omega), bt_i8 _ hi, if_pos h, bt_i8 _ hi, if_pos h, b_sshr _ (by omega) _ hi, if_pos (by omega)]
    · rw [decide_eq_false h, Bool.and_false, Bool.and_false]
  · unfold rby rg
    rw [Int8.toInt_toInt32]
    have h1 := Int8.le_toInt (Int32.toInt8 ((Int32.toInt8 (x >>> (nI (24 - 8 * q) &&& 31))).toInt32))
    have h2 := Int8.toInt_lt (Int32.toInt8 ((Int32.toInt8 (x >>> (nI (24 - 8 * q) &&& 31))).toInt32))
    omega
/-- so many bytes of the ints A have been put behind the first n -/
def PuT (A : Nat → Int32) (σ0 : pn_S) (n k : Nat) (σ : pn_S) : Prop := σ 1 3 = nI (n + k) ∧ (∀ j, σ 2 j = if n ≤ j ∧ j < n + k then byt (A ((j - n) / 4)) ((j - n) % 4) else σ0 2 j) ∧ (∀ k, k ≠ 3 → σ 1 k = σ0 1 k) ∧ Fr (fun i => i = 1 ∨ i = 2) σ0 σ
theorem lsh : ∀ q, q < 4 → nI (24 - 8 * q) + (-8) = (if q = 3 then -8 else nI (24 - 8 * (q + 1))) := by decide
theorem c_put {A : Nat → Int32} {σ0 : pn_S} {n i : Nat} (hn : n + 20 ≤ 400) (hi : i < 5) {σ : pn_S} (h : PuT A σ0 n (4 * i) σ) : ∃ σ', fX7_put (A i) σ = some σ' ∧ PuT A σ0 n (4 * i + 4) σ' := by
  obtain ⟨s, g1, g2⟩ := lpE (n := 4) (F := fun f q s => fX7_put_3 f (A i) (if q = 4 then -8 else nI (24 - 8 * q)) s) (out := fun s => some s) (fun q s => PuT A σ0 n (4 * i + q) s)
    (fun f s _ => by rw [fX7_put_3, if_pos rfl, if_pos (by decide)])
    (fun f q s hq hs => by
      obtain ⟨h3, h2, h1, hf⟩ := id hs
      refine ⟨pn_up (pn_up s 2 (n + (4 * i + q)) (byt (A i) q)) 1 3 (nI (n + (4 * i + q) + 1)), ?_, ?_⟩
      · rw [fX7_put_3, if_neg (show ¬ q = 4 by omega), if_neg (show ¬ nI (24 - 8 * q) < 0 from nI_pos (by omega)), h3, if_neg (show ¬ (400 : Int32) ≤ nI (n + (4 * i + q)) from nI_ge (b := 400) (by omega) (by omega)), q_ib (by omega) (by omega), if_pos rfl, nI_clamp (by omega)]
        unfold fX7_put_43
        rw [pn_up_a _ _ _ _ (by omega), h3, nI_1, lsh q hq]
        have e : (if q = 3 then (-8 : Int32) else nI (24 - 8 * (q + 1))) = (if q + 1 = 4 then -8 else nI (24 - 8 * (q + 1))) := by
          by_cases z : q = 3
          · rw [if_pos z, if_pos (by omega)]
          · rw [if_neg z, if_neg (by omega)]
        rw [e]
        rfl
      · refine ⟨by rw [pn_up_s]; rfl, fun j => ?_, fun k hk => by rw [pn_up_k _ _ _ _ hk, pn_up_a _ _ _ _ (by omega)]; exact h1 k hk, (hf.up (by omega)).up (by omega)⟩
        rw [pn_up_a _ _ _ _ (by omega)]
        by_cases z : j = n + (4 * i + q)
        · subst z
          rw [pn_up_s, if_pos (by omega), show (n + (4 * i + q) - n) / 4 = i by omega, show (n + (4 * i + q) - n) % 4 = q by omega]
        · rw [pn_up_k _ _ _ _ z, h2 j]
          by_cases z2 : n ≤ j ∧ j < n + (4 * i + q)
          · rw [if_pos z2, if_pos (by omega)]
          · rw [if_neg z2, if_neg (by omega)]) 4 0 5000 σ (by omega) (by omega) h
  exact ⟨s, g1, g2⟩
theorem r_feed {τ : pn_S} {n : Nat} (hn : n + 20 ≤ 400) (h9 : τ 85 9 = nI n) : fX11_feed_60 5000 0 τ = some (nI (n + 20), pn_up (pn_ua τ 91 (cpy (τ 91) (fun k => rby (τ 92 (k / 4)) (k % 4)) n 20)) 85 9 (nI (n + 20))) := by
  obtain ⟨s, g1, g2⟩ := lpE (n := 20) (F := fun f k s => fX11_feed_60 f (nI k) s) (out := fun s => some (nI (n + 20), pn_up s 85 9 (nI (n + 20)))) (fun k s => s = pn_ua τ 91 (cpy (τ 91) (fun k => rby (τ 92 (k / 4)) (k % 4)) n k))
    (fun f s hs => by
      have e9 : s 85 9 = nI n := by rw [hs, pn_ua_a _ _ _ (by omega)]; exact h9
      have ei : nI n + 20 = nI (n + 20) := by rw [q_lit 20, nI_add]
      rw [fX11_feed_60, if_pos (show (20 : Int32) ≤ nI 20 by decide), pn_up_s, e9, ei])
    (fun f k s hk hs => by
      refine ⟨_, ?_, cpy_s τ 91 n k (fun k => rby (τ 92 (k / 4)) (k % 4))⟩
      have e9 : s 85 9 = nI n := by rw [hs, pn_ua_a _ _ _ (by omega)]; exact h9
      have e92 : s 92 = τ 92 := by rw [hs, pn_ua_a _ _ _ (by omega)]
      have d1 : nI k / 4 = nI (k / 4) := (by decide +kernel : ∀ k, k < 20 → nI k / 4 = nI (k / 4)) k hk
      have d2 : (24 : Int32) - 8 * (nI k - nI k / 4 * 4) = nI (24 - 8 * (k % 4)) := (by decide +kernel : ∀ k, k < 20 → (24 : Int32) - 8 * (nI k - nI k / 4 * 4) = nI (24 - 8 * (k % 4))) k hk
      rw [fX11_feed_60, if_neg (show ¬ (20 : Int32) ≤ nI k from nI_ge (b := 20) hk (by omega)), d2, d1, q_ib (by omega) (by omega), if_pos rfl, e9, nI_add, q_ib (by omega) (by omega), if_pos rfl, nI_1, nI_clamp (by omega), nI_clamp (by omega), e92, hs]
      rfl) 20 0 5000 τ (by omega) (by omega) (cpy_0 _ _ _ _).symm
  refine g1.trans ?_
  rw [g2]
/-- the tape alone has changed -/
theorem inv_tape {σ σ' : pn_S} {h : Bool} {Λ : pn_La} (hI : Inv σ h Λ) (h1 : ∀ i, i ≠ 1 → i ≠ 2 → i ≠ 85 → i ≠ 91 → i ≠ 92 → i ≠ 96 → σ' i = σ i) (h2 : ∀ k, k ≠ 0 → k ≠ 9 → k ≠ 10 → k ≠ 11 → k ≠ 12 → k ≠ 20 → σ' 85 k = σ 85 k) (ht : Tap σ') : Inv σ' h Λ := by
  obtain ⟨i1, i2, i3, i4, i5, i6, i7, ⟨g1, g2, g3⟩, i9⟩ := hI
  obtain ⟨m, x, W, p1, p2, p3⟩ := pst_to i7
  have u : ∀ i, i < 85 → i ≠ 1 → i ≠ 2 → σ' i = σ i := fun i q1 q2 q3 => h1 i q2 q3 (by omega) (by omega) (by omega) (by omega)
  have u86 : σ' 86 = σ 86 := h1 86 (by omega) (by omega) (by omega) (by omega) (by omega) (by omega)
  have u87 : σ' 87 = σ 87 := h1 87 (by omega) (by omega) (by omega) (by omega) (by omega) (by omega)
  have u90 : σ' 90 = σ 90 := h1 90 (by omega) (by omega) (by omega) (by omega) (by omega) (by omega)
  have k : ∀ j, j = 6 ∨ j = 7 ∨ j = 14 → σ' 85 j = σ 85 j := fun j hj => h2 j (by omega) (by omega) (by omega) (by omega) (by omega) (by omega)
  unfold Inv
  rw [u86]
  refine ⟨cv_fr i1 (u 5 (by omega) (by omega) (by omega)) (u 6 (by omega) (by omega) (by omega)) (u 7 (by omega) (by omega) (by omega)), i2, cl_fr i3 (by rw [u 14 (by omega) (by omega) (by omega)]) (u 15 (by omega) (by omega) (by omega)) (u 16 (by omega) (by omega) (by omega)) (u 17 (by omega) (by omega) (by omega)) (u 18 (by omega) (by omega) (by omega)), i4, i5, ht, pst_of (cp_fr p1 (u 41 (by omega) (by omega) (by omega)) fun i q1 q2 => u i (by omega) (by omega) (by omega)) ⟨by rw [k 7 (by omega)]; exact p2.1, fun j hj q hq => by rw [u90]; exact p2.2 j hj q hq⟩ (by rw [u86]; exact p3), ⟨by rw [u 0 (by omega) (by omega) (by omega), k 6 (by omega)]; exact g1, by rw [k 6 (by omega)]; exact g2, fun q => ?_⟩, by rw [u 0 (by omega) (by omega) (by omega), k 14 (by omega)]; exact i9⟩
  rw [k 6 (by omega)] at q
  obtain ⟨h', Λ', q1, q2, q3, q4, q5⟩ := g3 q
  rw [u87]
  exact ⟨h', Λ', cv_fr q1 (u 11 (by omega) (by omega) (by omega)) (u 12 (by omega) (by omega) (by omega)) (u 13 (by omega) (by omega) (by omega)), q2, cl_fr q3 (by rw [u 28 (by omega) (by omega) (by omega)]) (u 29 (by omega) (by omega) (by omega)) (u 30 (by omega) (by omega) (by omega)) (u 31 (by omega) (by omega) (by omega)) (u 32 (by omega) (by omega) (by omega)), q4, q5⟩
theorem ag_feed (a b c d e : Int32) : AgI (fX10_feed a b c d e) (fX11_feed a b c d e) := fun σ h Λ hI => by
  obtain ⟨n, t1, t2, t3, t4⟩ := hI.2.2.2.2.2.1
  have e20 : nI n + 20 = nI (n + 20) := by rw [q_lit 20, nI_add]
  have e400 : (400 : Int32).toInt = 400 := rfl
  have en : (nI (n + 20)).toInt = (n + 20 : Nat) := nI_toInt (by omega)
  by_cases q : n + 20 ≤ 400
  · let A : Nat → Int32 := fun i => if i = 0 then a else if i = 1 then b else if i = 2 then c else if i = 3 then d else e
    have p0 : PuT A σ n (4 * 0) σ := ⟨t2, fun j => by rw [if_neg (by omega)], fun _ _ => rfl, Fr.rf⟩
    obtain ⟨σ1, a1, p1⟩ := c_put q (by omega : 0 < 5) p0
    obtain ⟨σ2, a2, p2⟩ := c_put q (by omega : 1 < 5) p1
    obtain ⟨σ3, a3, p3⟩ := c_put q (by omega : 2 < 5) p2
    obtain ⟨σ4, a4, p4⟩ := c_put q (by omega : 3 < 5) p3
    obtain ⟨σ5, a5, p5⟩ := c_put q (by omega : 4 < 5) p4
    have a1 : fX7_put a σ = some σ1 := a1
    have a2 : fX7_put b σ1 = some σ2 := a2
    have a3 : fX7_put c σ2 = some σ3 := a3
    have a4 : fX7_put d σ3 = some σ4 := a4
    have a5 : fX7_put e σ4 = some σ5 := a5
    have p5 : PuT A σ n 20 σ5 := p5
    have s5 : ∀ i, i ≠ 1 → i ≠ 2 → σ5 i = σ i := fun i q1 q2 => p5.2.2.2 i (by omega)
    have τ9 : (pn_up (pn_up (pn_up (pn_up (pn_up (pn_up σ5 85 0 0) 92 0 a) 92 1 b) 92 2 c) 92 3 d) 92 4 e) 85 9 = nI n := by
      rw [pn_up_a _ _ _ _ (by omega), pn_up_a _ _ _ _ (by omega), pn_up_a _ _ _ _ (by omega), pn_up_a _ _ _ _ (by omega), pn_up_a _ _ _ _ (by omega), pn_up_k _ _ _ _ (by omega), s5 85 (by omega) (by omega)]
      exact t3
    have τ92 : ∀ i, i < 5 → (pn_up (pn_up (pn_up (pn_up (pn_up (pn_up σ5 85 0 0) 92 0 a) 92 1 b) 92 2 c) 92 3 d) 92 4 e) 92 i = A i := fun i hi => by
      match i, hi with
      | 0, _ => rfl
      | 1, _ => rfl
      | 2, _ => rfl
      | 3, _ => rfl
      | 4, _ => rfl
    have τi : ∀ i, i ≠ 85 → i ≠ 92 → (pn_up (pn_up (pn_up (pn_up (pn_up (pn_up σ5 85 0 0) 92 0 a) 92 1 b) 92 2 c) 92 3 d) 92 4 e) i = σ5 i := fun i q1 q2 => by
      rw [pn_up_a _ _ _ _ q2, pn_up_a _ _ _ _ q2, pn_up_a _ _ _ _ q2, pn_up_a _ _ _ _ q2, pn_up_a _ _ _ _ q2, pn_up_a _ _ _ _ q1]
    have τ85 : ∀ k, k ≠ 0 → (pn_up (pn_up (pn_up (pn_up (pn_up (pn_up σ5 85 0 0) 92 0 a) 92 1 b) 92 2 c) 92 3 d) 92 4 e) 85 k = σ 85 k := fun k hk => by
      rw [pn_up_a _ _ _ _ (by omega), pn_up_a _ _ _ _ (by omega), pn_up_a _ _ _ _ (by omega), pn_up_a _ _ _ _ (by omega), pn_up_a _ _ _ _ (by omega), pn_up_k _ _ _ _ hk, s5 85 (by omega) (by omega)]
    have e2 : fX11_feed a b c d e σ5 = fX11_feed_60 5000 0 (pn_up (pn_up (pn_up (pn_up (pn_up (pn_up σ5 85 0 0) 92 0 a) 92 1 b) 92 2 c) 92 3 d) 92 4 e) := by
      unfold fX11_feed
      have e9 : pn_up σ5 85 0 0 85 9 = nI n := by rw [pn_up_k _ _ _ _ (by omega), s5 85 (by omega) (by omega)]; exact t3
      rw [e9, e20, if_pos (by rw [q_le]; omega)]
    generalize hτ : pn_up (pn_up (pn_up (pn_up (pn_up (pn_up σ5 85 0 0) 92 0 a) 92 1 b) 92 2 c) 92 3 d) 92 4 e = τ at τ9 τ92 τi τ85 e2
    rw [r_feed q τ9] at e2
    refine ⟨nI (n + 20), σ5, _, h, Λ, ?_, e2, ?_⟩
    · unfold fX10_feed fX7_hasRoom
      rw [t2, e20, if_neg (by rw [q_lt]; omega), Option.bind_some, if_neg (by decide), a1, Option.bind_some, a2, Option.bind_some, a3, Option.bind_some, a4, Option.bind_some, a5, Option.bind_some, p5.1]
    · refine inv_tape hI (fun i q1 q2 q3 q4 q5 q6 => ?_) (fun k q0 q9 _ _ _ _ => ?_) ⟨n + 20, q, ?_, pn_up_s _ _ _ _, fun i hi => ?_⟩
      · rw [pn_up_a _ _ _ _ q3, pn_ua_a _ _ _ q4, τi i q3 q5, s5 i q1 q2]
      · rw [pn_up_k _ _ _ _ q9, pn_ua_a _ _ _ (by omega), τ85 k q0]
      · rw [pn_up_a _ _ _ _ (by omega), pn_ua_a _ _ _ (by omega), τi 1 (by omega) (by omega)]; exact p5.1
      · rw [pn_up_a _ _ _ _ (by omega), pn_ua_a _ _ _ (by omega), τi 2 (by omega) (by omega), pn_up_a _ _ _ _ (by omega), pn_ua_s, p5.2.1 i, τi 91 (by omega) (by omega), s5 91 (by omega) (by omega)]
        unfold cpy
        by_cases z : n ≤ i
        · rw [if_pos ⟨z, hi⟩, if_pos ⟨z, hi⟩]
          show byt (A ((i - n) / 4)) ((i - n) % 4) = rby (τ 92 ((i - n) / 4)) ((i - n) % 4) &&& 255 ∧ rg (rby (τ 92 ((i - n) / 4)) ((i - n) % 4)) (-128) 127
          rw [τ92 _ (by omega)]
          exact byt_rby _ (by omega)
        · rw [if_neg (by omega), if_neg (by omega)]
          exact t4 i (by omega)
  · refine ⟨-1, σ, pn_up σ 85 0 0, h, Λ, ?_, ?_, hI.core Core_thrown⟩
    · unfold fX10_feed fX7_hasRoom
      rw [t2, e20, if_pos (by rw [q_lt]; omega), Option.bind_some, if_pos rfl]
    · unfold fX11_feed
      rw [pn_up_k _ _ _ _ (by omega), t3, e20, if_neg (by rw [q_le]; omega)]
theorem ag_end (a : Int32) : AgI (fX10_end a) (fX11_end a) := fun σ h Λ hI => by
  obtain ⟨n, t1, t2, t3, t4⟩ := hI.2.2.2.2.2.1
  have e9 : pn_up σ 85 0 0 85 9 = nI n := by rw [pn_up_k _ _ _ _ (by omega)]; exact t3
  have en : (nI n).toInt = n := nI_toInt (by omega)
  have e0 : (0 : Int32).toInt = 0 := rfl
  by_cases q : 0 ≤ a.toInt ∧ a.toInt ≤ n
  · obtain ⟨k, hk, rfl⟩ := rg_k (a := a) (n := n + 1) q.1 (by omega)
    refine ⟨1, pn_up σ 1 3 (nI k), pn_up (pn_up (pn_up σ 1 3 (nI k)) 85 0 0) 85 9 (nI k), h, Λ, ?_, ?_, ?_⟩
    · unfold fX10_end
      rw [if_neg (by rw [q_lt]; omega), t2, if_pos (by rw [q_le]; omega)]
    · unfold fX11_end
      have e9 : pn_up (pn_up σ 1 3 (nI k)) 85 0 0 85 9 = nI n := by rw [pn_up_k _ _ _ _ (by omega), pn_up_a _ _ _ _ (by omega)]; exact t3
      rw [if_neg (by rw [q_lt]; omega), e9, if_pos (by rw [q_le]; omega)]
    · refine inv_tape hI (fun i q1 q2 q3 q4 q5 q6 => by rw [pn_up_a _ _ _ _ q3, pn_up_a _ _ _ _ q3, pn_up_a _ _ _ _ q1]) (fun k q0 q9 _ _ _ _ => by rw [pn_up_k _ _ _ _ q9, pn_up_k _ _ _ _ q0, pn_up_a _ _ _ _ (by omega)]) ⟨k, by omega, by rw [pn_up_a _ _ _ _ (by omega), pn_up_a _ _ _ _ (by omega), pn_up_s], by rw [pn_up_s], fun i hi => ?_⟩
      rw [pn_up_a _ _ _ _ (by omega), pn_up_a _ _ _ _ (by omega), pn_up_a _ _ _ _ (by omega), pn_up_a _ _ _ _ (by omega), pn_up_a _ _ _ _ (by omega), pn_up_a _ _ _ _ (by omega)]
      exact t4 i (by omega)
  · refine ⟨0, σ, pn_up σ 85 0 0, h, Λ, ?_, ?_, hI.core Core_thrown⟩
    · unfold fX10_end
      by_cases z : a < 0
      · rw [if_pos z]
      · rw [if_neg z, t2, if_neg]
        rw [q_lt] at z
        rw [q_le]
        omega
    · unfold fX11_end
      by_cases z : a < 0
      · rw [if_pos z]
      · rw [if_neg z, e9, if_neg]
        rw [q_lt] at z
        rw [q_le]
        omega
