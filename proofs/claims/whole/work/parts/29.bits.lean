/-! PURE: sets of people, as bits -/
theorem bt_1 (i : Nat) : bt 1 i = decide (i = 0) := by
  rcases Nat.lt_or_ge i 32 with h | h
  · exact (by decide +kernel : ∀ i, i < 32 → bt 1 i = decide (i = 0)) i h
  · rw [b_big h, decide_eq_false (by omega)]
theorem b_one (y : Int32) : y &&& 1 = 1 ↔ bt y 0 = true := by
  constructor
  · intro h
    have h1 := b_and y 1 0
    rw [h] at h1
    have h2 : bt 1 0 = true := by decide
    rw [h2, Bool.and_true] at h1
    exact h1.symm
  · intro h
    refine b_ext fun i _ => ?_
    rw [b_and, bt_1]
    by_cases hi : i = 0
    · subst hi; rw [h]; rfl
    · simp [hi]
theorem h_bit {a : Int32} {p : Nat} (hp : p < 32) : ((a >>> (nI p &&& 31)) &&& 1 = 1) ↔ bt a p = true := by
  rw [b_one, b_sshr p hp a (by omega), Nat.add_zero, if_pos hp]
theorem c_hasBit {a : Int32} {p : Nat} (hp : p < 32) (σ : pn_S) : fX10_hasBit a (nI p) σ = some (if bt a p = true then 1 else 0) := by
  unfold fX10_hasBit
  by_cases h : bt a p = true
  · rw [if_pos ((h_bit hp).mpr h), if_pos h]
  · rw [if_neg (fun q => h ((h_bit hp).mp q)), if_neg h]
theorem r_has {a : Int32} {p : Nat} (hp : p < 32) (σ : pn_S) : fX11_has a (nI p) σ = some (if bt a p = true then 1 else 0) := c_hasBit hp σ
/-- the set of one -/
def bs (p : Nat) : Int32 := (1 : Int32) <<< (nI p &&& 31)
theorem bt_bs {p : Nat} (hp : p < 32) {i : Nat} (hi : i < 32) : bt (bs p) i = decide (i = p) := by
  unfold bs
  rw [b_shl p hp 1 hi, bt_1]
  by_cases h : i = p
  · subst h; simp
  · by_cases h2 : p ≤ i
    · simp [h, h2]; omega
    · simp [h, h2]
/-- a set of people -/
def s8 (x : Int32) : Prop := ∀ i, 8 ≤ i → bt x i = false
theorem s8_and {x y : Int32} (h : s8 x) : s8 (x &&& y) := fun i hi => by rw [b_and, h i hi]; rfl
theorem s8_and' {x y : Int32} (h : s8 y) : s8 (x &&& y) := fun i hi => by rw [b_and, h i hi, Bool.and_false]
theorem s8_or {x y : Int32} (h : s8 x) (h2 : s8 y) : s8 (x ||| y) := fun i hi => by rw [b_or, h i hi, h2 i hi]; rfl
theorem s8_0 : s8 0 := fun i _ => b_0 i
theorem s8_bs {p : Nat} (hp : p < 8) : s8 (bs p) := fun i hi => by
  rcases Nat.lt_or_ge i 32 with h | h
  · rw [bt_bs (by omega) h, decide_eq_false (by omega)]
  · exact b_big h
theorem b_not {x : Int32} {i : Nat} (hi : i < 32) : bt (x ^^^ (-1)) i = !bt x i := by
  rw [b_xor, b_m1 i hi, Bool.xor_true]
theorem s8_nat {x : Int32} (h : s8 x) : ∃ k, k < 256 ∧ x = nI k := by
  refine ⟨x.toBitVec.toNat, ?_, Int32.toBitVec_inj.mp (by show _ = BitVec.ofNat 32 _; simp)⟩
  have : x.toBitVec.toNat < 2 ^ 8 := Nat.lt_pow_two_of_testBit _ fun i hi => h i hi
  exact this
theorem s8_ext {x y : Int32} (h : s8 x) (h2 : s8 y) (he : ∀ i, i < 8 → bt x i = bt y i) : x = y := b_ext fun i _ => by
  rcases Nat.lt_or_ge i 8 with q | q
  · exact he i q
  · rw [h i q, h2 i q]
/-- sums -/
def sm (f : Nat → Int32) (k : Nat) : Int32 := fo (fun p acc => acc + f p) 0 k 0
def smN (f : Nat → Nat) (k : Nat) : Nat := fo (fun p acc => acc + f p) 0 k 0
theorem sm_s (f : Nat → Int32) (k : Nat) : sm f (k + 1) = sm f k + f k := by unfold sm; rw [fo_last, Nat.zero_add]
theorem smN_s (f : Nat → Nat) (k : Nat) : smN f (k + 1) = smN f k + f k := by unfold smN; rw [fo_last, Nat.zero_add]
theorem sm_add (f g : Nat → Int32) : ∀ k, sm (fun p => f p + g p) k = sm f k + sm g k := by
  intro k
  induction k with
  | zero => rfl
  | succ k ih => rw [sm_s, sm_s, sm_s, ih]; grind
theorem smN_add (f g : Nat → Nat) : ∀ k, smN (fun p => f p + g p) k = smN f k + smN g k := by
  intro k
  induction k with
  | zero => rfl
  | succ k ih => rw [smN_s, smN_s, smN_s, ih]; omega
theorem sm_c {f g : Nat → Int32} {k : Nat} (h : ∀ p, p < k → f p = g p) : sm f k = sm g k :=
  fo_congr k 0 0 fun q _ hq b => by rw [h q (by omega)]
theorem smN_c {f g : Nat → Nat} {k : Nat} (h : ∀ p, p < k → f p = g p) : smN f k = smN g k :=
  fo_congr k 0 0 fun q _ hq b => by rw [h q (by omega)]
theorem sm_more (f : Nat → Int32) {k m : Nat} (hk : k ≤ m) (h : ∀ p, k ≤ p → p < m → f p = 0) : sm f m = sm f k := by
  obtain ⟨d, rfl⟩ : ∃ d, m = k + d := ⟨m - k, by omega⟩
  unfold sm
  rw [fo_app]
  refine fo_id d _ _ fun q h1 h2 => ?_
  show _ + f q = _
  rw [h q (by omega) (by omega), Int32.add_zero]
/-- how many there are -/
def pc (x : Int32) : Nat := smN (fun p => if bt x p = true then 1 else 0) 8
/-- the sum over them -/
def nz (f : Nat → Int32) (x : Int32) : Int32 := sm (fun p => if bt x p = true then f p else 0) 8
theorem pc_or {x y : Int32} (h : ∀ p, p < 8 → (bt x p && bt y p) = false) : pc (x ||| y) = pc x + pc y := by
  unfold pc
  rw [← smN_add]
  refine smN_c fun p hp => ?_
  rw [b_or]
  have := h p hp
  cases h1 : bt x p <;> cases h2 : bt y p <;> simp_all
theorem nz_or {f : Nat → Int32} {x y : Int32} (h : ∀ p, p < 8 → (bt x p && bt y p) = false) : nz f (x ||| y) = nz f x + nz f y := by
  unfold nz
  rw [← sm_add]
  refine sm_c fun p hp => ?_
  rw [b_or]
  have := h p hp
  cases h1 : bt x p <;> cases h2 : bt y p <;> simp_all
theorem nz_c {f g : Nat → Int32} {x : Int32} (h : ∀ p, p < 8 → bt x p = true → f p = g p) : nz f x = nz g x := by
  unfold nz
  refine sm_c fun p hp => ?_
  by_cases q : bt x p = true
  · rw [if_pos q, if_pos q, h p hp q]
  · rw [if_neg q, if_neg q]
theorem pc_le (x : Int32) : pc x ≤ 8 := by
  have : ∀ k, smN (fun p => if bt x p = true then 1 else 0) k ≤ k := by
    intro k
    induction k with
    | zero => exact Nat.le_refl _
    | succ k ih => rw [smN_s]; split <;> omega
  exact this 8
theorem pc_nat : ∀ k, k < 256 → fJ6_bitCount_0f7a4 (nI k) (fun _ _ => 0) = some (nI (pc (nI k))) := by decide +kernel
theorem j_bc {x : Int32} (h : s8 x) (σ : pn_S) : fJ6_bitCount_0f7a4 x σ = some (nI (pc x)) := by
  obtain ⟨k, hk, rfl⟩ := s8_nat h
  have e : fJ6_bitCount_0f7a4 (nI k) σ = fJ6_bitCount_0f7a4 (nI k) (fun _ _ => 0) := rfl
  rw [e]
  exact pc_nat k hk
/-- everybody of n -/
def evb (n : Nat) : Int32 := (1 : Int32) <<< (nI n &&& 31) - 1
theorem bt_evb {n : Nat} (hn : n ≤ 8) (i : Nat) : bt (evb n) i = decide (i < n) := by
  rcases Nat.lt_or_ge i 32 with h | h
  · exact (by decide +kernel : ∀ n, n < 9 → ∀ i, i < 32 → bt (evb n) i = decide (i < n)) n (by omega) i h
  · rw [b_big h, decide_eq_false (by omega)]
theorem s8_evb {n : Nat} (hn : n ≤ 8) : s8 (evb n) := fun i hi => by rw [bt_evb hn, decide_eq_false (by omega)]
theorem b_nz {x : Int32} : x = 0 ↔ ∀ i, i < 32 → bt x i = false := ⟨fun h i _ => by rw [h]; exact b_0 i, fun h => b_ext fun i hi => by rw [h i hi, b_0]⟩
