/-! PURE: numbers, bits, folds, and what a run that comes to an end says -/
/-! ===== Int32 by its bits: bt x i ===== -/
def bt (x : Int32) (i : Nat) : Bool := x.toBitVec.getLsbD i
theorem b_ext {x y : Int32} (h : ∀ i, i < 32 → bt x i = bt y i) : x = y := Int32.toBitVec_inj.mp (BitVec.eq_of_getLsbD_eq (fun i hi => h i hi))
theorem b_or (x y : Int32) (i : Nat) : bt (x ||| y) i = (bt x i || bt y i) := by unfold bt; rw [Int32.toBitVec_or, BitVec.getLsbD_or]
theorem b_and (x y : Int32) (i : Nat) : bt (x &&& y) i = (bt x i && bt y i) := by unfold bt; rw [Int32.toBitVec_and, BitVec.getLsbD_and]
theorem b_xor (x y : Int32) (i : Nat) : bt (x ^^^ y) i = (bt x i ^^ bt y i) := by unfold bt; rw [Int32.toBitVec_xor, BitVec.getLsbD_xor]
theorem b_big {x : Int32} {i : Nat} (h : 32 ≤ i) : bt x i = false := BitVec.getLsbD_of_ge _ _ h
theorem b_255 (i : Nat) : bt 255 i = decide (i < 8) := by
  rcases Nat.lt_or_ge i 32 with h | h
  · exact (by decide +kernel : ∀ i, i < 32 → bt 255 i = decide (i < 8)) i h
  · rw [b_big h, decide_eq_false (by omega)]
theorem b_65535 (i : Nat) : bt 65535 i = decide (i < 16) := by
  rcases Nat.lt_or_ge i 32 with h | h
  · exact (by decide +kernel : ∀ i, i < 32 → bt 65535 i = decide (i < 16)) i h
  · rw [b_big h, decide_eq_false (by omega)]
theorem b_m1 : ∀ i, i < 32 → bt (-1) i = true := by decide +kernel
theorem b_0 (i : Nat) : bt 0 i = false := BitVec.getLsbD_zero
theorem s_l : ∀ n, n < 32 → ((nI n &&& 31).toBitVec.smod 32).toNat = n := by decide +kernel
theorem s_u : ∀ n, n < 32 → (((nI n).toUInt32 &&& Int32.toUInt32 31).toBitVec % 32).toNat = n := by decide +kernel
theorem b_shl (n : Nat) (hn : n < 32) (x : Int32) {i : Nat} (hi : i < 32) : bt (x <<< (nI n &&& 31)) i = (decide (n ≤ i) && bt x (i - n)) := by
  unfold bt
  rw [Int32.toBitVec_shiftLeft]
  show (x.toBitVec <<< ((nI n &&& 31).toBitVec.smod 32).toNat).getLsbD i = _
  rw [s_l n hn, BitVec.getLsbD_shiftLeft]
  rcases Nat.lt_or_ge i n with h | h
  · simp [h, Nat.not_le.mpr h]
  · simp [hi, h, Nat.not_lt.mpr h]
theorem b_ushr (n : Nat) (hn : n < 32) (x : Int32) (i : Nat) : bt ((x.toUInt32 >>> ((nI n).toUInt32 &&& Int32.toUInt32 31)).toInt32) i = bt x (n + i) := by
  show (x.toUInt32 >>> ((nI n).toUInt32 &&& Int32.toUInt32 31)).toBitVec.getLsbD i = x.toUInt32.toBitVec.getLsbD (n + i)
  rw [UInt32.toBitVec_shiftRight]
  show (x.toUInt32.toBitVec >>> (((nI n).toUInt32 &&& Int32.toUInt32 31).toBitVec % 32).toNat).getLsbD i = _
  rw [s_u n hn, BitVec.getLsbD_ushiftRight]
theorem b_sshr (n : Nat) (hn : n < 32) (x : Int32) {i : Nat} (hi : i < 32) : bt (x >>> (nI n &&& 31)) i = if n + i < 32 then bt x (n + i) else bt x 31 := by
  unfold bt
  rw [Int32.toBitVec_shiftRight]
  show (x.toBitVec.sshiftRight ((nI n &&& 31).toBitVec.smod 32).toNat).getLsbD i = _
  rw [s_l n hn, BitVec.getLsbD_sshiftRight, BitVec.msb_eq_getLsbD_last]
  simp [hi]
theorem q_ib {k n : Nat} (h : k < n) (hn : n < 2 ^ 31) : pn_ib (nI k) n = true := by
  unfold pn_ib
  rw [nI_toInt (by omega)]
  simp; omega
theorem q_lit (n : Nat) : (OfNat.ofNat n : Int32) = nI n := rfl
theorem q_rng (x : Int32) : -2147483648 ≤ x.toInt ∧ x.toInt < 2147483648 := ⟨Int32.le_toInt x, Int32.toInt_lt x⟩
theorem q_bmod {z : Int} (h1 : -2147483648 ≤ z) (h2 : z < 2147483648) : z.bmod (2 ^ 32) = z := by
  rw [Int.bmod_def]; omega
theorem q_add {x y : Int32} (h1 : -2147483648 ≤ x.toInt + y.toInt) (h2 : x.toInt + y.toInt < 2147483648) : (x + y).toInt = x.toInt + y.toInt := by
  rw [Int32.toInt_add, q_bmod h1 h2]
theorem q_sub {x y : Int32} (h1 : -2147483648 ≤ x.toInt - y.toInt) (h2 : x.toInt - y.toInt < 2147483648) : (x - y).toInt = x.toInt - y.toInt := by
  rw [Int32.toInt_sub, q_bmod h1 h2]
theorem q_mul {x y : Int32} (h1 : -2147483648 ≤ x.toInt * y.toInt) (h2 : x.toInt * y.toInt < 2147483648) : (x * y).toInt = x.toInt * y.toInt := by
  rw [Int32.toInt_mul, q_bmod h1 h2]
/-- a number of this range -/
def rg (x : Int32) (lo hi : Int) : Prop := lo ≤ x.toInt ∧ x.toInt ≤ hi
theorem rg_nI {x : Int32} {hi : Int} (h : rg x 0 hi) : x = nI x.toNatClampNeg ∧ ((x.toNatClampNeg : Nat) : Int) = x.toInt := by
  have h1 : ((x.toNatClampNeg : Nat) : Int) = x.toInt := by
    show ((x.toInt.toNat : Nat) : Int) = _
    have := h.1
    omega
  refine ⟨Int32.toInt_inj.mp ?_, h1⟩
  have h2 := (q_rng x).2
  rw [nI_toInt (by omega), h1]
theorem q_le {x y : Int32} : x ≤ y ↔ x.toInt ≤ y.toInt := Int32.le_iff_toInt_le
theorem q_lt {x y : Int32} : x < y ↔ x.toInt < y.toInt := Int32.lt_iff_toInt_lt
theorem q_eq {x y : Int32} : x = y ↔ x.toInt = y.toInt := Int32.toInt_inj.symm
/-- one after another: f p, f (p + 1), .. k of them -/
def fo {α : Type} (f : Nat → α → α) : Nat → Nat → α → α
  | _, 0, a => a
  | p, k + 1, a => fo f (p + 1) k (f p a)
theorem fo_congr {α : Type} {f g : Nat → α → α} : ∀ (k p : Nat) (a : α), (∀ q, p ≤ q → q < p + k → ∀ b, f q b = g q b) → fo f p k a = fo g p k a := by
  intro k
  induction k with
  | zero => intro p a _; rfl
  | succ k ih =>
    intro p a h
    show fo f (p + 1) k (f p a) = fo g (p + 1) k (g p a)
    rw [h p (Nat.le_refl _) (by omega), ih _ _ fun q h1 h2 => h q (by omega) (by omega)]
theorem fo_inv {α : Type} {f : Nat → α → α} (P : Nat → α → Prop) : ∀ (k p : Nat) (a : α), P p a → (∀ q b, p ≤ q → q < p + k → P q b → P (q + 1) (f q b)) → P (p + k) (fo f p k a) := by
  intro k
  induction k with
  | zero => intro p a h _; exact h
  | succ k ih =>
    intro p a h hs
    have := ih (p + 1) (f p a) (hs p a (Nat.le_refl _) (by omega) h) (fun q b h1 h2 => hs q b (by omega) (by omega))
    rw [show p + (k + 1) = p + 1 + k by omega]
    exact this
theorem fo_app {α : Type} (f : Nat → α → α) : ∀ (k m p : Nat) (a : α), fo f p (k + m) a = fo f (p + k) m (fo f p k a) := by
  intro k
  induction k with
  | zero => intro m p a; rw [Nat.zero_add]; rfl
  | succ k ih =>
    intro m p a
    rw [show k + 1 + m = (k + m) + 1 by omega]
    show fo f (p + 1) (k + m) (f p a) = _
    rw [ih, show p + 1 + k = p + (k + 1) by omega]
    rfl
theorem fo_last {α : Type} (f : Nat → α → α) (k p : Nat) (a : α) : fo f p (k + 1) a = f (p + k) (fo f p k a) := fo_app f k 1 p a
theorem fo_id {α : Type} {f : Nat → α → α} : ∀ (k p : Nat) (a : α), (∀ q, p ≤ q → q < p + k → f q a = a) → fo f p k a = a := by
  intro k
  induction k with
  | zero => intro p a _; rfl
  | succ k ih =>
    intro p a h
    show fo f (p + 1) k (f p a) = a
    rw [h p (Nat.le_refl _) (by omega)]
    exact ih _ _ fun q h1 h2 => h q (by omega) (by omega)
/-- the run comes to an end of which this holds -/
def Ev {α : Type} (o : Option α) (Q : α → Prop) : Prop := ∃ r, o = some r ∧ Q r
theorem ev_some {α : Type} {Q : α → Prop} {x : α} (h : Q x) : Ev (some x) Q := ⟨x, rfl, h⟩
theorem ev_of {α : Type} {Q : α → Prop} {o : Option α} {x : α} (h : o = some x) (hq : Q x) : Ev o Q := ⟨x, h, hq⟩
theorem ev_mono {α : Type} {Q R : α → Prop} {o : Option α} (h : Ev o Q) (hq : ∀ x, Q x → R x) : Ev o R := by
  obtain ⟨x, h1, h2⟩ := h
  exact ⟨x, h1, hq x h2⟩
theorem ev_bind {α β : Type} {Q : β → Prop} {o : Option α} {k : α → Option β} {R : α → Prop} (h : Ev o R) (hk : ∀ x, R x → Ev (k x) Q) : Ev (o.bind k) Q := by
  obtain ⟨x, rfl, h2⟩ := h
  exact hk x h2
theorem ev_b {α β : Type} {Q : β → Prop} {o : Option α} {k : α → Option β} {x : α} (h : o = some x) (hk : Ev (k x) Q) : Ev (o.bind k) Q := by
  subst h
  exact hk
theorem ev_bi {β : Type} {Q : β → Prop} {o : Option (Int32 × pn_S)} {k : Int32 → pn_S → Option β} {R : Int32 × pn_S → Prop} (h : Ev o R) (hk : ∀ x σ, R (x, σ) → Ev (k x σ) Q) : Ev (pn_bi o k) Q := by
  obtain ⟨⟨x, σ⟩, rfl, h2⟩ := h
  exact hk x σ h2
theorem ev_pos {α : Type} {Q : α → Prop} {c : Prop} [Decidable c] {a b : Option α} (h : c) (ha : Ev a Q) : Ev (if c then a else b) Q := by
  rw [if_pos h]; exact ha
theorem ev_neg {α : Type} {Q : α → Prop} {c : Prop} [Decidable c] {a b : Option α} (h : ¬ c) (hb : Ev b Q) : Ev (if c then a else b) Q := by
  rw [if_neg h]; exact hb
theorem ev_ite {α : Type} {Q : α → Prop} {c : Prop} [Decidable c] {a b : Option α} (ha : c → Ev a Q) (hb : ¬ c → Ev b Q) : Ev (if c then a else b) Q := by
  by_cases h : c
  · rw [if_pos h]; exact ha h
  · rw [if_neg h]; exact hb h
