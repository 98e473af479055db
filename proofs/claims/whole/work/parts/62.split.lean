/-! PURE: the class splits a text -/
theorem wl_word (c : Nat → Int32) (s e : Nat) (r : List Int32) (q : Nat) : ∀ (W : List Int32), (∀ x, x ∈ W → ¬ x = 32) → (wl c s e (W ++ 32 :: r) q none = wl c s e r (q + 1) (some 0)) ∧ ∀ a, s + a ≤ e → wl c s e (W ++ 32 :: r) q (some a) = if e = s + a + W.length ∧ lm c W (s + a) = true then nI q else wl c s e r (q + 1) (some 0) := by
  intro W
  induction W with
  | nil =>
    intro _
    refine ⟨?_, fun a ha => ?_⟩
    · show wl c s e (32 :: r) q none = _
      rw [wl_c, if_pos rfl, if_neg (by intro h; cases h)]
    · show wl c s e (32 :: r) q (some a) = _
      rw [wl_c, if_pos rfl]
      by_cases z : a = e - s
      · rw [if_pos (by rw [z]), if_pos ⟨by rw [List.length_nil]; omega, rfl⟩]
      · rw [if_neg (fun h => z (Option.some.inj h)), if_neg (fun h => z (by have := h.1; rw [List.length_nil] at this; omega))]
  | cons x W ih =>
    intro h
    obtain ⟨i1, i2⟩ := ih fun y hy => h y (List.mem_cons_of_mem _ hy)
    have hx := h x List.mem_cons_self
    refine ⟨?_, fun a ha => ?_⟩
    · show wl c s e (x :: (W ++ 32 :: r)) q none = _
      rw [wl_c, if_neg hx]
      exact i1
    · show wl c s e (x :: (W ++ 32 :: r)) q (some a) = _
      rw [wl_c, if_neg hx]
      show wl c s e (W ++ 32 :: r) q (if s + a < e ∧ c (s + a) = x then some (a + 1) else none) = _
      rw [lm, List.length_cons]
      by_cases z : s + a < e ∧ c (s + a) = x
      · rw [if_pos z, i2 (a + 1) (by omega), decide_eq_true z.2, Bool.true_and, show s + (a + 1) = s + a + 1 by omega, show s + a + 1 + W.length = s + a + (W.length + 1) by omega]
      · rw [if_neg z, i1, if_neg]
        rintro ⟨h1, h2⟩
        rw [Bool.and_eq_true] at h2
        exact z ⟨by omega, of_decide_eq_true h2.1⟩
def flt : List (List Int32) → List Int32
  | [] => []
  | W :: r => W ++ 32 :: flt r
theorem wl_fw (c : Nat → Int32) {s e : Nat} (hse : s ≤ e) : ∀ (Ws : List (List Int32)) (q : Nat), (∀ W, W ∈ Ws → ∀ x, x ∈ W → ¬ x = 32) → wl c s e (flt Ws) q (some 0) = fw c s e Ws q := by
  intro Ws
  induction Ws with
  | nil => intro q _; rfl
  | cons W r ih =>
    intro q h
    have := (wl_word c s e (flt r) q W (h W List.mem_cons_self)).2 0 (by omega)
    show wl c s e (W ++ 32 :: flt r) q (some 0) = _
    rw [this, fw, ih (q + 1) fun X hX => h X (List.mem_cons_of_mem _ hX), Nat.add_zero]
    unfold mB
    by_cases z : e = s + W.length
    · rw [decide_eq_true z, Bool.true_and]
      by_cases y : lm c W s = true
      · rw [if_pos ⟨z, y⟩, if_pos y]
      · rw [if_neg (fun u => y u.2), if_neg y]
    · rw [if_neg (fun u => z u.1), decide_eq_false z, Bool.false_and, if_neg (by decide)]
theorem Wsl_f : pn_sb.getD 0 [] ++ [32] = flt Wsl := by decide +kernel
theorem Wsl_32 : ∀ W, W ∈ Wsl → ∀ x, x ∈ W → ¬ x = 32 := by decide +kernel
section
variable {σ : pn_S} {c : Nat → Int32} {n : Nat}
theorem c_word (hn : n ≤ 400) (h4 : σ 1 4 = nI n) (hc : ∀ i, i < n → σ 2 i = c i) {s e : Nat} (hse : s ≤ e) (hen : e ≤ n) : fX7_wordOf (nI s) (nI e) σ = some (wco c s e) := by
  have l : (pn_sb.getD 0 [] ++ [32]).length = 149 := by decide +kernel
  have := c_wl hn h4 hc hse hen (pn_sb.getD 0 [] ++ [32]) 0 5000 1000 (some 0) rfl (by rw [l]) (by rw [l]; omega) (by rw [l]; omega) (fun a h => by cases h; rw [l]; omega)
  unfold fX7_wordOf
  refine this.trans ?_
  rw [Wsl_f, wl_fw c hse Wsl 1000 Wsl_32]
  rfl
theorem c_isL (x : Int32) : fX7_isLetter x σ = some (b01 (decide (97 ≤ x.toInt ∧ x.toInt ≤ 122))) := by
  have e1 : (97 : Int32).toInt = 97 := rfl
  have e2 : (122 : Int32).toInt = 122 := rfl
  unfold fX7_isLetter
  by_cases h1 : x < 97
  · rw [if_pos h1, decide_eq_false (by rw [q_lt] at h1; omega)]; rfl
  · rw [if_neg h1]
    by_cases h2 : 122 < x
    · rw [if_pos h2, decide_eq_false (by rw [q_lt] at h2; omega)]; rfl
    · rw [if_neg h2, decide_eq_true (by rw [q_lt] at h1 h2; omega)]; rfl
theorem c_isD (x : Int32) : fX7_isDigit x σ = some (b01 (decide (48 ≤ x.toInt ∧ x.toInt ≤ 57))) := by
  have e1 : (48 : Int32).toInt = 48 := rfl
  have e2 : (57 : Int32).toInt = 57 := rfl
  unfold fX7_isDigit
  by_cases h1 : x < 48
  · rw [if_pos h1, decide_eq_false (by rw [q_lt] at h1; omega)]; rfl
  · rw [if_neg h1]
    by_cases h2 : 57 < x
    · rw [if_pos h2, decide_eq_false (by rw [q_lt] at h2; omega)]; rfl
    · rw [if_neg h2, decide_eq_true (by rw [q_lt] at h1 h2; omega)]; rfl
theorem inB_at {lo hi : Int} {i : Nat} (h : i < n) : inB c n lo hi i = decide (lo ≤ (c i).toInt ∧ (c i).toInt ≤ hi) := by
  unfold inB
  by_cases q : lo ≤ (c i).toInt ∧ (c i).toInt ≤ hi
  · rw [decide_eq_true q, decide_eq_true ⟨h, q⟩]
  · rw [decide_eq_false q, decide_eq_false (fun z => q z.2)]
theorem c_run (hn : n ≤ 400) (h4 : σ 1 4 = nI n) (hc : ∀ i, i < n → σ 2 i = c i) (L : Bool) : ∀ (d i f : Nat), n - i = d → i ≤ n → d < f → fX7_endOfRun_11 f (b01 L) (nI i) σ = some (nI (rnn (if L = true then inB c n 97 122 else inB c n 48 57) n i)) := by
  have hP : ∀ j, n ≤ j → (if L = true then inB c n 97 122 else inB c n 48 57) j = false := fun j hj => by cases L <;> exact inB_n j hj
  intro d
  induction d with
  | zero =>
    intro i f hd hi hf
    match f, hf with
    | f + 1, _ =>
      rw [fX7_endOfRun_11, h4, if_pos (nI_le (by omega) (by omega)), rnn_f (hP i (by omega))]
  | succ d ih =>
    intro i f hd hi hf
    match f, hf with
    | f + 1, hf =>
      have hin : i < n := by omega
      rw [fX7_endOfRun_11, h4, if_neg (nI_ge hin (by omega)), c_byte hn h4 hin, Option.bind_some, Option.bind_some, hc i hin, c_isD, c_isL, Option.bind_some, Option.bind_some, nI_1]
      cases L with
      | false =>
        rw [if_pos (show b01 false = 0 from rfl), ← inB_at (c := c) (lo := 48) (hi := 57) hin]
        cases hb : inB c n 48 57 i with
        | false => rw [if_pos (show b01 false = 0 from rfl), rnn_f (P := if false = true then inB c n 97 122 else inB c n 48 57) hb]
        | true =>
          rw [if_neg (show ¬ b01 true = 0 by decide)]
          have := ih (i + 1) f (by omega) (by omega) (by omega)
          rw [this, rnn_t (P := if false = true then inB c n 97 122 else inB c n 48 57) hP hb]
      | true =>
        rw [if_neg (show ¬ b01 true = 0 by decide), ← inB_at (c := c) (lo := 97) (hi := 122) hin]
        cases hb : inB c n 97 122 i with
        | false => rw [if_pos (show b01 false = 0 from rfl), rnn_f (P := if true = true then inB c n 97 122 else inB c n 48 57) hb]
        | true =>
          rw [if_neg (show ¬ b01 true = 0 by decide)]
          have := ih (i + 1) f (by omega) (by omega) (by omega)
          rw [this, rnn_t (P := if true = true then inB c n 97 122 else inB c n 48 57) hP hb]
theorem c_eor (hn : n ≤ 400) (h4 : σ 1 4 = nI n) (hc : ∀ i, i < n → σ 2 i = c i) {s : Nat} (hs : s < n) : ∃ e, fX7_endOfRun (nI s) σ = some (nI e) ∧ e ≤ n ∧ (if nI (s + 1) < nI e then nI e else nI (s + 1)) = nI (en c n s) := by
  unfold fX7_endOfRun
  rw [c_byte hn h4 hs, Option.bind_some, hc s hs, c_isL, Option.bind_some, ← inB_at (c := c) (lo := 97) (hi := 122) hs]
  refine ⟨_, c_run hn h4 hc (inB c n 97 122 s) (n - s) s 5000 rfl (by omega) (by omega), rnn_le _ (by omega), ?_⟩
  unfold en
  cases hl : inB c n 97 122 s with
  | true =>
    rw [if_pos rfl, if_pos rfl]
    have g := rnn_gt (inB_n (c := c) (n := n) (lo := 97) (hi := 122)) hl
    have le : rnn (inB c n 97 122) n s ≤ n := rnn_le _ (by omega)
    by_cases z : s + 1 < rnn (inB c n 97 122) n s
    · rw [if_pos ((nI_lt_iff (by omega) (by omega)).mpr z)]; rfl
    · rw [if_neg (fun u => z ((nI_lt_iff (by omega) (by omega)).mp u))]
      show nI (s + 1) = nI (rnn (inB c n 97 122) n s)
      rw [show s + 1 = rnn (inB c n 97 122) n s by omega]
  | false =>
    rw [if_neg (show ¬ false = true by decide), if_neg (show ¬ false = true by decide)]
    have le : rnn (inB c n 48 57) n s ≤ n := rnn_le _ (by omega)
    cases hd : inB c n 48 57 s with
    | true =>
      rw [if_pos rfl]
      have g := rnn_gt (inB_n (c := c) (n := n) (lo := 48) (hi := 57)) hd
      by_cases z : s + 1 < rnn (inB c n 48 57) n s
      · rw [if_pos ((nI_lt_iff (by omega) (by omega)).mpr z)]; rfl
      · rw [if_neg (fun u => z ((nI_lt_iff (by omega) (by omega)).mp u))]
        show nI (s + 1) = nI (rnn (inB c n 48 57) n s)
        rw [show s + 1 = rnn (inB c n 48 57) n s by omega]
    | false =>
      rw [if_neg (show ¬ false = true by decide), rnn_f hd, if_neg (nlt_nI (by omega) (by omega))]
theorem c_numl (hn : n ≤ 400) (h4 : σ 1 4 = nI n) (hc : ∀ i, i < n → σ 2 i = c i) {e : Nat} (he : e ≤ n) : ∀ (d i f : Nat) (v : Int32), i + d = e → d < f → fX7_numberOf_16 f (nI e) v (nI i) σ = some (fo (fun i v => 10 * v + c i - 48) i d v) := by
  intro d
  induction d with
  | zero =>
    intro i f v hd hf
    match f, hf with
    | f + 1, _ => rw [fX7_numberOf_16, if_pos (nI_le (by omega) (by omega))]; rfl
  | succ d ih =>
    intro i f v hd hf
    match f, hf with
    | f + 1, hf =>
      rw [fX7_numberOf_16, if_neg (nI_ge (by omega) (by omega)), c_byte hn h4 (by omega), Option.bind_some, hc i (by omega), nI_1, ih (i + 1) f _ (by omega) (by omega)]
      rfl
theorem sub_nI {a b : Nat} (h : b ≤ a) (ha : a < 2000000000) : nI a - nI b = nI (a - b) := by
  rw [q_eq, q_sub (by rw [nI_toInt (by omega), nI_toInt (by omega)]; omega) (by rw [nI_toInt (by omega), nI_toInt (by omega)]; omega), nI_toInt (by omega), nI_toInt (by omega), nI_toInt (by omega)]
  omega
theorem c_thing (hn : n ≤ 400) (h4 : σ 1 4 = nI n) (hc : ∀ i, i < n → σ 2 i = c i) {s : Nat} (hs : s < n) : fX7_thingOf (nI s) (nI (en c n s)) σ = some (cod c n s) := by
  have hen := en_le c hs
  have hgt := en_gt c (n := n) (s := s)
  unfold fX7_thingOf cod
  rw [c_byte hn h4 hs, Option.bind_some, hc s hs, c_isL, Option.bind_some, ← inB_at (c := c) (lo := 97) (hi := 122) hs, c_isD, Option.bind_some, ← inB_at (c := c) (lo := 48) (hi := 57) hs, if_neg (show ¬ n ≤ s by omega)]
  cases hl : inB c n 97 122 s with
  | true =>
    have e : en c n s = lt c n s := by unfold en; rw [if_pos hl]
    rw [if_neg (show ¬ b01 true = 0 by decide), if_pos rfl, c_word hn h4 hc (by omega) hen, Option.bind_some, e]
  | false =>
    rw [if_pos (show b01 false = 0 from rfl), if_neg (show ¬ false = true by decide)]
    cases hd : inB c n 48 57 s with
    | true =>
      have e : en c n s = dg c n s := by unfold en; rw [if_neg (by rw [hl]; decide), if_pos hd]
      rw [if_neg (show ¬ b01 true = 0 by decide), if_pos rfl]
      unfold fX7_numberOf
      rw [sub_nI (by omega) (by omega), e]
      rw [e] at hen hgt
      by_cases z : dg c n s - s ≤ 3
      · rw [if_pos (show nI (dg c n s - s) ≤ 3 from nI_le (b := 3) z (by omega)), if_pos z, c_numl hn h4 hc hen (dg c n s - s) s 5000 0 (by omega) (by omega), Option.bind_some]
        rfl
      · rw [if_neg (show ¬ nI (dg c n s - s) ≤ 3 from fun u => z ((nI_le_iff (b := 3) (by omega) (by omega)).mp u)), if_neg z, Option.bind_some]
    | false => rw [if_pos (show b01 false = 0 from rfl), if_neg (show ¬ false = true by decide)]
end
/-! the things, from the k-th on, are those of the text from i on -/
def TKS (c : Nat → Int32) (n : Nat) (T P : Nat → Int32) (m : Nat) : Nat → Nat → Nat → Prop
  | 0, _, _ => False
  | d + 1, k, i => k < m ∧ P k = nI (sk c n i) ∧ T k = cod c n (sk c n i) ∧ (sk c n i < n → TKS c n T P m d (k + 1) (en c n (sk c n i)))
def TK (c : Nat → Int32) (n : Nat) (T P : Nat → Int32) (m k i : Nat) : Prop := ∃ d, TKS c n T P m d k i
theorem TK.to {c : Nat → Int32} {n : Nat} {T P : Nat → Int32} {m k i : Nat} (h : TK c n T P m k i) : k < m ∧ P k = nI (sk c n i) ∧ T k = cod c n (sk c n i) ∧ (sk c n i < n → TK c n T P m (k + 1) (en c n (sk c n i))) := by
  obtain ⟨d, h⟩ := h
  cases d with
  | zero => cases h
  | succ d => exact ⟨h.1, h.2.1, h.2.2.1, fun q => ⟨d, h.2.2.2 q⟩⟩
theorem TK.of {c : Nat → Int32} {n : Nat} {T P : Nat → Int32} {m k i : Nat} (h1 : k < m) (h2 : P k = nI (sk c n i)) (h3 : T k = cod c n (sk c n i)) (h4 : sk c n i < n → TK c n T P m (k + 1) (en c n (sk c n i))) : TK c n T P m k i := by
  by_cases q : sk c n i < n
  · obtain ⟨d, hd⟩ := h4 q
    exact ⟨d + 1, h1, h2, h3, fun _ => hd⟩
  · exact ⟨1, h1, h2, h3, fun z => absurd z q⟩
theorem TK.sk {c : Nat → Int32} {n : Nat} {T P : Nat → Int32} {m k i j : Nat} (h : TK c n T P m k i) (e : sk c n j = sk c n i) : TK c n T P m k j := by
  obtain ⟨a1, a2, a3, a4⟩ := h.to
  exact TK.of a1 (by rw [e]; exact a2) (by rw [e]; exact a3) (by rw [e]; exact a4)
theorem c_addT {σ : pn_S} {k : Nat} (hk : k < 401) (h5 : σ 1 5 = nI k) (x y : Int32) : fX7_addThing x y σ = some (pn_up (pn_up (pn_up σ 3 k x) 4 k y) 1 5 (nI (k + 1))) := by
  unfold fX7_addThing fX7_addThing_49
  rw [h5, if_neg (nI_pos (by omega)), if_neg (show ¬ Int32.ofNat 401 ≤ nI k from nI_ge (b := 401) hk (by omega)), q_ib (by omega) (by omega), if_pos rfl, pn_up_a _ _ _ _ (by omega), h5, q_ib (by omega) (by omega), if_pos rfl, nI_clamp (by omega), pn_up_a _ _ _ _ (by omega), pn_up_a _ _ _ _ (by omega), h5, nI_1]
theorem c_split {c : Nat → Int32} {n : Nat} (hn : n ≤ 400) : ∀ (d i k f : Nat) (σ : pn_S), n - i = d → i ≤ n → k ≤ i → d < f → σ 1 4 = nI n → (∀ i, i < n → σ 2 i = c i) → σ 1 5 = nI k → ∃ σ' m, fX7_split_17 f (nI i) σ = some σ' ∧ (∀ j, j < k → σ' 3 j = σ 3 j ∧ σ' 4 j = σ 4 j) ∧ TK c n (σ' 3) (σ' 4) m k i ∧ σ' 1 5 = nI m ∧ m ≤ 401 ∧ (∀ q, q ≠ 5 → σ' 1 q = σ 1 q) ∧ Fr (fun i => i = 1 ∨ i = 3 ∨ i = 4) σ σ' := by
  intro d
  induction d using Nat.strongRecOn with
  | ind d ih =>
    intro i k f σ hd hi hk hf h4 hc h5
    match f, hf with
    | f + 1, hf =>
      by_cases hin : i < n
      · obtain ⟨e, e1, e2, e3⟩ := c_eor hn h4 hc hin
        have hgt := en_gt c (n := n) (s := i)
        have hle := en_le c hin
        have ei : fX7_split_17 (f + 1) (nI i) σ = if c i = 32 then fX7_split_17 f (nI (en c n i)) σ else (fX7_thingOf (nI i) (nI (en c n i)) σ).bind fun x7 => (fX7_addThing x7 (nI i) σ).bind fun σ8 => fX7_split_17 f (nI (en c n i)) σ8 := by
          rw [fX7_split_17, h4, if_neg (nI_ge hin (by omega)), e1, Option.bind_some, nI_1, jmax, Option.bind_some, e3, c_byte hn h4 hin, Option.bind_some, hc i hin]
        rw [ei]
        by_cases hb : c i = 32
        · have eb : inB c n 32 32 i = true := by
            unfold inB
            rw [hb]
            exact decide_eq_true ⟨hin, by decide, by decide⟩
          have en1 : en c n i = i + 1 := by
            unfold en inB
            rw [hb]
            rw [decide_eq_false (by rintro ⟨_, z, _⟩; exact absurd z (by decide)), if_neg (by decide), decide_eq_false (by rintro ⟨_, z, _⟩; exact absurd z (by decide)), if_neg (by decide)]
          rw [if_pos hb, en1]
          obtain ⟨σ', m, g1, g2, g3, g4⟩ := ih (n - (i + 1)) (by omega) (i + 1) k f σ rfl (by omega) (by omega) (by omega) h4 hc h5
          exact ⟨σ', m, g1, g2, g3.sk (rnn_t inB_n eb), g4⟩
        · have nb : inB c n 32 32 i = false := by
            unfold inB
            refine decide_eq_false ?_
            rintro ⟨_, z1, z2⟩
            exact hb (q_eq.mpr (by show _ = (32 : Int); omega))
          have esk : sk c n i = i := rnn_f nb
          rw [if_neg hb, c_thing hn h4 hc hin, Option.bind_some, c_addT (by omega) h5, Option.bind_some]
          obtain ⟨σ', m, g1, g2, g3, g4, g5, g6, g7⟩ := ih (n - en c n i) (by omega) (en c n i) (k + 1) f (pn_up (pn_up (pn_up σ 3 k (cod c n i)) 4 k (nI i)) 1 5 (nI (k + 1))) rfl hle (by omega) (by omega) (by rw [pn_up_k _ _ _ _ (by omega), pn_up_a _ _ _ _ (by omega), pn_up_a _ _ _ _ (by omega)]; exact h4) (fun j hj => by rw [pn_up_a _ _ _ _ (by omega), pn_up_a _ _ _ _ (by omega), pn_up_a _ _ _ _ (by omega)]; exact hc j hj) (pn_up_s _ _ _ _)
          obtain ⟨km, _, _, _⟩ := g3.to
          have gk := g2 k (by omega)
          refine ⟨σ', m, g1, fun j hj => ?_, TK.of (by omega) ?_ ?_ (fun _ => ?_), g4, g5, fun q hq => ?_, ?_⟩
          · have := g2 j (by omega)
            rw [this.1, this.2, pn_up_a _ _ _ _ (by omega), pn_up_a _ _ _ _ (by omega), pn_up_k _ _ _ _ (by omega), pn_up_a _ _ _ _ (by omega), pn_up_k _ _ _ _ (by omega), pn_up_a _ _ _ _ (by omega)]
            exact ⟨rfl, rfl⟩
          · rw [gk.2, pn_up_a _ _ _ _ (by omega), pn_up_s, esk]
          · rw [gk.1, pn_up_a _ _ _ _ (by omega), pn_up_a _ _ _ _ (by omega), pn_up_s, esk]
          · rw [esk]; exact g3
          · rw [g6 q hq, pn_up_k _ _ _ _ hq, pn_up_a _ _ _ _ (by omega), pn_up_a _ _ _ _ (by omega)]
          · exact (((Fr.rf.up (by omega)).up (by omega)).up (by omega)).tr g7
      · have e : i = n := by omega
        subst e
        rw [fX7_split_17, h4, if_pos (nI_le (Nat.le_refl _) (by omega)), c_addT (by omega) h5, Option.bind_some]
        have esk : sk c i i = i := rnn_f (inB_n i (Nat.le_refl _))
        refine ⟨_, k + 1, rfl, fun j hj => ?_, TK.of (by omega) ?_ ?_ (fun z => absurd z (by rw [esk]; omega)), pn_up_s _ _ _ _, by omega, fun q hq => ?_, ((Fr.rf.up (by omega)).up (by omega)).up (by omega)⟩
        · rw [pn_up_a _ _ _ _ (by omega), pn_up_a _ _ _ _ (by omega), pn_up_k _ _ _ _ (by omega), pn_up_a _ _ _ _ (by omega), pn_up_k _ _ _ _ (by omega), pn_up_a _ _ _ _ (by omega)]
          exact ⟨rfl, rfl⟩
        · rw [pn_up_a _ _ _ _ (by omega), pn_up_s, esk]
        · rw [pn_up_a _ _ _ _ (by omega), pn_up_a _ _ _ _ (by omega), pn_up_s, esk]
          unfold cod
          rw [if_pos (Nat.le_refl _)]
        · rw [pn_up_k _ _ _ _ hq, pn_up_a _ _ _ _ (by omega), pn_up_a _ _ _ _ (by omega)]
