/-! PURE: the text: runs of bytes, words, numbers -/
def rn (P : Nat → Bool) : Nat → Nat → Nat
  | 0, i => i
  | f + 1, i => if P i = true then rn P f (i + 1) else i
def rnn (P : Nat → Bool) (n i : Nat) : Nat := rn P (n - i) i
theorem rn_ge (P : Nat → Bool) : ∀ f i, i ≤ rn P f i ∧ rn P f i ≤ i + f := by
  intro f
  induction f with
  | zero => intro i; exact ⟨Nat.le_refl _, Nat.le_refl _⟩
  | succ f ih =>
    intro i
    rw [rn]
    have := ih (i + 1)
    split <;> omega
theorem rnn_ge (P : Nat → Bool) (n i : Nat) : i ≤ rnn P n i := (rn_ge P _ _).1
theorem rnn_le (P : Nat → Bool) {n i : Nat} (h : i ≤ n) : rnn P n i ≤ n := by have := (rn_ge P (n - i) i).2; unfold rnn; omega
theorem rnn_t {P : Nat → Bool} {n i : Nat} (hP : ∀ j, n ≤ j → P j = false) (h : P i = true) : rnn P n i = rnn P n (i + 1) := by
  have hi : i < n := by
    rcases Nat.lt_or_ge i n with q | q
    · exact q
    · rw [hP i q] at h; cases h
  unfold rnn
  rw [show n - i = (n - (i + 1)) + 1 by omega, rn, if_pos h]
theorem rnn_f {P : Nat → Bool} {n i : Nat} (h : P i = false) : rnn P n i = i := by
  unfold rnn
  cases n - i with
  | zero => rfl
  | succ f => rw [rn, if_neg (by rw [h]; decide)]
theorem rnn_gt {P : Nat → Bool} {n i : Nat} (hP : ∀ j, n ≤ j → P j = false) (h : P i = true) : i < rnn P n i := by
  rw [rnn_t hP h]
  have := rnn_ge P n (i + 1)
  omega
theorem rnn_end {P : Nat → Bool} {n : Nat} (hP : ∀ j, n ≤ j → P j = false) : ∀ d i, n - i = d → P (rnn P n i) = false := by
  intro d
  induction d with
  | zero => intro i hd; have := rnn_ge P n i; exact hP _ (by omega)
  | succ d ih =>
    intro i hd
    cases h : P i with
    | false => rw [rnn_f h]; exact h
    | true => rw [rnn_t hP h]; exact ih (i + 1) (by omega)
theorem rnn_in {P : Nat → Bool} {n : Nat} (hP : ∀ j, n ≤ j → P j = false) : ∀ d i, n - i = d → ∀ j, i ≤ j → j < rnn P n i → P j = true := by
  intro d
  induction d with
  | zero =>
    intro i hd j h1 h2
    have := (rn_ge P (n - i) i).2
    unfold rnn at h2
    omega
  | succ d ih =>
    intro i hd j h1 h2
    cases h : P i with
    | false => rw [rnn_f h] at h2; omega
    | true =>
      rw [rnn_t hP h] at h2
      by_cases q : j = i
      · rw [q]; exact h
      · exact ih (i + 1) (by omega) j (by omega) h2
/-- bytes of this range -/
def inB (c : Nat → Int32) (n : Nat) (lo hi : Int) (i : Nat) : Bool := decide (i < n ∧ lo ≤ (c i).toInt ∧ (c i).toInt ≤ hi)
theorem inB_n {c : Nat → Int32} {n : Nat} {lo hi : Int} : ∀ j, n ≤ j → inB c n lo hi j = false := fun j hj => by unfold inB; rw [decide_eq_false (by omega)]
theorem inB_lt {c : Nat → Int32} {n : Nat} {lo hi : Int} {j : Nat} (h : inB c n lo hi j = true) : j < n ∧ lo ≤ (c j).toInt ∧ (c j).toInt ≤ hi := of_decide_eq_true h
def sk (c : Nat → Int32) (n i : Nat) : Nat := rnn (inB c n 32 32) n i
def lt (c : Nat → Int32) (n i : Nat) : Nat := rnn (inB c n 97 122) n i
def dg (c : Nat → Int32) (n i : Nat) : Nat := rnn (inB c n 48 57) n i
/-- the end of what begins at s -/
def en (c : Nat → Int32) (n s : Nat) : Nat := if inB c n 97 122 s = true then lt c n s else if inB c n 48 57 s = true then dg c n s else s + 1
theorem en_gt (c : Nat → Int32) {n s : Nat} : s < en c n s := by
  unfold en
  split
  · next h => exact rnn_gt inB_n h
  · split
    · next h => exact rnn_gt inB_n h
    · omega
theorem en_le (c : Nat → Int32) {n s : Nat} (h : s < n) : en c n s ≤ n := by
  unfold en
  split
  · exact rnn_le _ (by omega)
  · split
    · exact rnn_le _ (by omega)
    · omega
/-! words -/
def lm (c : Nat → Int32) : List Int32 → Nat → Bool
  | [], _ => true
  | x :: W, s => decide (c s = x) && lm c W (s + 1)
def mB (c : Nat → Int32) (W : List Int32) (s e : Nat) : Bool := decide (e = s + W.length) && lm c W s
def fw (c : Nat → Int32) (s e : Nat) : List (List Int32) → Nat → Int32
  | [], _ => 3000
  | W :: r, q => if mB c W s e = true then nI q else fw c s e r (q + 1)
theorem lm_inj {c : Nat → Int32} : ∀ (W X : List Int32) (s : Nat), W.length = X.length → lm c W s = true → lm c X s = true → W = X := by
  intro W
  induction W with
  | nil =>
    intro X s h _ _
    cases X with
    | nil => rfl
    | cons x X => cases h
  | cons y W ih =>
    intro X s h h1 h2
    cases X with
    | nil => cases h
    | cons x X =>
      rw [lm, Bool.and_eq_true] at h1 h2
      have e1 := of_decide_eq_true h1.1
      have e2 := of_decide_eq_true h2.1
      rw [ih X (s + 1) (Nat.succ.inj h) h1.2 h2.2, ← e1, ← e2]
theorem mB_inj {c : Nat → Int32} {W X : List Int32} {s e : Nat} (h1 : mB c W s e = true) (h2 : mB c X s e = true) : W = X := by
  unfold mB at h1 h2
  rw [Bool.and_eq_true] at h1 h2
  have e1 := of_decide_eq_true h1.1
  have e2 := of_decide_eq_true h2.1
  exact lm_inj W X s (by omega) h1.2 h2.2
theorem fw_at {c : Nat → Int32} {s e : Nat} : ∀ (Ws : List (List Int32)) (q j : Nat), j < Ws.length → q + Ws.length < 3000 → Ws.Nodup → (fw c s e Ws q = nI (q + j) ↔ mB c (Ws.getD j []) s e = true) := by
  intro Ws
  induction Ws with
  | nil => intro q j h; cases h
  | cons W r ih =>
    intro q j hj hq hn
    rw [List.nodup_cons] at hn
    rw [List.length_cons] at hj hq
    rw [fw]
    cases hW : mB c W s e with
    | true =>
      rw [if_pos rfl]
      cases j with
      | zero => exact ⟨fun _ => hW, fun _ => rfl⟩
      | succ j =>
        have hjr : j < r.length := by omega
        refine ⟨fun h => ?_, fun h => ?_⟩
        · have := (nI_eq (a := q) (b := q + (j + 1)) (by omega) (by omega)).mp h
          omega
        · have h' : mB c (r.getD j []) s e = true := h
          have eq := mB_inj hW h'
          refine absurd ?_ hn.1
          rw [eq, List.getD_eq_getElem?_getD, List.getElem?_eq_getElem hjr]
          exact List.getElem_mem hjr
    | false =>
      rw [if_neg (by decide)]
      cases j with
      | zero =>
        refine ⟨fun h => ?_, fun h => ?_⟩
        · exfalso
          have key : ∀ (Ws : List (List Int32)) (p : Nat), q < p → p + Ws.length < 3000 → ¬ fw c s e Ws p = nI q := by
            intro Ws
            induction Ws with
            | nil =>
              intro p h1 h2 h3
              have := (nI_eq (a := 3000) (b := q) (by omega) (by omega)).mp h3
              rw [List.length_nil] at h2
              omega
            | cons X r' ih' =>
              intro p h1 h2 h3
              rw [List.length_cons] at h2
              rw [fw] at h3
              split at h3
              · have := (nI_eq (a := p) (b := q) (by omega) (by omega)).mp h3
                omega
              · exact ih' (p + 1) (by omega) (by omega) h3
          exact key r (q + 1) (by omega) (by omega) h
        · have h : mB c W s e = true := h
          rw [hW] at h; cases h
      | succ j =>
        have := ih (q + 1) j (by omega) (by omega) hn.2
        rw [show q + 1 + j = q + (j + 1) by omega] at this
        exact this
def Wsl : List (List Int32) := [pn_sb.getD 1 [], pn_sb.getD 2 [], pn_sb.getD 3 [], pn_sb.getD 4 [], pn_sb.getD 5 [], pn_sb.getD 6 [], pn_sb.getD 7 [], pn_sb.getD 8 [], pn_sb.getD 9 [], pn_sb.getD 10 [], pn_sb.getD 11 [], pn_sb.getD 12 [], pn_sb.getD 13 [], pn_sb.getD 14 [], pn_sb.getD 15 [], pn_sb.getD 16 [], pn_sb.getD 17 [], pn_sb.getD 18 [], pn_sb.getD 19 [], pn_sb.getD 20 [], pn_sb.getD 27 [], pn_sb.getD 26 [], pn_sb.getD 21 [], pn_sb.getD 22 [], pn_sb.getD 23 [], pn_sb.getD 24 [], pn_sb.getD 25 []]
theorem Wsl_nd : Wsl.Nodup := by decide +kernel
theorem Wsl_ne : ∀ W, W ∈ Wsl → 0 < W.length ∧ W.length < 10 := by decide +kernel
def wco (c : Nat → Int32) (s e : Nat) : Int32 := fw c s e Wsl 1000
/-- a number's value, its digits from s to e -/
def nva (c : Nat → Int32) (s e : Nat) : Int32 := fo (fun i v => 10 * v + c i - 48) s (e - s) 0
/-- the thing that begins at s -/
def cod (c : Nat → Int32) (n s : Nat) : Int32 := if n ≤ s then 3001 else if inB c n 97 122 s = true then wco c s (lt c n s) else if inB c n 48 57 s = true then (if dg c n s - s ≤ 3 then nva c s (dg c n s) else 3000) else 2000 + c s
/-! the class's words -/
theorem j_len {j : Nat} (hj : j < 28) (σ : pn_S) : fJ0_length_8abf5 j σ = some (nI (pn_sb.getD j []).length) := by
  have e : fJ0_length_8abf5 j σ = fJ0_length_8abf5 j (fun _ _ => 0) := rfl
  rw [e]
  exact (by decide +kernel : ∀ j, j < 28 → fJ0_length_8abf5 j (fun _ _ => 0) = some (nI (pn_sb.getD j []).length)) j hj
theorem j_chr {j x : Nat} (hj : j < 28) (hx : x < (pn_sb.getD j []).length) (σ : pn_S) : fJ0_charAt_5068e j (nI x) σ = some ((pn_sb.getD j []).getD x 0) := by
  have e : fJ0_charAt_5068e j (nI x) σ = fJ0_charAt_5068e j (nI x) (fun _ _ => 0) := rfl
  rw [e]
  exact (by decide +kernel : ∀ j, j < 28 → ∀ x, x < (pn_sb.getD j []).length → fJ0_charAt_5068e j (nI x) (fun _ _ => 0) = some ((pn_sb.getD j []).getD x 0)) j hj x hx
def wla (c : Nat → Int32) (s e : Nat) (x : Int32) : Option Nat → Option Nat
  | none => none
  | some a => if s + a < e ∧ c (s + a) = x then some (a + 1) else none
/-- the class goes through the words' letters; al: how many were alike, or none -/
def wl (c : Nat → Int32) (s e : Nat) : List Int32 → Nat → Option Nat → Int32
  | [], _, _ => 3000
  | x :: r, q, al => if x = 32 then (if al = some (e - s) then nI q else wl c s e r (q + 1) (some 0)) else wl c s e r q (wla c s e x al)
theorem wl_c (c : Nat → Int32) (s e : Nat) (x : Int32) (r : List Int32) (q : Nat) (al : Option Nat) : wl c s e (x :: r) q al = if x = 32 then (if al = some (e - s) then nI q else wl c s e r (q + 1) (some 0)) else wl c s e r q (wla c s e x al) := rfl
def alI : Option Nat → Int32
  | none => -1
  | some a => nI a
theorem c_wl {σ : pn_S} {c : Nat → Int32} {n s e : Nat} (hn : n ≤ 400) (h4 : σ 1 4 = nI n) (hc : ∀ i, i < n → σ 2 i = c i) (hse : s ≤ e) (hen : e ≤ n) : ∀ (r : List Int32) (x f q : Nat) (al : Option Nat), (pn_sb.getD 0 [] ++ [32]).drop x = r → x + r.length = 149 → r.length < f → q + r.length < 2000 → (∀ a, al = some a → a + r.length ≤ 149) → fX7_wordOf_10 f (nI s) (nI e) (nI q) (alI al) (nI x) σ = some (wl c s e r q al) := by
  have len0 : (pn_sb.getD 0 []).length = 148 := by decide +kernel
  intro r
  induction r with
  | nil =>
    intro x f q al hd hx hf hq ha
    match f, hf with
    | f + 1, _ =>
      rw [fX7_wordOf_10, j_len (by omega), Option.bind_some, len0, if_pos (nI_lt (by rw [List.length_nil] at hx; omega) (by rw [List.length_nil] at hx; omega))]
      rfl
  | cons y r ih =>
    intro x f q al hd hx hf hq ha
    match f, hf with
    | f + 1, hf =>
      rw [List.length_cons] at hx hf hq
      simp only [List.length_cons] at ha
      have hd2 : (pn_sb.getD 0 [] ++ [32]).drop (x + 1) = r := by rw [← List.drop_drop, hd]; rfl
      have hy : (pn_sb.getD 0 [] ++ [32])[x]? = some y := by
        rw [← List.head?_drop, hd]
        rfl
      have es : nI e - nI s = nI (e - s) := by
        rw [q_eq, q_sub (by rw [nI_toInt (by omega), nI_toInt (by omega)]; omega) (by rw [nI_toInt (by omega), nI_toInt (by omega)]; omega), nI_toInt (by omega), nI_toInt (by omega), nI_toInt (by omega)]
        omega
      have e42 : fX7_wordOf_10 (f + 1) (nI s) (nI e) (nI q) (alI al) (nI x) σ = fX7_wordOf_42 (fX7_wordOf_10 f) (nI s) (nI e) (nI q) (alI al) (nI x) y σ := by
        rw [fX7_wordOf_10, j_len (by omega), Option.bind_some, Option.bind_some, len0, if_neg (nlt_nI (by omega) (by omega))]
        by_cases z : x = 148
        · subst z
          rw [if_pos (nI_le (Nat.le_refl _) (by omega))]
          have : y = 32 := by
            have h2 : (pn_sb.getD 0 [] ++ [32])[148]? = some 32 := by decide +kernel
            rw [h2] at hy
            exact (Option.some.inj hy).symm
          rw [this]
        · rw [if_neg (nI_ge (by omega) (by omega)), j_chr (by omega) (by rw [len0]; omega), Option.bind_some]
          have : (pn_sb.getD 0 []).getD x 0 = y := by
            rw [List.getElem?_append_left (by rw [len0]; omega)] at hy
            rw [List.getD_eq_getElem?_getD, hy]
            rfl
          rw [this]
      rw [e42, wl_c]
      unfold fX7_wordOf_42 fX7_wordOf_85
      rw [es]
      by_cases z : y = 32
      · rw [if_pos z, if_pos z]
        have al_iff : (alI al = nI (e - s)) ↔ al = some (e - s) := by
          cases al with
          | none =>
            refine ⟨fun h => ?_, fun h => by cases h⟩
            have := congrArg Int32.toInt h
            rw [nI_toInt (by omega)] at this
            have e1 : (alI none).toInt = -1 := rfl
            omega
          | some a =>
            have := ha a rfl
            refine ⟨fun h => ?_, fun h => by cases h; rfl⟩
            rw [(nI_eq (a := a) (b := e - s) (by omega) (by omega)).mp h]
        by_cases z2 : al = some (e - s)
        · rw [if_pos (al_iff.mpr z2), if_pos z2]
        · rw [if_neg (fun h => z2 (al_iff.mp h)), if_neg z2, nI_1, nI_1]
          exact ih (x + 1) f (q + 1) (some 0) hd2 (by omega) (by omega) (by omega) (fun a h => by cases h; omega)
      · rw [if_neg z, if_neg z, nI_1]
        cases al with
        | none =>
          rw [if_pos (show alI none = -1 from rfl)]
          exact ih (x + 1) f q none hd2 (by omega) (by omega) (by omega) (fun a h => by cases h)
        | some a =>
          have ha' := ha a rfl
          have na : ¬ alI (some a) = -1 := fun h => by
            have := congrArg Int32.toInt h
            have e1 : (-1 : Int32).toInt = -1 := rfl
            have e2 : (alI (some a)).toInt = a := nI_toInt (by omega)
            omega
          have esa : nI s + alI (some a) = nI (s + a) := nI_add _ _
          rw [if_neg na, esa]
          by_cases z3 : s + a < e
          · rw [if_neg (nI_ge z3 (by omega)), c_byte hn h4 (by omega), Option.bind_some, hc _ (by omega)]
            by_cases z4 : c (s + a) = y
            · rw [if_pos z4]
              have e5 : alI (some a) + 1 = nI (a + 1) := nI_1 _
              rw [e5]
              show _ = some (wl c s e r q (if s + a < e ∧ c (s + a) = y then some (a + 1) else none))
              rw [if_pos ⟨z3, z4⟩]
              exact ih (x + 1) f q (some (a + 1)) hd2 (by omega) (by omega) (by omega) (fun b h => by cases h; omega)
            · rw [if_neg z4]
              show _ = some (wl c s e r q (if s + a < e ∧ c (s + a) = y then some (a + 1) else none))
              rw [if_neg (fun h => z4 h.2)]
              exact ih (x + 1) f q none hd2 (by omega) (by omega) (by omega) (fun a h => by cases h)
          · rw [if_pos (nI_le (by omega) (by omega))]
            show _ = some (wl c s e r q (if s + a < e ∧ c (s + a) = y then some (a + 1) else none))
            rw [if_neg (fun h => z3 h.1)]
            exact ih (x + 1) f q none hd2 (by omega) (by omega) (by omega) (fun a h => by cases h)
