/-! THE CONSTRUCTORS' CONTRACTS -/
set_option maxRecDepth 20000
def pk_dv (v : Value) : Nat := match v with
  | .null => 0
  | .int x => if x = 0 then 1 else 2
  | _ => 2
theorem pk_dvs {ci N : Nat} {ty : Nat → FieldType} (h : ∀ i, i < 97 → pn_K i = ci → ∀ k, k < N → pk_dv (defaultValue (ty k)) = if (pn_R i k).isSome then 0 else 1) : ∀ i, i < 97 → pn_K i = ci → ∀ k, k < N → defaultValue (ty k) = if (pn_R i k).isSome then .null else .int 0 := by
  intro i hi hK k hk
  have h1 := h i hi hK k hk
  generalize defaultValue (ty k) = v at h1
  by_cases hR : (pn_R i k).isSome = true
  · rw [if_pos hR] at h1 ⊢
    cases v with
    | null => rfl
    | int x =>
      by_cases hx : x = 0
      · simp [pk_dv, hx] at h1
      · simp [pk_dv, hx] at h1
    | _ => simp [pk_dv] at h1
  · rw [if_neg hR] at h1 ⊢
    cases v with
    | int x =>
      by_cases hx : x = 0
      · rw [hx]
      · unfold pk_dv at h1; simp [hx] at h1
    | _ => simp [pk_dv] at h1
def pk_Y0 : pk_Y := (0, fun _ _ => false, fun _ _ => 0)
section PKN
variable {p : Program} {l : Launch} {e : Env} {R : Room} {s : State} {m : MethodId} {args : Array Value} {below : List Frame} {meth : Method} {c : Code} {H : Heap} {locs : List Loc} {cells slots : Nat} {Q : State → Prop}
variable {Γ : pn_G} {M : pn_M} {Y : pk_Y} {pc n9 : Nat} {ls : Array Slot} {rest : List Value}
theorem pk_newN {idx ci : Nat} (A : pk_A9 Γ M p s m args meth c) (hH : pk_H Γ Y H) (hS : va_S (pn_A Γ) s.heap H locs) (hN9 : pk_N Γ Y s cells) (hN : pk_NW M.1.cls idx ci) (hn9 : Y.1 = n9) (hn : n9 < 97) (hK : pn_K n9 = ci) {NN : Nat} (hNN : pn_N ci = NN) (hd : decode M.2.1 pc = .ok (.new idx, 3)) (hc : cells + 1 ≤ R.cells) (hs : slots + NN ≤ R.slots)
    (kk : ∀ (H1 : Heap), pk_H Γ (pk_add Y) H1 → va_S (pn_A Γ) s.heap H1 locs → pk_N Γ (pk_add Y) s (cells + 1) → W p l e R s m args below meth c H1 locs (cells + 1) (slots + NN) Q (F0 m (pc + 3) ls (.ref (pn_b Γ + n9) :: rest))) : W p l e R s m args below meth c H locs cells slots Q (F0 m pc ls rest) := by
  subst hn9
  subst hNN
  exact pk_new A hH hS hN9 hN hn hK hd hc hs kk
theorem pk_newaN {at9 : ArrayType} {n : Int32} {N kd : Nat} (A : pk_A9 Γ M p s m args meth c) (hH : pk_H Γ Y H) (hS : va_S (pn_A Γ) s.heap H locs) (hN9 : pk_N Γ Y s cells) (hn9 : Y.1 = n9) (hK : pn_K n9 = kd) (hL : pn_L n9 = N) (harr : Cond.arrayClass (newarray.typeOf at9) ∈ pn_T)
    (hkd : (kd = 12 ∧ at9 = .int) ∨ (kd = 11 ∧ at9 = .byte) ∨ (kd = 14 ∧ at9 = .long)) (h0 : ¬ n < 0) (hN : n.toNatClampNeg = N) (hbig : N ≤ 4000) (hd : decode M.2.1 pc = .ok (.newarray at9, 2)) (hc : cells + 1 ≤ R.cells) (hs : slots + N ≤ R.slots)
    (kk : ∀ (H1 : Heap), pk_H Γ (pk_add Y) H1 → va_S (pn_A Γ) s.heap H1 locs → pk_N Γ (pk_add Y) s (cells + 1) → W p l e R s m args below meth c H1 locs (cells + 1) (slots + N) Q (F0 m (pc + 2) ls (.ref (pn_b Γ + n9) :: rest))) : W p l e R s m args below meth c H locs cells slots Q (F0 m pc ls (.int n :: rest)) := by
  subst hn9
  exact pk_newa A hH hS hN9 hK hL harr hkd h0 hN hbig hd hc hs kk
theorem pk_anewN {idx : Nat} (A : pk_A9 Γ M p s m args meth c) (hH : pk_H Γ Y H) (hS : va_S (pn_A Γ) s.heap H locs) (hN9 : pk_N Γ Y s cells) (hn9 : Y.1 = n9) (hK : pn_K n9 = 13) (hL : pn_L n9 = 12) (hcl : Cond.classLink M.1.cls idx "PanNights$Village" ∈ pn_T) (hd : decode M.2.1 pc = .ok (.anewarray idx, 3)) (hc : cells + 1 ≤ R.cells) (hs : slots + 12 ≤ R.slots)
    (kk : ∀ (H1 : Heap), pk_H Γ (pk_add Y) H1 → va_S (pn_A Γ) s.heap H1 locs → pk_N Γ (pk_add Y) s (cells + 1) → W p l e R s m args below meth c H1 locs (cells + 1) (slots + 12) Q (F0 m (pc + 3) ls (.ref (pn_b Γ + n9) :: rest))) : W p l e R s m args below meth c H locs cells slots Q (F0 m pc ls (.int 12 :: rest)) := by
  subst hn9
  exact pk_anew A hH hS hN9 hK hL hcl hd hc hs kk
theorem pk_putiN {idx i ci k : Nat} {v : Int32} (A : pk_A9 Γ M p s m args meth c) (hin : M.1.name = "<init>") (hH : pk_H Γ Y H) (hS : va_S (pn_A Γ) s.heap H locs) (hF : pk_FW M.1.cls idx ci k (.int v)) (hn9 : Y.1 = n9) (hi : i < n9) (hK : pn_K i = ci) (hR : pn_R i k = none) (hd : decode M.2.1 pc = .ok (.putfield idx, 3))
    (kk : ∀ (H1 : Heap) (locs1 : List Loc), pk_H Γ (pk_int Y i k v) H1 → va_S (pn_A Γ) s.heap H1 locs1 → W p l e R s m args below meth c H1 locs1 cells slots Q (F0 m (pc + 3) ls rest)) : W p l e R s m args below meth c H locs cells slots Q (F0 m pc ls (.int v :: .ref (pn_b Γ + i) :: rest)) := by
  subst hn9
  exact pk_puti A hin hH hS hF hi hK hR hd kk
theorem pk_putrN {idx i ci k t : Nat} (A : pk_A9 Γ M p s m args meth c) (hin : M.1.name = "<init>") (hH : pk_H Γ Y H) (hS : va_S (pn_A Γ) s.heap H locs) (hF : pk_FW M.1.cls idx ci k (.ref (pn_b Γ + t))) (hn9 : Y.1 = n9) (hi : i < n9) (hK : pn_K i = ci) (hR : pn_R i k = some t) (hd : decode M.2.1 pc = .ok (.putfield idx, 3))
    (kk : ∀ (H1 : Heap) (locs1 : List Loc), pk_H Γ (pk_ref Y i k) H1 → va_S (pn_A Γ) s.heap H1 locs1 → W p l e R s m args below meth c H1 locs1 cells slots Q (F0 m (pc + 3) ls rest)) : W p l e R s m args below meth c H locs cells slots Q (F0 m pc ls (.ref (pn_b Γ + t) :: .ref (pn_b Γ + i) :: rest)) := by
  subst hn9
  exact pk_putr A hin hH hS hF hi hK hR hd kk
theorem pk_getrN {idx i ci k t : Nat} (A : pk_A9 Γ M p s m args meth c) (hH : pk_H Γ Y H) (hF : pk_FW M.1.cls idx ci k (.int 0) ∨ pk_FW M.1.cls idx ci k (.ref 0)) (hn9 : Y.1 = n9) (hi : i < n9) (hK : pn_K i = ci) (hR : pn_R i k = some t) (hset : Y.2.1 i k = true) (hd : decode M.2.1 pc = .ok (.getfield idx, 3))
    (kk : W p l e R s m args below meth c H locs cells slots Q (F0 m (pc + 3) ls (.ref (pn_b Γ + t) :: rest))) : W p l e R s m args below meth c H locs cells slots Q (F0 m pc ls (.ref (pn_b Γ + i) :: rest)) := by
  subst hn9
  exact pk_getr A hH hF hi hK hR hset hd kk
theorem pk_iastN {i n k : Nat} {x v : Int32} (A : pk_A9 Γ M p s m args meth c) (hH : pk_H Γ Y H) (hS : va_S (pn_A Γ) s.heap H locs) (hn9 : Y.1 = n9) (hi : i < n9) (hK : pn_K i = 12) (hL : pn_L i = n) (hib : pn_ib x n = true) (hk : x.toNatClampNeg = k) (hd : decode M.2.1 pc = .ok (.iastore, 1))
    (kk : ∀ (H1 : Heap) (locs1 : List Loc), pk_H Γ (pk_int Y i k v) H1 → va_S (pn_A Γ) s.heap H1 locs1 → W p l e R s m args below meth c H1 locs1 cells slots Q (F0 m (pc + 1) ls rest)) : W p l e R s m args below meth c H locs cells slots Q (F0 m pc ls (.int v :: .int x :: .ref (pn_b Γ + i) :: rest)) := by
  subst hn9
  exact pk_iast A hH hS hi hK hL hib hk hd kk
theorem pk_aastN {i v j : Nat} {x : Int32} (A : pk_A9 Γ M p s m args meth c) (hH : pk_H Γ Y H) (hS : va_S (pn_A Γ) s.heap H locs) (hn9 : Y.1 = n9) (hi : i < n9) (hK : pn_K i = 13) (hL : pn_L i = 12) (hib : pn_ib x 12 = true) (hx : x.toNatClampNeg = j) (hv : v < n9) (hKv : pn_K v = 7) (hvj : v = 43 + 3 * j) (hd : decode M.2.1 pc = .ok (.aastore, 1))
    (kk : ∀ (H1 : Heap) (locs1 : List Loc), pk_H Γ (pk_ref Y i j) H1 → va_S (pn_A Γ) s.heap H1 locs1 → W p l e R s m args below meth c H1 locs1 cells slots Q (F0 m (pc + 1) ls rest)) : W p l e R s m args below meth c H locs cells slots Q (F0 m pc ls (.ref (pn_b Γ + v) :: .int x :: .ref (pn_b Γ + i) :: rest)) := by
  subst hn9
  exact pk_aast A hH hS hi hK hL hib hx hv hKv hvj hd kk
end PKN
abbrev mX8_init : pn_M := (yX8_init, cX8_init, 1, none, [])
abbrev mX2_init : pn_M := (yX2_init, cX2_init, 1, none, [])
abbrev mX7_init : pn_M := (yX7_init, cX7_init, 1, none, [])
abbrev mX4_init : pn_M := (yX4_init, cX4_init, 2, none, [])
abbrev mX9_init : pn_M := (yX9_init, cX9_init, 3, none, [])
abbrev mX3_init : pn_M := (yX3_init, cX3_init, 3, none, [])
abbrev mX0_init : pn_M := (yX0_init, cX0_init, 1, none, [])
abbrev mX5_init : pn_M := (yX5_init, cX5_init, 2, none, [])
abbrev mX6_init : pn_M := (yX6_init, cX6_init, 1, none, [])
abbrev mX1_init : pn_M := (yX1_init, cX1_init, 1, none, [])
abbrev mX10_init : pn_M := (yX10_init, cX10_init, 1, none, [])
abbrev mX11_init : pn_M := (yX11_init, cX11_init, 1, none, [])
theorem ac_12 : Cond.arrayClass (newarray.typeOf .int) ∈ pn_T := (pn_mt 72 (by decide +kernel) (by decide +kernel))
theorem ac_11 : Cond.arrayClass (newarray.typeOf .byte) ∈ pn_T := (pn_mt 860 (by decide +kernel) (by decide +kernel))
theorem ac_14 : Cond.arrayClass (newarray.typeOf .long) ∈ pn_T := (pn_mt 1890 (by decide +kernel) (by decide +kernel))
theorem oj_X8 : Cond.methodLink RX8 3 Lib.objectInit ∈ pn_T ∧ Cond.instanceMethod Lib.objectInit ∈ pn_T ∧ Cond.code Lib.objectInit ⟨#[0xb1]⟩ 1 none ∈ pn_T := ⟨(pn_mt 78 (by decide +kernel) (by decide +kernel)), (pn_mt 35 (by decide +kernel) (by decide +kernel)), (pn_mt 36 (by decide +kernel) (by decide +kernel))⟩
theorem fw_X8_9_7 (b : Nat) : pk_FW RX8 9 7 0 (.ref b) := ⟨RX8, TX8, tyX8, 15, rfl, by decide, rfl, by decide, qi_7, tyX8_ok, nmX8, (pn_mt 79 (by decide +kernel) (by decide +kernel)), by decide, tyX8 0, by decide, rfl, rfl⟩
theorem fw_X8_15_7 (b : Nat) : pk_FW RX8 15 7 1 (.ref b) := ⟨RX8, TX8, tyX8, 15, rfl, by decide, rfl, by decide, qi_7, tyX8_ok, nmX8, (pn_mt 80 (by decide +kernel) (by decide +kernel)), by decide, tyX8 1, by decide, rfl, rfl⟩
theorem fw_X8_18_7 (v : Int32) : pk_FW RX8 18 7 2 (.int v) := ⟨RX8, TX8, tyX8, 15, rfl, by decide, rfl, by decide, qi_7, tyX8_ok, nmX8, (pn_mt 81 (by decide +kernel) (by decide +kernel)), by decide, tyX8 2, by decide, rfl, rfl⟩
theorem fw_X8_22_7 (v : Int32) : pk_FW RX8 22 7 3 (.int v) := ⟨RX8, TX8, tyX8, 15, rfl, by decide, rfl, by decide, qi_7, tyX8_ok, nmX8, (pn_mt 85 (by decide +kernel) (by decide +kernel)), by decide, tyX8 3, by decide, rfl, rfl⟩
theorem fw_X8_25_7 (v : Int32) : pk_FW RX8 25 7 4 (.int v) := ⟨RX8, TX8, tyX8, 15, rfl, by decide, rfl, by decide, qi_7, tyX8_ok, nmX8, (pn_mt 87 (by decide +kernel) (by decide +kernel)), by decide, tyX8 4, by decide, rfl, rfl⟩
theorem fw_X8_28_7 (v : Int32) : pk_FW RX8 28 7 5 (.int v) := ⟨RX8, TX8, tyX8, 15, rfl, by decide, rfl, by decide, qi_7, tyX8_ok, nmX8, (pn_mt 90 (by decide +kernel) (by decide +kernel)), by decide, tyX8 5, by decide, rfl, rfl⟩
theorem fw_X8_31_7 (v : Int32) : pk_FW RX8 31 7 6 (.int v) := ⟨RX8, TX8, tyX8, 15, rfl, by decide, rfl, by decide, qi_7, tyX8_ok, nmX8, (pn_mt 93 (by decide +kernel) (by decide +kernel)), by decide, tyX8 6, by decide, rfl, rfl⟩
theorem fw_X8_34_7 : pk_FW RX8 34 7 7 (.int 0) := ⟨RX8, TX8, tyX8, 15, rfl, by decide, rfl, by decide, qi_7, tyX8_ok, nmX8, (pn_mt 97 (by decide +kernel) (by decide +kernel)), by decide, tyX8 7, by decide, rfl, rfl⟩
theorem fw_X8_38_7 (v : Int32) : pk_FW RX8 38 7 8 (.int v) := ⟨RX8, TX8, tyX8, 15, rfl, by decide, rfl, by decide, qi_7, tyX8_ok, nmX8, (pn_mt 100 (by decide +kernel) (by decide +kernel)), by decide, tyX8 8, by decide, rfl, rfl⟩
theorem fw_X8_41_7 (v : Int32) : pk_FW RX8 41 7 9 (.int v) := ⟨RX8, TX8, tyX8, 15, rfl, by decide, rfl, by decide, qi_7, tyX8_ok, nmX8, (pn_mt 103 (by decide +kernel) (by decide +kernel)), by decide, tyX8 9, by decide, rfl, rfl⟩
theorem fw_X8_44_7 (v : Int32) : pk_FW RX8 44 7 10 (.int v) := ⟨RX8, TX8, tyX8, 15, rfl, by decide, rfl, by decide, qi_7, tyX8_ok, nmX8, (pn_mt 106 (by decide +kernel) (by decide +kernel)), by decide, tyX8 10, by decide, rfl, rfl⟩
theorem fw_X8_47_7 (v : Int32) : pk_FW RX8 47 7 11 (.int v) := ⟨RX8, TX8, tyX8, 15, rfl, by decide, rfl, by decide, qi_7, tyX8_ok, nmX8, (pn_mt 109 (by decide +kernel) (by decide +kernel)), by decide, tyX8 11, by decide, rfl, rfl⟩
theorem fw_X8_50_7 (v : Int32) : pk_FW RX8 50 7 12 (.int v) := ⟨RX8, TX8, tyX8, 15, rfl, by decide, rfl, by decide, qi_7, tyX8_ok, nmX8, (pn_mt 112 (by decide +kernel) (by decide +kernel)), by decide, tyX8 12, by decide, rfl, rfl⟩
theorem fw_X8_53_7 (v : Int32) : pk_FW RX8 53 7 13 (.int v) := ⟨RX8, TX8, tyX8, 15, rfl, by decide, rfl, by decide, qi_7, tyX8_ok, nmX8, (pn_mt 114 (by decide +kernel) (by decide +kernel)), by decide, tyX8 13, by decide, rfl, rfl⟩
theorem fw_X8_56_7 (v : Int32) : pk_FW RX8 56 7 14 (.int v) := ⟨RX8, TX8, tyX8, 15, rfl, by decide, rfl, by decide, qi_7, tyX8_ok, nmX8, (pn_mt 116 (by decide +kernel) (by decide +kernel)), by decide, tyX8 14, by decide, rfl, rfl⟩
theorem oj_X2 : Cond.methodLink RX2 3 Lib.objectInit ∈ pn_T ∧ Cond.instanceMethod Lib.objectInit ∈ pn_T ∧ Cond.code Lib.objectInit ⟨#[0xb1]⟩ 1 none ∈ pn_T := ⟨(pn_mt 153 (by decide +kernel) (by decide +kernel)), (pn_mt 35 (by decide +kernel) (by decide +kernel)), (pn_mt 36 (by decide +kernel) (by decide +kernel))⟩
theorem fw_X2_9_2 (b : Nat) : pk_FW RX2 9 2 0 (.ref b) := ⟨RX2, TX2, tyX2, 11, rfl, by decide, rfl, by decide, qi_2, tyX2_ok, nmX2, (pn_mt 154 (by decide +kernel) (by decide +kernel)), by decide, tyX2 0, by decide, rfl, rfl⟩
theorem fw_X2_15_2 (b : Nat) : pk_FW RX2 15 2 1 (.ref b) := ⟨RX2, TX2, tyX2, 11, rfl, by decide, rfl, by decide, qi_2, tyX2_ok, nmX2, (pn_mt 155 (by decide +kernel) (by decide +kernel)), by decide, tyX2 1, by decide, rfl, rfl⟩
theorem fw_X2_18_2 (b : Nat) : pk_FW RX2 18 2 2 (.ref b) := ⟨RX2, TX2, tyX2, 11, rfl, by decide, rfl, by decide, qi_2, tyX2_ok, nmX2, (pn_mt 156 (by decide +kernel) (by decide +kernel)), by decide, tyX2 2, by decide, rfl, rfl⟩
theorem fw_X2_21_2 (b : Nat) : pk_FW RX2 21 2 3 (.ref b) := ⟨RX2, TX2, tyX2, 11, rfl, by decide, rfl, by decide, qi_2, tyX2_ok, nmX2, (pn_mt 157 (by decide +kernel) (by decide +kernel)), by decide, tyX2 3, by decide, rfl, rfl⟩
theorem fw_X2_24_2 (b : Nat) : pk_FW RX2 24 2 4 (.ref b) := ⟨RX2, TX2, tyX2, 11, rfl, by decide, rfl, by decide, qi_2, tyX2_ok, nmX2, (pn_mt 158 (by decide +kernel) (by decide +kernel)), by decide, tyX2 4, by decide, rfl, rfl⟩
theorem fw_X2_27_2 (b : Nat) : pk_FW RX2 27 2 5 (.ref b) := ⟨RX2, TX2, tyX2, 11, rfl, by decide, rfl, by decide, qi_2, tyX2_ok, nmX2, (pn_mt 159 (by decide +kernel) (by decide +kernel)), by decide, tyX2 5, by decide, rfl, rfl⟩
theorem fw_X2_30_2 (v : Int32) : pk_FW RX2 30 2 6 (.int v) := ⟨RX2, TX2, tyX2, 11, rfl, by decide, rfl, by decide, qi_2, tyX2_ok, nmX2, (pn_mt 160 (by decide +kernel) (by decide +kernel)), by decide, tyX2 6, by decide, rfl, rfl⟩
theorem fw_X2_34_2 (v : Int32) : pk_FW RX2 34 2 7 (.int v) := ⟨RX2, TX2, tyX2, 11, rfl, by decide, rfl, by decide, qi_2, tyX2_ok, nmX2, (pn_mt 162 (by decide +kernel) (by decide +kernel)), by decide, tyX2 7, by decide, rfl, rfl⟩
theorem fw_X2_37_2 (v : Int32) : pk_FW RX2 37 2 8 (.int v) := ⟨RX2, TX2, tyX2, 11, rfl, by decide, rfl, by decide, qi_2, tyX2_ok, nmX2, (pn_mt 163 (by decide +kernel) (by decide +kernel)), by decide, tyX2 8, by decide, rfl, rfl⟩
theorem fw_X2_40_2 (v : Int32) : pk_FW RX2 40 2 9 (.int v) := ⟨RX2, TX2, tyX2, 11, rfl, by decide, rfl, by decide, qi_2, tyX2_ok, nmX2, (pn_mt 164 (by decide +kernel) (by decide +kernel)), by decide, tyX2 9, by decide, rfl, rfl⟩
theorem fw_X2_43_2 (v : Int32) : pk_FW RX2 43 2 10 (.int v) := ⟨RX2, TX2, tyX2, 11, rfl, by decide, rfl, by decide, qi_2, tyX2_ok, nmX2, (pn_mt 167 (by decide +kernel) (by decide +kernel)), by decide, tyX2 10, by decide, rfl, rfl⟩
theorem oj_X7 : Cond.methodLink RX7 3 Lib.objectInit ∈ pn_T ∧ Cond.instanceMethod Lib.objectInit ∈ pn_T ∧ Cond.code Lib.objectInit ⟨#[0xb1]⟩ 1 none ∈ pn_T := ⟨(pn_mt 42 (by decide +kernel) (by decide +kernel)), (pn_mt 35 (by decide +kernel) (by decide +kernel)), (pn_mt 36 (by decide +kernel) (by decide +kernel))⟩
theorem fw_X7_9_6 (b : Nat) : pk_FW RX7 9 6 0 (.ref b) := ⟨RX7, TX7, tyX7, 8, rfl, by decide, rfl, by decide, qi_6, tyX7_ok, nmX7, (pn_mt 43 (by decide +kernel) (by decide +kernel)), by decide, tyX7 0, by decide, rfl, rfl⟩
theorem fw_X7_15_6 (b : Nat) : pk_FW RX7 15 6 1 (.ref b) := ⟨RX7, TX7, tyX7, 8, rfl, by decide, rfl, by decide, qi_6, tyX7_ok, nmX7, (pn_mt 44 (by decide +kernel) (by decide +kernel)), by decide, tyX7 1, by decide, rfl, rfl⟩
theorem fw_X7_18_6 (b : Nat) : pk_FW RX7 18 6 2 (.ref b) := ⟨RX7, TX7, tyX7, 8, rfl, by decide, rfl, by decide, qi_6, tyX7_ok, nmX7, (pn_mt 45 (by decide +kernel) (by decide +kernel)), by decide, tyX7 2, by decide, rfl, rfl⟩
theorem fw_X7_21_6 (v : Int32) : pk_FW RX7 21 6 3 (.int v) := ⟨RX7, TX7, tyX7, 8, rfl, by decide, rfl, by decide, qi_6, tyX7_ok, nmX7, (pn_mt 46 (by decide +kernel) (by decide +kernel)), by decide, tyX7 3, by decide, rfl, rfl⟩
theorem fw_X7_25_6 (v : Int32) : pk_FW RX7 25 6 4 (.int v) := ⟨RX7, TX7, tyX7, 8, rfl, by decide, rfl, by decide, qi_6, tyX7_ok, nmX7, (pn_mt 48 (by decide +kernel) (by decide +kernel)), by decide, tyX7 4, by decide, rfl, rfl⟩
theorem fw_X7_28_6 (v : Int32) : pk_FW RX7 28 6 5 (.int v) := ⟨RX7, TX7, tyX7, 8, rfl, by decide, rfl, by decide, qi_6, tyX7_ok, nmX7, (pn_mt 50 (by decide +kernel) (by decide +kernel)), by decide, tyX7 5, by decide, rfl, rfl⟩
theorem fw_X7_31_6 (v : Int32) : pk_FW RX7 31 6 6 (.int v) := ⟨RX7, TX7, tyX7, 8, rfl, by decide, rfl, by decide, qi_6, tyX7_ok, nmX7, (pn_mt 51 (by decide +kernel) (by decide +kernel)), by decide, tyX7 6, by decide, rfl, rfl⟩
theorem fw_X7_34_6 (v : Int32) : pk_FW RX7 34 6 7 (.int v) := ⟨RX7, TX7, tyX7, 8, rfl, by decide, rfl, by decide, qi_6, tyX7_ok, nmX7, (pn_mt 52 (by decide +kernel) (by decide +kernel)), by decide, tyX7 7, by decide, rfl, rfl⟩
theorem oj_X4 : Cond.methodLink RX4 3 Lib.objectInit ∈ pn_T ∧ Cond.instanceMethod Lib.objectInit ∈ pn_T ∧ Cond.code Lib.objectInit ⟨#[0xb1]⟩ 1 none ∈ pn_T := ⟨(pn_mt 201 (by decide +kernel) (by decide +kernel)), (pn_mt 35 (by decide +kernel) (by decide +kernel)), (pn_mt 36 (by decide +kernel) (by decide +kernel))⟩
theorem li_X9_3 : pk_LI RX9 3 mX4_init 1 := ⟨Or.inl (pn_mt 198 (by decide +kernel) (by decide +kernel)), (pn_mt 199 (by decide +kernel) (by decide +kernel)), (pn_mt 5 (by decide +kernel) (by decide +kernel)), (pn_mt 200 (by decide +kernel) (by decide +kernel)), rfl, rfl, ⟨by decide, by decide⟩, by decide, by decide⟩
theorem fw_X4_9_8 (b : Nat) : pk_FW RX4 9 8 0 (.ref b) := ⟨RX9, TX9, tyX9, 2, rfl, by decide, rfl, by decide, qi_8, tyX9_ok, nmX9, (pn_mt 203 (by decide +kernel) (by decide +kernel)), by decide, tyX9 0, by decide, rfl, rfl⟩
theorem fw_X9_9_8 (b : Nat) : pk_FW RX9 9 8 1 (.ref b) := ⟨RX9, TX9, tyX9, 2, rfl, by decide, rfl, by decide, qi_8, tyX9_ok, nmX9, (pn_mt 202 (by decide +kernel) (by decide +kernel)), by decide, tyX9 1, by decide, rfl, rfl⟩
theorem li_X3_3 : pk_LI RX3 3 mX4_init 1 := ⟨Or.inl (pn_mt 218 (by decide +kernel) (by decide +kernel)), (pn_mt 199 (by decide +kernel) (by decide +kernel)), (pn_mt 5 (by decide +kernel) (by decide +kernel)), (pn_mt 200 (by decide +kernel) (by decide +kernel)), rfl, rfl, ⟨by decide, by decide⟩, by decide, by decide⟩
theorem fw_X4_9_3 (b : Nat) : pk_FW RX4 9 3 0 (.ref b) := ⟨RX3, TX3, tyX3, 2, rfl, by decide, rfl, by decide, qi_3, tyX3_ok, nmX3, (pn_mt 203 (by decide +kernel) (by decide +kernel)), by decide, tyX3 0, by decide, rfl, rfl⟩
theorem fw_X3_9_3 (b : Nat) : pk_FW RX3 9 3 1 (.ref b) := ⟨RX3, TX3, tyX3, 2, rfl, by decide, rfl, by decide, qi_3, tyX3_ok, nmX3, (pn_mt 219 (by decide +kernel) (by decide +kernel)), by decide, tyX3 1, by decide, rfl, rfl⟩
theorem oj_X0 : Cond.methodLink RX0 3 Lib.objectInit ∈ pn_T ∧ Cond.instanceMethod Lib.objectInit ∈ pn_T ∧ Cond.code Lib.objectInit ⟨#[0xb1]⟩ 1 none ∈ pn_T := ⟨(pn_mt 229 (by decide +kernel) (by decide +kernel)), (pn_mt 35 (by decide +kernel) (by decide +kernel)), (pn_mt 36 (by decide +kernel) (by decide +kernel))⟩
theorem fw_X0_9_0 (b : Nat) : pk_FW RX0 9 0 0 (.ref b) := ⟨RX0, TX0, tyX0, 8, rfl, by decide, rfl, by decide, qi_0, tyX0_ok, nmX0, (pn_mt 230 (by decide +kernel) (by decide +kernel)), by decide, tyX0 0, by decide, rfl, rfl⟩
theorem fw_X0_15_0 (b : Nat) : pk_FW RX0 15 0 1 (.ref b) := ⟨RX0, TX0, tyX0, 8, rfl, by decide, rfl, by decide, qi_0, tyX0_ok, nmX0, (pn_mt 231 (by decide +kernel) (by decide +kernel)), by decide, tyX0 1, by decide, rfl, rfl⟩
theorem fw_X0_18_0 (b : Nat) : pk_FW RX0 18 0 2 (.ref b) := ⟨RX0, TX0, tyX0, 8, rfl, by decide, rfl, by decide, qi_0, tyX0_ok, nmX0, (pn_mt 232 (by decide +kernel) (by decide +kernel)), by decide, tyX0 2, by decide, rfl, rfl⟩
theorem fw_X0_21_0 (v : Int32) : pk_FW RX0 21 0 3 (.int v) := ⟨RX0, TX0, tyX0, 8, rfl, by decide, rfl, by decide, qi_0, tyX0_ok, nmX0, (pn_mt 233 (by decide +kernel) (by decide +kernel)), by decide, tyX0 3, by decide, rfl, rfl⟩
theorem fw_X0_25_0 (v : Int32) : pk_FW RX0 25 0 4 (.int v) := ⟨RX0, TX0, tyX0, 8, rfl, by decide, rfl, by decide, qi_0, tyX0_ok, nmX0, (pn_mt 235 (by decide +kernel) (by decide +kernel)), by decide, tyX0 4, by decide, rfl, rfl⟩
theorem fw_X0_28_0 (v : Int32) : pk_FW RX0 28 0 5 (.int v) := ⟨RX0, TX0, tyX0, 8, rfl, by decide, rfl, by decide, qi_0, tyX0_ok, nmX0, (pn_mt 237 (by decide +kernel) (by decide +kernel)), by decide, tyX0 5, by decide, rfl, rfl⟩
theorem fw_X0_31_0 (v : Int32) : pk_FW RX0 31 0 6 (.int v) := ⟨RX0, TX0, tyX0, 8, rfl, by decide, rfl, by decide, qi_0, tyX0_ok, nmX0, (pn_mt 239 (by decide +kernel) (by decide +kernel)), by decide, tyX0 6, by decide, rfl, rfl⟩
theorem fw_X0_34_0 (v : Int32) : pk_FW RX0 34 0 7 (.int v) := ⟨RX0, TX0, tyX0, 8, rfl, by decide, rfl, by decide, qi_0, tyX0_ok, nmX0, (pn_mt 241 (by decide +kernel) (by decide +kernel)), by decide, tyX0 7, by decide, rfl, rfl⟩
theorem oj_X5 : Cond.methodLink RX5 3 Lib.objectInit ∈ pn_T ∧ Cond.instanceMethod Lib.objectInit ∈ pn_T ∧ Cond.code Lib.objectInit ⟨#[0xb1]⟩ 1 none ∈ pn_T := ⟨(pn_mt 265 (by decide +kernel) (by decide +kernel)), (pn_mt 35 (by decide +kernel) (by decide +kernel)), (pn_mt 36 (by decide +kernel) (by decide +kernel))⟩
theorem av_X5 : Cond.classLink RX5 9 "PanNights$Village" ∈ pn_T := (pn_mt 266 (by decide +kernel) (by decide +kernel))
theorem fw_X5_11_4 (b : Nat) : pk_FW RX5 11 4 0 (.ref b) := ⟨RX5, TX5, tyX5, 3, rfl, by decide, rfl, by decide, qi_4, tyX5_ok, nmX5, (pn_mt 269 (by decide +kernel) (by decide +kernel)), by decide, tyX5 0, by decide, rfl, rfl⟩
theorem fw_X5_17_4 (v : Int32) : pk_FW RX5 17 4 1 (.int v) := ⟨RX5, TX5, tyX5, 3, rfl, by decide, rfl, by decide, qi_4, tyX5_ok, nmX5, (pn_mt 270 (by decide +kernel) (by decide +kernel)), by decide, tyX5 1, by decide, rfl, rfl⟩
theorem fw_X5_21_4 (v : Int32) : pk_FW RX5 21 4 2 (.int v) := ⟨RX5, TX5, tyX5, 3, rfl, by decide, rfl, by decide, qi_4, tyX5_ok, nmX5, (pn_mt 272 (by decide +kernel) (by decide +kernel)), by decide, tyX5 2, by decide, rfl, rfl⟩
theorem nw_X5_9 : pk_NW RX5 9 7 := ⟨RX8, TX8, tyX8, 15, rfl, rfl, by decide, qi_7, tyX8_ok, (pn_mt 266 (by decide +kernel) (by decide +kernel)), (pn_mt 74 (by decide +kernel) (by decide +kernel)), (pn_mt 3 (by decide +kernel) (by decide +kernel)), pk_dvs (by decide +kernel : ∀ i, i < 97 → pn_K i = 7 → ∀ k, k < 15 → pk_dv (defaultValue (tyX8 k)) = if (pn_R i k).isSome then 0 else 1)⟩
theorem li_X5_24 : pk_LI RX5 24 mX8_init 0 := ⟨Or.inr ⟨"PanNights", (pn_mt 268 (by decide +kernel) (by decide +kernel))⟩, (pn_mt 76 (by decide +kernel) (by decide +kernel)), (pn_mt 3 (by decide +kernel) (by decide +kernel)), (pn_mt 77 (by decide +kernel) (by decide +kernel)), rfl, rfl, ⟨by decide, by decide⟩, by decide, by decide⟩
theorem qv_43 : pn_isV 43 := ⟨⟨by decide, by decide⟩, ⟨by decide, by decide, by decide⟩, ⟨by decide, by decide, by decide⟩⟩
theorem qv_46 : pn_isV 46 := ⟨⟨by decide, by decide⟩, ⟨by decide, by decide, by decide⟩, ⟨by decide, by decide, by decide⟩⟩
theorem qv_49 : pn_isV 49 := ⟨⟨by decide, by decide⟩, ⟨by decide, by decide, by decide⟩, ⟨by decide, by decide, by decide⟩⟩
theorem qv_52 : pn_isV 52 := ⟨⟨by decide, by decide⟩, ⟨by decide, by decide, by decide⟩, ⟨by decide, by decide, by decide⟩⟩
theorem qv_55 : pn_isV 55 := ⟨⟨by decide, by decide⟩, ⟨by decide, by decide, by decide⟩, ⟨by decide, by decide, by decide⟩⟩
theorem qv_58 : pn_isV 58 := ⟨⟨by decide, by decide⟩, ⟨by decide, by decide, by decide⟩, ⟨by decide, by decide, by decide⟩⟩
theorem qv_61 : pn_isV 61 := ⟨⟨by decide, by decide⟩, ⟨by decide, by decide, by decide⟩, ⟨by decide, by decide, by decide⟩⟩
theorem qv_64 : pn_isV 64 := ⟨⟨by decide, by decide⟩, ⟨by decide, by decide, by decide⟩, ⟨by decide, by decide, by decide⟩⟩
theorem qv_67 : pn_isV 67 := ⟨⟨by decide, by decide⟩, ⟨by decide, by decide, by decide⟩, ⟨by decide, by decide, by decide⟩⟩
theorem qv_70 : pn_isV 70 := ⟨⟨by decide, by decide⟩, ⟨by decide, by decide, by decide⟩, ⟨by decide, by decide, by decide⟩⟩
theorem qv_73 : pn_isV 73 := ⟨⟨by decide, by decide⟩, ⟨by decide, by decide, by decide⟩, ⟨by decide, by decide, by decide⟩⟩
theorem qv_76 : pn_isV 76 := ⟨⟨by decide, by decide⟩, ⟨by decide, by decide, by decide⟩, ⟨by decide, by decide, by decide⟩⟩
theorem oj_X6 : Cond.methodLink RX6 3 Lib.objectInit ∈ pn_T ∧ Cond.instanceMethod Lib.objectInit ∈ pn_T ∧ Cond.code Lib.objectInit ⟨#[0xb1]⟩ 1 none ∈ pn_T := ⟨(pn_mt 285 (by decide +kernel) (by decide +kernel)), (pn_mt 35 (by decide +kernel) (by decide +kernel)), (pn_mt 36 (by decide +kernel) (by decide +kernel))⟩
theorem fw_X6_9_5 (b : Nat) : pk_FW RX6 9 5 0 (.ref b) := ⟨RX6, TX6, tyX6, 3, rfl, by decide, rfl, by decide, qi_5, tyX6_ok, nmX6, (pn_mt 286 (by decide +kernel) (by decide +kernel)), by decide, tyX6 0, by decide, rfl, rfl⟩
theorem fw_X6_15_5 (v : Int32) : pk_FW RX6 15 5 1 (.int v) := ⟨RX6, TX6, tyX6, 3, rfl, by decide, rfl, by decide, qi_5, tyX6_ok, nmX6, (pn_mt 287 (by decide +kernel) (by decide +kernel)), by decide, tyX6 1, by decide, rfl, rfl⟩
theorem fw_X6_19_5 (v : Int32) : pk_FW RX6 19 5 2 (.int v) := ⟨RX6, TX6, tyX6, 3, rfl, by decide, rfl, by decide, qi_5, tyX6_ok, nmX6, (pn_mt 289 (by decide +kernel) (by decide +kernel)), by decide, tyX6 2, by decide, rfl, rfl⟩
theorem oj_X1 : Cond.methodLink RX1 3 Lib.objectInit ∈ pn_T ∧ Cond.instanceMethod Lib.objectInit ∈ pn_T ∧ Cond.code Lib.objectInit ⟨#[0xb1]⟩ 1 none ∈ pn_T := ⟨(pn_mt 303 (by decide +kernel) (by decide +kernel)), (pn_mt 35 (by decide +kernel) (by decide +kernel)), (pn_mt 36 (by decide +kernel) (by decide +kernel))⟩
theorem fw_X1_9_1 (b : Nat) : pk_FW RX1 9 1 0 (.ref b) := ⟨RX1, TX1, tyX1, 2, rfl, by decide, rfl, by decide, qi_1, tyX1_ok, nmX1, (pn_mt 304 (by decide +kernel) (by decide +kernel)), by decide, tyX1 0, by decide, rfl, rfl⟩
theorem fw_X1_15_1 (b : Nat) : pk_FW RX1 15 1 1 (.ref b) := ⟨RX1, TX1, tyX1, 2, rfl, by decide, rfl, by decide, qi_1, tyX1_ok, nmX1, (pn_mt 305 (by decide +kernel) (by decide +kernel)), by decide, tyX1 1, by decide, rfl, rfl⟩
theorem oj_X10 : Cond.methodLink RX10 3 Lib.objectInit ∈ pn_T ∧ Cond.instanceMethod Lib.objectInit ∈ pn_T ∧ Cond.code Lib.objectInit ⟨#[0xb1]⟩ 1 none ∈ pn_T := ⟨(pn_mt 34 (by decide +kernel) (by decide +kernel)), (pn_mt 35 (by decide +kernel) (by decide +kernel)), (pn_mt 36 (by decide +kernel) (by decide +kernel))⟩
theorem nw_X10_9 : pk_NW RX10 9 6 := ⟨RX7, TX7, tyX7, 8, rfl, rfl, by decide, qi_6, tyX7_ok, (pn_mt 37 (by decide +kernel) (by decide +kernel)), (pn_mt 38 (by decide +kernel) (by decide +kernel)), (pn_mt 2 (by decide +kernel) (by decide +kernel)), pk_dvs (by decide +kernel : ∀ i, i < 97 → pn_K i = 6 → ∀ k, k < 8 → pk_dv (defaultValue (tyX7 k)) = if (pn_R i k).isSome then 0 else 1)⟩
theorem li_X10_11 : pk_LI RX10 11 mX7_init 0 := ⟨Or.inr ⟨"PanNights", (pn_mt 39 (by decide +kernel) (by decide +kernel))⟩, (pn_mt 40 (by decide +kernel) (by decide +kernel)), (pn_mt 2 (by decide +kernel) (by decide +kernel)), (pn_mt 41 (by decide +kernel) (by decide +kernel)), rfl, rfl, ⟨by decide, by decide⟩, by decide, by decide⟩
theorem fw_X10_12_9 (b : Nat) : pk_FW RX10 12 9 0 (.ref b) := ⟨RX10, TX10, tyX10, 16, rfl, by decide, rfl, by decide, qi_9, tyX10_ok, nmX10, (pn_mt 311 (by decide +kernel) (by decide +kernel)), by decide, tyX10 0, by decide, rfl, rfl⟩
theorem nw_X10_16 : pk_NW RX10 16 7 := ⟨RX8, TX8, tyX8, 15, rfl, rfl, by decide, qi_7, tyX8_ok, (pn_mt 73 (by decide +kernel) (by decide +kernel)), (pn_mt 74 (by decide +kernel) (by decide +kernel)), (pn_mt 3 (by decide +kernel) (by decide +kernel)), pk_dvs (by decide +kernel : ∀ i, i < 97 → pn_K i = 7 → ∀ k, k < 15 → pk_dv (defaultValue (tyX8 k)) = if (pn_R i k).isSome then 0 else 1)⟩
theorem li_X10_18 : pk_LI RX10 18 mX8_init 0 := ⟨Or.inr ⟨"PanNights", (pn_mt 75 (by decide +kernel) (by decide +kernel))⟩, (pn_mt 76 (by decide +kernel) (by decide +kernel)), (pn_mt 3 (by decide +kernel) (by decide +kernel)), (pn_mt 77 (by decide +kernel) (by decide +kernel)), rfl, rfl, ⟨by decide, by decide⟩, by decide, by decide⟩
theorem fw_X10_19_9 (b : Nat) : pk_FW RX10 19 9 1 (.ref b) := ⟨RX10, TX10, tyX10, 16, rfl, by decide, rfl, by decide, qi_9, tyX10_ok, nmX10, (pn_mt 312 (by decide +kernel) (by decide +kernel)), by decide, tyX10 1, by decide, rfl, rfl⟩
theorem fw_X10_23_9 (b : Nat) : pk_FW RX10 23 9 2 (.ref b) := ⟨RX10, TX10, tyX10, 16, rfl, by decide, rfl, by decide, qi_9, tyX10_ok, nmX10, (pn_mt 313 (by decide +kernel) (by decide +kernel)), by decide, tyX10 2, by decide, rfl, rfl⟩
theorem fw_X10_26_9 (b : Nat) : pk_FW RX10 26 9 3 (.ref b) := ⟨RX10, TX10, tyX10, 16, rfl, by decide, rfl, by decide, qi_9, tyX10_ok, nmX10, (pn_mt 314 (by decide +kernel) (by decide +kernel)), by decide, tyX10 3, by decide, rfl, rfl⟩
theorem nw_X10_29 : pk_NW RX10 29 2 := ⟨RX2, TX2, tyX2, 11, rfl, rfl, by decide, qi_2, tyX2_ok, (pn_mt 148 (by decide +kernel) (by decide +kernel)), (pn_mt 149 (by decide +kernel) (by decide +kernel)), (pn_mt 4 (by decide +kernel) (by decide +kernel)), pk_dvs (by decide +kernel : ∀ i, i < 97 → pn_K i = 2 → ∀ k, k < 11 → pk_dv (defaultValue (tyX2 k)) = if (pn_R i k).isSome then 0 else 1)⟩
theorem li_X10_31 : pk_LI RX10 31 mX2_init 0 := ⟨Or.inr ⟨"PanNights", (pn_mt 150 (by decide +kernel) (by decide +kernel))⟩, (pn_mt 151 (by decide +kernel) (by decide +kernel)), (pn_mt 4 (by decide +kernel) (by decide +kernel)), (pn_mt 152 (by decide +kernel) (by decide +kernel)), rfl, rfl, ⟨by decide, by decide⟩, by decide, by decide⟩
theorem fw_X10_32_9 (b : Nat) : pk_FW RX10 32 9 4 (.ref b) := ⟨RX10, TX10, tyX10, 16, rfl, by decide, rfl, by decide, qi_9, tyX10_ok, nmX10, (pn_mt 315 (by decide +kernel) (by decide +kernel)), by decide, tyX10 4, by decide, rfl, rfl⟩
theorem fw_X10_36_9 (b : Nat) : pk_FW RX10 36 9 5 (.ref b) := ⟨RX10, TX10, tyX10, 16, rfl, by decide, rfl, by decide, qi_9, tyX10_ok, nmX10, (pn_mt 316 (by decide +kernel) (by decide +kernel)), by decide, tyX10 5, by decide, rfl, rfl⟩
theorem fw_X10_39_9 (b : Nat) : pk_FW RX10 39 9 6 (.ref b) := ⟨RX10, TX10, tyX10, 16, rfl, by decide, rfl, by decide, qi_9, tyX10_ok, nmX10, (pn_mt 317 (by decide +kernel) (by decide +kernel)), by decide, tyX10 6, by decide, rfl, rfl⟩
theorem nw_X10_42 : pk_NW RX10 42 8 := ⟨RX9, TX9, tyX9, 2, rfl, rfl, by decide, qi_8, tyX9_ok, (pn_mt 193 (by decide +kernel) (by decide +kernel)), (pn_mt 194 (by decide +kernel) (by decide +kernel)), (pn_mt 6 (by decide +kernel) (by decide +kernel)), pk_dvs (by decide +kernel : ∀ i, i < 97 → pn_K i = 8 → ∀ k, k < 2 → pk_dv (defaultValue (tyX9 k)) = if (pn_R i k).isSome then 0 else 1)⟩
theorem li_X10_44 : pk_LI RX10 44 mX9_init 2 := ⟨Or.inl (pn_mt 195 (by decide +kernel) (by decide +kernel)), (pn_mt 196 (by decide +kernel) (by decide +kernel)), (pn_mt 6 (by decide +kernel) (by decide +kernel)), (pn_mt 197 (by decide +kernel) (by decide +kernel)), rfl, rfl, ⟨by decide, by decide⟩, by decide, by decide⟩
theorem fw_X10_47_9 (b : Nat) : pk_FW RX10 47 9 7 (.ref b) := ⟨RX10, TX10, tyX10, 16, rfl, by decide, rfl, by decide, qi_9, tyX10_ok, nmX10, (pn_mt 318 (by decide +kernel) (by decide +kernel)), by decide, tyX10 7, by decide, rfl, rfl⟩
theorem nw_X10_51 : pk_NW RX10 51 3 := ⟨RX3, TX3, tyX3, 2, rfl, rfl, by decide, qi_3, tyX3_ok, (pn_mt 213 (by decide +kernel) (by decide +kernel)), (pn_mt 214 (by decide +kernel) (by decide +kernel)), (pn_mt 7 (by decide +kernel) (by decide +kernel)), pk_dvs (by decide +kernel : ∀ i, i < 97 → pn_K i = 3 → ∀ k, k < 2 → pk_dv (defaultValue (tyX3 k)) = if (pn_R i k).isSome then 0 else 1)⟩
theorem li_X10_53 : pk_LI RX10 53 mX3_init 2 := ⟨Or.inl (pn_mt 215 (by decide +kernel) (by decide +kernel)), (pn_mt 216 (by decide +kernel) (by decide +kernel)), (pn_mt 7 (by decide +kernel) (by decide +kernel)), (pn_mt 217 (by decide +kernel) (by decide +kernel)), rfl, rfl, ⟨by decide, by decide⟩, by decide, by decide⟩
theorem fw_X10_56_9 (b : Nat) : pk_FW RX10 56 9 8 (.ref b) := ⟨RX10, TX10, tyX10, 16, rfl, by decide, rfl, by decide, qi_9, tyX10_ok, nmX10, (pn_mt 319 (by decide +kernel) (by decide +kernel)), by decide, tyX10 8, by decide, rfl, rfl⟩
theorem nw_X10_60 : pk_NW RX10 60 0 := ⟨RX0, TX0, tyX0, 8, rfl, rfl, by decide, qi_0, tyX0_ok, (pn_mt 224 (by decide +kernel) (by decide +kernel)), (pn_mt 225 (by decide +kernel) (by decide +kernel)), (pn_mt 8 (by decide +kernel) (by decide +kernel)), pk_dvs (by decide +kernel : ∀ i, i < 97 → pn_K i = 0 → ∀ k, k < 8 → pk_dv (defaultValue (tyX0 k)) = if (pn_R i k).isSome then 0 else 1)⟩
theorem li_X10_62 : pk_LI RX10 62 mX0_init 0 := ⟨Or.inr ⟨"PanNights", (pn_mt 226 (by decide +kernel) (by decide +kernel))⟩, (pn_mt 227 (by decide +kernel) (by decide +kernel)), (pn_mt 8 (by decide +kernel) (by decide +kernel)), (pn_mt 228 (by decide +kernel) (by decide +kernel)), rfl, rfl, ⟨by decide, by decide⟩, by decide, by decide⟩
theorem fw_X10_63_9 (b : Nat) : pk_FW RX10 63 9 9 (.ref b) := ⟨RX10, TX10, tyX10, 16, rfl, by decide, rfl, by decide, qi_9, tyX10_ok, nmX10, (pn_mt 320 (by decide +kernel) (by decide +kernel)), by decide, tyX10 9, by decide, rfl, rfl⟩
theorem nw_X10_67 : pk_NW RX10 67 4 := ⟨RX5, TX5, tyX5, 3, rfl, rfl, by decide, qi_4, tyX5_ok, (pn_mt 260 (by decide +kernel) (by decide +kernel)), (pn_mt 261 (by decide +kernel) (by decide +kernel)), (pn_mt 9 (by decide +kernel) (by decide +kernel)), pk_dvs (by decide +kernel : ∀ i, i < 97 → pn_K i = 4 → ∀ k, k < 3 → pk_dv (defaultValue (tyX5 k)) = if (pn_R i k).isSome then 0 else 1)⟩
theorem li_X10_69 : pk_LI RX10 69 mX5_init 0 := ⟨Or.inl (pn_mt 262 (by decide +kernel) (by decide +kernel)), (pn_mt 263 (by decide +kernel) (by decide +kernel)), (pn_mt 9 (by decide +kernel) (by decide +kernel)), (pn_mt 264 (by decide +kernel) (by decide +kernel)), rfl, rfl, ⟨by decide, by decide⟩, by decide, by decide⟩
theorem fw_X10_70_9 (b : Nat) : pk_FW RX10 70 9 10 (.ref b) := ⟨RX10, TX10, tyX10, 16, rfl, by decide, rfl, by decide, qi_9, tyX10_ok, nmX10, (pn_mt 321 (by decide +kernel) (by decide +kernel)), by decide, tyX10 10, by decide, rfl, rfl⟩
theorem nw_X10_74 : pk_NW RX10 74 5 := ⟨RX6, TX6, tyX6, 3, rfl, rfl, by decide, qi_5, tyX6_ok, (pn_mt 280 (by decide +kernel) (by decide +kernel)), (pn_mt 281 (by decide +kernel) (by decide +kernel)), (pn_mt 10 (by decide +kernel) (by decide +kernel)), pk_dvs (by decide +kernel : ∀ i, i < 97 → pn_K i = 5 → ∀ k, k < 3 → pk_dv (defaultValue (tyX6 k)) = if (pn_R i k).isSome then 0 else 1)⟩
theorem li_X10_76 : pk_LI RX10 76 mX6_init 0 := ⟨Or.inr ⟨"PanNights", (pn_mt 282 (by decide +kernel) (by decide +kernel))⟩, (pn_mt 283 (by decide +kernel) (by decide +kernel)), (pn_mt 10 (by decide +kernel) (by decide +kernel)), (pn_mt 284 (by decide +kernel) (by decide +kernel)), rfl, rfl, ⟨by decide, by decide⟩, by decide, by decide⟩
theorem fw_X10_77_9 (b : Nat) : pk_FW RX10 77 9 11 (.ref b) := ⟨RX10, TX10, tyX10, 16, rfl, by decide, rfl, by decide, qi_9, tyX10_ok, nmX10, (pn_mt 322 (by decide +kernel) (by decide +kernel)), by decide, tyX10 11, by decide, rfl, rfl⟩
theorem nw_X10_81 : pk_NW RX10 81 1 := ⟨RX1, TX1, tyX1, 2, rfl, rfl, by decide, qi_1, tyX1_ok, (pn_mt 298 (by decide +kernel) (by decide +kernel)), (pn_mt 299 (by decide +kernel) (by decide +kernel)), (pn_mt 11 (by decide +kernel) (by decide +kernel)), pk_dvs (by decide +kernel : ∀ i, i < 97 → pn_K i = 1 → ∀ k, k < 2 → pk_dv (defaultValue (tyX1 k)) = if (pn_R i k).isSome then 0 else 1)⟩
theorem li_X10_83 : pk_LI RX10 83 mX1_init 0 := ⟨Or.inr ⟨"PanNights", (pn_mt 300 (by decide +kernel) (by decide +kernel))⟩, (pn_mt 301 (by decide +kernel) (by decide +kernel)), (pn_mt 11 (by decide +kernel) (by decide +kernel)), (pn_mt 302 (by decide +kernel) (by decide +kernel)), rfl, rfl, ⟨by decide, by decide⟩, by decide, by decide⟩
theorem fw_X10_84_9 (b : Nat) : pk_FW RX10 84 9 12 (.ref b) := ⟨RX10, TX10, tyX10, 16, rfl, by decide, rfl, by decide, qi_9, tyX10_ok, nmX10, (pn_mt 323 (by decide +kernel) (by decide +kernel)), by decide, tyX10 12, by decide, rfl, rfl⟩
theorem fw_X10_88_9 (b : Nat) : pk_FW RX10 88 9 13 (.ref b) := ⟨RX10, TX10, tyX10, 16, rfl, by decide, rfl, by decide, qi_9, tyX10_ok, nmX10, (pn_mt 324 (by decide +kernel) (by decide +kernel)), by decide, tyX10 13, by decide, rfl, rfl⟩
theorem fw_X10_92_9 : pk_FW RX10 92 9 14 (.int 0) := ⟨RX10, TX10, tyX10, 16, rfl, by decide, rfl, by decide, qi_9, tyX10_ok, nmX10, (pn_mt 325 (by decide +kernel) (by decide +kernel)), by decide, tyX10 14, by decide, rfl, rfl⟩
theorem fw_X10_96_9 (v : Int32) : pk_FW RX10 96 9 15 (.int v) := ⟨RX10, TX10, tyX10, 16, rfl, by decide, rfl, by decide, qi_9, tyX10_ok, nmX10, (pn_mt 326 (by decide +kernel) (by decide +kernel)), by decide, tyX10 15, by decide, rfl, rfl⟩
theorem oj_X11 : Cond.methodLink RX11 7 Lib.objectInit ∈ pn_T ∧ Cond.instanceMethod Lib.objectInit ∈ pn_T ∧ Cond.code Lib.objectInit ⟨#[0xb1]⟩ 1 none ∈ pn_T := ⟨(pn_mt 1287 (by decide +kernel) (by decide +kernel)), (pn_mt 35 (by decide +kernel) (by decide +kernel)), (pn_mt 36 (by decide +kernel) (by decide +kernel))⟩
theorem fw_X11_13_10 (b : Nat) : pk_FW RX11 13 10 1 (.ref b) := ⟨RX11, TX11, tyX11, 21, rfl, by decide, rfl, by decide, qi_10, tyX11_ok, nmX11, (pn_mt 1289 (by decide +kernel) (by decide +kernel)), by decide, tyX11 1, by decide, rfl, rfl⟩
theorem fw_X11_17_10 (b : Nat) : pk_FW RX11 17 10 2 (.ref b) := ⟨RX11, TX11, tyX11, 21, rfl, by decide, rfl, by decide, qi_10, tyX11_ok, nmX11, (pn_mt 1290 (by decide +kernel) (by decide +kernel)), by decide, tyX11 2, by decide, rfl, rfl⟩
theorem fw_X11_20_10 (b : Nat) : pk_FW RX11 20 10 3 (.ref b) := ⟨RX11, TX11, tyX11, 21, rfl, by decide, rfl, by decide, qi_10, tyX11_ok, nmX11, (pn_mt 1291 (by decide +kernel) (by decide +kernel)), by decide, tyX11 3, by decide, rfl, rfl⟩
theorem fw_X11_23_10 (b : Nat) : pk_FW RX11 23 10 4 (.ref b) := ⟨RX11, TX11, tyX11, 21, rfl, by decide, rfl, by decide, qi_10, tyX11_ok, nmX11, (pn_mt 1292 (by decide +kernel) (by decide +kernel)), by decide, tyX11 4, by decide, rfl, rfl⟩
theorem fw_X11_26_10 (b : Nat) : pk_FW RX11 26 10 5 (.ref b) := ⟨RX11, TX11, tyX11, 21, rfl, by decide, rfl, by decide, qi_10, tyX11_ok, nmX11, (pn_mt 1293 (by decide +kernel) (by decide +kernel)), by decide, tyX11 5, by decide, rfl, rfl⟩
theorem fw_X11_29_10 (b : Nat) : pk_FW RX11 29 10 8 (.ref b) := ⟨RX11, TX11, tyX11, 21, rfl, by decide, rfl, by decide, qi_10, tyX11_ok, nmX11, (pn_mt 1296 (by decide +kernel) (by decide +kernel)), by decide, tyX11 8, by decide, rfl, rfl⟩
theorem fw_X11_33_10 (v : Int32) : pk_FW RX11 33 10 14 (.int v) := ⟨RX11, TX11, tyX11, 21, rfl, by decide, rfl, by decide, qi_10, tyX11_ok, nmX11, (pn_mt 1302 (by decide +kernel) (by decide +kernel)), by decide, tyX11 14, by decide, rfl, rfl⟩
theorem fw_X11_36_10 (b : Nat) : pk_FW RX11 36 10 15 (.ref b) := ⟨RX11, TX11, tyX11, 21, rfl, by decide, rfl, by decide, qi_10, tyX11_ok, nmX11, (pn_mt 1303 (by decide +kernel) (by decide +kernel)), by decide, tyX11 15, by decide, rfl, rfl⟩
theorem fw_X11_39_10 (b : Nat) : pk_FW RX11 39 10 17 (.ref b) := ⟨RX11, TX11, tyX11, 21, rfl, by decide, rfl, by decide, qi_10, tyX11_ok, nmX11, (pn_mt 1305 (by decide +kernel) (by decide +kernel)), by decide, tyX11 17, by decide, rfl, rfl⟩
theorem fw_X11_42_10 (b : Nat) : pk_FW RX11 42 10 18 (.ref b) := ⟨RX11, TX11, tyX11, 21, rfl, by decide, rfl, by decide, qi_10, tyX11_ok, nmX11, (pn_mt 1306 (by decide +kernel) (by decide +kernel)), by decide, tyX11 18, by decide, rfl, rfl⟩
theorem fw_X11_45_10 (b : Nat) : pk_FW RX11 45 10 19 (.ref b) := ⟨RX11, TX11, tyX11, 21, rfl, by decide, rfl, by decide, qi_10, tyX11_ok, nmX11, (pn_mt 1307 (by decide +kernel) (by decide +kernel)), by decide, tyX11 19, by decide, rfl, rfl⟩
theorem nw_L_8 : pk_NW RL 8 9 := ⟨RX10, TX10, tyX10, 16, rfl, rfl, by decide, qi_9, tyX10_ok, (pn_mt 29 (by decide +kernel) (by decide +kernel)), (pn_mt 30 (by decide +kernel) (by decide +kernel)), (pn_mt 1 (by decide +kernel) (by decide +kernel)), pk_dvs (by decide +kernel : ∀ i, i < 97 → pn_K i = 9 → ∀ k, k < 16 → pk_dv (defaultValue (tyX10 k)) = if (pn_R i k).isSome then 0 else 1)⟩
theorem li_L_134 : pk_LI RL 134 mX10_init 0 := ⟨Or.inl (pn_mt 31 (by decide +kernel) (by decide +kernel)), (pn_mt 32 (by decide +kernel) (by decide +kernel)), (pn_mt 1 (by decide +kernel) (by decide +kernel)), (pn_mt 33 (by decide +kernel) (by decide +kernel)), rfl, rfl, ⟨by decide, by decide⟩, by decide, by decide⟩
theorem nw_L_135 : pk_NW RL 135 10 := ⟨RX11, TX11, tyX11, 21, rfl, rfl, by decide, qi_10, tyX11_ok, (pn_mt 1282 (by decide +kernel) (by decide +kernel)), (pn_mt 1283 (by decide +kernel) (by decide +kernel)), (pn_mt 12 (by decide +kernel) (by decide +kernel)), pk_dvs (by decide +kernel : ∀ i, i < 97 → pn_K i = 10 → ∀ k, k < 21 → pk_dv (defaultValue (tyX11 k)) = if (pn_R i k).isSome then 0 else 1)⟩
theorem li_L_137 : pk_LI RL 137 mX11_init 0 := ⟨Or.inl (pn_mt 1284 (by decide +kernel) (by decide +kernel)), (pn_mt 1285 (by decide +kernel) (by decide +kernel)), (pn_mt 12 (by decide +kernel) (by decide +kernel)), (pn_mt 1286 (by decide +kernel) (by decide +kernel)), rfl, rfl, ⟨by decide, by decide⟩, by decide, by decide⟩
def gX8 (a : Nat) (Y : pk_Y) : pk_Y := (pk_int (pk_int (pk_int (pk_int (pk_int (pk_int (pk_int (pk_int (pk_int (pk_int (pk_int (pk_int (pk_int (pk_ref (pk_add (pk_ref (pk_add Y) a 0)) a 1) a 2 (0 : Int32)) a 3 (0 : Int32)) a 4 (-1 : Int32)) a 5 (0 : Int32)) a 6 (0 : Int32)) a 7 (0 : Int32)) a 8 (0 : Int32)) a 9 (0 : Int32)) a 10 (3 : Int32)) a 11 (2 : Int32)) a 12 (1 : Int32)) a 13 (0 : Int32)) a 14 (0 : Int32))
theorem kc_X8 (Γ : pn_G) (a : Nat) (hv : pn_isV a) (Y : pk_Y) (hY : Y.1 = a + 1) : pk_C Γ 0 mX8_init [.ref (pn_b Γ + a)] Y (gX8 a Y) 2 304 := by
  obtain ⟨n9, F9, σ9⟩ := Y
  have hY : n9 = a + 1 := hY
  subst hY
  refine pk_of (by decide +kernel) ?_ (Nat.le_of_ble_eq_true rfl)
  intro p e R s m below meth c ls A hH0 hN0 hc hs hf hl hls
  have hS0 : va_S (pn_A Γ) s.heap s.heap [] := va_S.rf
  refine lv_aload_n A.1 A.2.1 dX8_init_0 rfl (lv_at hls 0 rfl) ?_
  refine pk_obj A oj_X8 hls.1 dX8_init_1 (Nat.le_of_ble_eq_true rfl) (by omega) (by omega) ?_
  refine lv_aload_n A.1 A.2.1 dX8_init_4 rfl (lv_at hls 0 rfl) ?_
  refine lv_bipush (v := (64 : Int32)) A.1 A.2.1 dX8_init_5 (by decide) ?_
  refine pk_newaN (n9 := (a + 1)) (N := 64) A hH0 hS0 hN0 rfl hv.2.1.2.1 hv.2.1.2.2 ac_12 (Or.inl ⟨rfl, rfl⟩) (by decide) (by decide) (by decide) dX8_init_7 (by omega) (by omega) ?_
  intro H1 hH1 hS1 hN1
  refine pk_putrN (n9 := (a + 2)) (t := (a + 1)) (i := a) A rfl hH1 hS1 (fw_X8_9_7 _) rfl (by omega) hv.1.2 (pn_RV0 hv.1.2) dX8_init_9 ?_
  intro H2 locs2 hH2 hS2
  refine lv_aload_n A.1 A.2.1 dX8_init_12 rfl (lv_at hls 0 rfl) ?_
  refine lv_sipush (v := (240 : Int32)) A.1 A.2.1 dX8_init_13 (by decide) ?_
  refine pk_newaN (n9 := (a + 2)) (N := 240) A hH2 hS2 hN1 rfl hv.2.2.2.1 hv.2.2.2.2 ac_12 (Or.inl ⟨rfl, rfl⟩) (by decide) (by decide) (by decide) dX8_init_16 (by omega) (by omega) ?_
  intro H3 hH3 hS3 hN3
  refine pk_putrN (n9 := (a + 3)) (t := (a + 2)) (i := a) A rfl hH3 hS3 (fw_X8_15_7 _) rfl (by omega) hv.1.2 (pn_RV1 hv.1.2) dX8_init_18 ?_
  intro H4 locs4 hH4 hS4
  refine lv_aload_n A.1 A.2.1 dX8_init_21 rfl (lv_at hls 0 rfl) ?_
  refine lv_iconst (v := (0 : Int32)) A.1 A.2.1 dX8_init_22 (by decide) ?_
  refine pk_putiN (n9 := (a + 3)) (i := a) A rfl hH4 hS4 (fw_X8_18_7 _) rfl (by omega) hv.1.2 (pn_RVi hv.1.2 (by decide)) dX8_init_23 ?_
  intro H5 locs5 hH5 hS5
  refine lv_aload_n A.1 A.2.1 dX8_init_26 rfl (lv_at hls 0 rfl) ?_
  refine lv_iconst (v := (0 : Int32)) A.1 A.2.1 dX8_init_27 (by decide) ?_
  refine pk_putiN (n9 := (a + 3)) (i := a) A rfl hH5 hS5 (fw_X8_22_7 _) rfl (by omega) hv.1.2 (pn_RVi hv.1.2 (by decide)) dX8_init_28 ?_
  intro H6 locs6 hH6 hS6
  refine lv_aload_n A.1 A.2.1 dX8_init_31 rfl (lv_at hls 0 rfl) ?_
  refine lv_iconst (v := (-1 : Int32)) A.1 A.2.1 dX8_init_32 (by decide) ?_
  refine pk_putiN (n9 := (a + 3)) (i := a) A rfl hH6 hS6 (fw_X8_25_7 _) rfl (by omega) hv.1.2 (pn_RVi hv.1.2 (by decide)) dX8_init_33 ?_
  intro H7 locs7 hH7 hS7
  refine lv_aload_n A.1 A.2.1 dX8_init_36 rfl (lv_at hls 0 rfl) ?_
  refine lv_iconst (v := (0 : Int32)) A.1 A.2.1 dX8_init_37 (by decide) ?_
  refine pk_putiN (n9 := (a + 3)) (i := a) A rfl hH7 hS7 (fw_X8_28_7 _) rfl (by omega) hv.1.2 (pn_RVi hv.1.2 (by decide)) dX8_init_38 ?_
  intro H8 locs8 hH8 hS8
  refine lv_aload_n A.1 A.2.1 dX8_init_41 rfl (lv_at hls 0 rfl) ?_
  refine lv_iconst (v := (0 : Int32)) A.1 A.2.1 dX8_init_42 (by decide) ?_
  refine pk_putiN (n9 := (a + 3)) (i := a) A rfl hH8 hS8 (fw_X8_31_7 _) rfl (by omega) hv.1.2 (pn_RVi hv.1.2 (by decide)) dX8_init_43 ?_
  intro H9 locs9 hH9 hS9
  refine lv_aload_n A.1 A.2.1 dX8_init_46 rfl (lv_at hls 0 rfl) ?_
  refine lv_iconst (v := (0 : Int32)) A.1 A.2.1 dX8_init_47 (by decide) ?_
  refine pk_putiN (n9 := (a + 3)) (i := a) A rfl hH9 hS9 (fw_X8_34_7) rfl (by omega) hv.1.2 (pn_RVi hv.1.2 (by decide)) dX8_init_48 ?_
  intro H10 locs10 hH10 hS10
  refine lv_aload_n A.1 A.2.1 dX8_init_51 rfl (lv_at hls 0 rfl) ?_
  refine lv_iconst (v := (0 : Int32)) A.1 A.2.1 dX8_init_52 (by decide) ?_
  refine pk_putiN (n9 := (a + 3)) (i := a) A rfl hH10 hS10 (fw_X8_38_7 _) rfl (by omega) hv.1.2 (pn_RVi hv.1.2 (by decide)) dX8_init_53 ?_
  intro H11 locs11 hH11 hS11
  refine lv_aload_n A.1 A.2.1 dX8_init_56 rfl (lv_at hls 0 rfl) ?_
  refine lv_iconst (v := (0 : Int32)) A.1 A.2.1 dX8_init_57 (by decide) ?_
  refine pk_putiN (n9 := (a + 3)) (i := a) A rfl hH11 hS11 (fw_X8_41_7 _) rfl (by omega) hv.1.2 (pn_RVi hv.1.2 (by decide)) dX8_init_58 ?_
  intro H12 locs12 hH12 hS12
  refine lv_aload_n A.1 A.2.1 dX8_init_61 rfl (lv_at hls 0 rfl) ?_
  refine lv_iconst (v := (3 : Int32)) A.1 A.2.1 dX8_init_62 (by decide) ?_
  refine pk_putiN (n9 := (a + 3)) (i := a) A rfl hH12 hS12 (fw_X8_44_7 _) rfl (by omega) hv.1.2 (pn_RVi hv.1.2 (by decide)) dX8_init_63 ?_
  intro H13 locs13 hH13 hS13
  refine lv_aload_n A.1 A.2.1 dX8_init_66 rfl (lv_at hls 0 rfl) ?_
  refine lv_iconst (v := (2 : Int32)) A.1 A.2.1 dX8_init_67 (by decide) ?_
  refine pk_putiN (n9 := (a + 3)) (i := a) A rfl hH13 hS13 (fw_X8_47_7 _) rfl (by omega) hv.1.2 (pn_RVi hv.1.2 (by decide)) dX8_init_68 ?_
  intro H14 locs14 hH14 hS14
  refine lv_aload_n A.1 A.2.1 dX8_init_71 rfl (lv_at hls 0 rfl) ?_
  refine lv_iconst (v := (1 : Int32)) A.1 A.2.1 dX8_init_72 (by decide) ?_
  refine pk_putiN (n9 := (a + 3)) (i := a) A rfl hH14 hS14 (fw_X8_50_7 _) rfl (by omega) hv.1.2 (pn_RVi hv.1.2 (by decide)) dX8_init_73 ?_
  intro H15 locs15 hH15 hS15
  refine lv_aload_n A.1 A.2.1 dX8_init_76 rfl (lv_at hls 0 rfl) ?_
  refine lv_iconst (v := (0 : Int32)) A.1 A.2.1 dX8_init_77 (by decide) ?_
  refine pk_putiN (n9 := (a + 3)) (i := a) A rfl hH15 hS15 (fw_X8_53_7 _) rfl (by omega) hv.1.2 (pn_RVi hv.1.2 (by decide)) dX8_init_78 ?_
  intro H16 locs16 hH16 hS16
  refine lv_aload_n A.1 A.2.1 dX8_init_81 rfl (lv_at hls 0 rfl) ?_
  refine lv_iconst (v := (0 : Int32)) A.1 A.2.1 dX8_init_82 (by decide) ?_
  refine pk_putiN (n9 := (a + 3)) (i := a) A rfl hH16 hS16 (fw_X8_56_7 _) rfl (by omega) hv.1.2 (pn_RVi hv.1.2 (by decide)) dX8_init_83 ?_
  intro H17 locs17 hH17 hS17
  exact pk_ret A hH17 hS17 rfl dX8_init_86
def gX2 (a : Nat) (Y : pk_Y) : pk_Y := (pk_int (pk_int (pk_int (pk_int (pk_int (pk_ref (pk_add (pk_ref (pk_add (pk_ref (pk_add (pk_ref (pk_add (pk_ref (pk_add (pk_ref (pk_add Y) a 0)) a 1)) a 2)) a 3)) a 4)) a 5) a 6 (-1 : Int32)) a 7 (0 : Int32)) a 8 (0 : Int32)) a 9 (0 : Int32)) a 10 (0 : Int32))
theorem kc_X2 (Γ : pn_G) (a : Nat) (hv : pn_isW a) (Y : pk_Y) (hY : Y.1 = a + 1) : pk_C Γ 0 mX2_init [.ref (pn_b Γ + a)] Y (gX2 a Y) 6 496 := by
  obtain ⟨n9, F9, σ9⟩ := Y
  have hY : n9 = a + 1 := hY
  subst hY
  refine pk_of (by decide +kernel) ?_ (Nat.le_of_ble_eq_true rfl)
  intro p e R s m below meth c ls A hH0 hN0 hc hs hf hl hls
  have hS0 : va_S (pn_A Γ) s.heap s.heap [] := va_S.rf
  refine lv_aload_n A.1 A.2.1 dX2_init_0 rfl (lv_at hls 0 rfl) ?_
  refine pk_obj A oj_X2 hls.1 dX2_init_1 (Nat.le_of_ble_eq_true rfl) (by omega) (by omega) ?_
  refine lv_aload_n A.1 A.2.1 dX2_init_4 rfl (lv_at hls 0 rfl) ?_
  refine lv_bipush (v := (12 : Int32)) A.1 A.2.1 dX2_init_5 (by decide) ?_
  refine pk_newaN (n9 := (a + 1)) (N := 12) A hH0 hS0 hN0 rfl hv.2.1.2.1 hv.2.1.2.2 ac_12 (Or.inl ⟨rfl, rfl⟩) (by decide) (by decide) (by decide) dX2_init_7 (by omega) (by omega) ?_
  intro H1 hH1 hS1 hN1
  refine pk_putrN (n9 := (a + 2)) (t := (a + 1)) (i := a) A rfl hH1 hS1 (fw_X2_9_2 _) rfl (by omega) hv.1.2 (pn_RW0 hv.1.2) dX2_init_9 ?_
  intro H2 locs2 hH2 hS2
  refine lv_aload_n A.1 A.2.1 dX2_init_12 rfl (lv_at hls 0 rfl) ?_
  refine lv_bipush (v := (12 : Int32)) A.1 A.2.1 dX2_init_13 (by decide) ?_
  refine pk_newaN (n9 := (a + 2)) (N := 12) A hH2 hS2 hN1 rfl hv.2.2.1.2.1 hv.2.2.1.2.2 ac_12 (Or.inl ⟨rfl, rfl⟩) (by decide) (by decide) (by decide) dX2_init_15 (by omega) (by omega) ?_
  intro H3 hH3 hS3 hN3
  refine pk_putrN (n9 := (a + 3)) (t := (a + 2)) (i := a) A rfl hH3 hS3 (fw_X2_15_2 _) rfl (by omega) hv.1.2 (pn_RW1 hv.1.2) dX2_init_17 ?_
  intro H4 locs4 hH4 hS4
  refine lv_aload_n A.1 A.2.1 dX2_init_20 rfl (lv_at hls 0 rfl) ?_
  refine lv_bipush (v := (13 : Int32)) A.1 A.2.1 dX2_init_21 (by decide) ?_
  refine pk_newaN (n9 := (a + 3)) (N := 13) A hH4 hS4 hN3 rfl hv.2.2.2.1.2.1 hv.2.2.2.1.2.2 ac_12 (Or.inl ⟨rfl, rfl⟩) (by decide) (by decide) (by decide) dX2_init_23 (by omega) (by omega) ?_
  intro H5 hH5 hS5 hN5
  refine pk_putrN (n9 := (a + 4)) (t := (a + 3)) (i := a) A rfl hH5 hS5 (fw_X2_18_2 _) rfl (by omega) hv.1.2 (pn_RW2 hv.1.2) dX2_init_25 ?_
  intro H6 locs6 hH6 hS6
  refine lv_aload_n A.1 A.2.1 dX2_init_28 rfl (lv_at hls 0 rfl) ?_
  refine lv_sipush (v := (400 : Int32)) A.1 A.2.1 dX2_init_29 (by decide) ?_
  refine pk_newaN (n9 := (a + 4)) (N := 400) A hH6 hS6 hN5 rfl hv.2.2.2.2.1.2.1 hv.2.2.2.2.1.2.2 ac_12 (Or.inl ⟨rfl, rfl⟩) (by decide) (by decide) (by decide) dX2_init_32 (by omega) (by omega) ?_
  intro H7 hH7 hS7 hN7
  refine pk_putrN (n9 := (a + 5)) (t := (a + 4)) (i := a) A rfl hH7 hS7 (fw_X2_21_2 _) rfl (by omega) hv.1.2 (pn_RW3 hv.1.2) dX2_init_34 ?_
  intro H8 locs8 hH8 hS8
  refine lv_aload_n A.1 A.2.1 dX2_init_37 rfl (lv_at hls 0 rfl) ?_
  refine lv_bipush (v := (32 : Int32)) A.1 A.2.1 dX2_init_38 (by decide) ?_
  refine pk_newaN (n9 := (a + 5)) (N := 32) A hH8 hS8 hN7 rfl hv.2.2.2.2.2.1.2.1 hv.2.2.2.2.2.1.2.2 ac_12 (Or.inl ⟨rfl, rfl⟩) (by decide) (by decide) (by decide) dX2_init_40 (by omega) (by omega) ?_
  intro H9 hH9 hS9 hN9
  refine pk_putrN (n9 := (a + 6)) (t := (a + 5)) (i := a) A rfl hH9 hS9 (fw_X2_24_2 _) rfl (by omega) hv.1.2 (pn_RW4 hv.1.2) dX2_init_42 ?_
  intro H10 locs10 hH10 hS10
  refine lv_aload_n A.1 A.2.1 dX2_init_45 rfl (lv_at hls 0 rfl) ?_
  refine lv_bipush (v := (27 : Int32)) A.1 A.2.1 dX2_init_46 (by decide) ?_
  refine pk_newaN (n9 := (a + 6)) (N := 27) A hH10 hS10 hN9 rfl hv.2.2.2.2.2.2.2.1 hv.2.2.2.2.2.2.2.2 ac_12 (Or.inl ⟨rfl, rfl⟩) (by decide) (by decide) (by decide) dX2_init_48 (by omega) (by omega) ?_
  intro H11 hH11 hS11 hN11
  refine pk_putrN (n9 := (a + 7)) (t := (a + 6)) (i := a) A rfl hH11 hS11 (fw_X2_27_2 _) rfl (by omega) hv.1.2 (pn_RW5 hv.1.2) dX2_init_50 ?_
  intro H12 locs12 hH12 hS12
  refine lv_aload_n A.1 A.2.1 dX2_init_53 rfl (lv_at hls 0 rfl) ?_
  refine lv_iconst (v := (-1 : Int32)) A.1 A.2.1 dX2_init_54 (by decide) ?_
  refine pk_putiN (n9 := (a + 7)) (i := a) A rfl hH12 hS12 (fw_X2_30_2 _) rfl (by omega) hv.1.2 (pn_RWi hv.1.2 (by decide)) dX2_init_55 ?_
  intro H13 locs13 hH13 hS13
  refine lv_aload_n A.1 A.2.1 dX2_init_58 rfl (lv_at hls 0 rfl) ?_
  refine lv_iconst (v := (0 : Int32)) A.1 A.2.1 dX2_init_59 (by decide) ?_
  refine pk_putiN (n9 := (a + 7)) (i := a) A rfl hH13 hS13 (fw_X2_34_2 _) rfl (by omega) hv.1.2 (pn_RWi hv.1.2 (by decide)) dX2_init_60 ?_
  intro H14 locs14 hH14 hS14
  refine lv_aload_n A.1 A.2.1 dX2_init_63 rfl (lv_at hls 0 rfl) ?_
  refine lv_iconst (v := (0 : Int32)) A.1 A.2.1 dX2_init_64 (by decide) ?_
  refine pk_putiN (n9 := (a + 7)) (i := a) A rfl hH14 hS14 (fw_X2_37_2 _) rfl (by omega) hv.1.2 (pn_RWi hv.1.2 (by decide)) dX2_init_65 ?_
  intro H15 locs15 hH15 hS15
  refine lv_aload_n A.1 A.2.1 dX2_init_68 rfl (lv_at hls 0 rfl) ?_
  refine lv_iconst (v := (0 : Int32)) A.1 A.2.1 dX2_init_69 (by decide) ?_
  refine pk_putiN (n9 := (a + 7)) (i := a) A rfl hH15 hS15 (fw_X2_40_2 _) rfl (by omega) hv.1.2 (pn_RWi hv.1.2 (by decide)) dX2_init_70 ?_
  intro H16 locs16 hH16 hS16
  refine lv_aload_n A.1 A.2.1 dX2_init_73 rfl (lv_at hls 0 rfl) ?_
  refine lv_iconst (v := (0 : Int32)) A.1 A.2.1 dX2_init_74 (by decide) ?_
  refine pk_putiN (n9 := (a + 7)) (i := a) A rfl hH16 hS16 (fw_X2_43_2 _) rfl (by omega) hv.1.2 (pn_RWi hv.1.2 (by decide)) dX2_init_75 ?_
  intro H17 locs17 hH17 hS17
  exact pk_ret A hH17 hS17 rfl dX2_init_78
def gX7 (Y : pk_Y) : pk_Y := (pk_int (pk_int (pk_int (pk_int (pk_int (pk_ref (pk_add (pk_ref (pk_add (pk_ref (pk_add Y) 1 0)) 1 1)) 1 2) 1 3 (0 : Int32)) 1 4 (0 : Int32)) 1 5 (0 : Int32)) 1 6 (0 : Int32)) 1 7 (-1 : Int32))
theorem kc_X7 (Γ : pn_G) (Y : pk_Y) (hY : Y.1 = 2) : pk_C Γ 0 mX7_init [.ref (pn_b Γ + 1)] Y (gX7 Y) 3 1202 := by
  obtain ⟨n9, F9, σ9⟩ := Y
  have hY : n9 = 2 := hY
  subst hY
  refine pk_of (by decide +kernel) ?_ (Nat.le_of_ble_eq_true rfl)
  intro p e R s m below meth c ls A hH0 hN0 hc hs hf hl hls
  have hS0 : va_S (pn_A Γ) s.heap s.heap [] := va_S.rf
  refine lv_aload_n A.1 A.2.1 dX7_init_0 rfl (lv_at hls 0 rfl) ?_
  refine pk_obj A oj_X7 hls.1 dX7_init_1 (Nat.le_of_ble_eq_true rfl) (by omega) (by omega) ?_
  refine lv_aload_n A.1 A.2.1 dX7_init_4 rfl (lv_at hls 0 rfl) ?_
  refine lv_sipush (v := (400 : Int32)) A.1 A.2.1 dX7_init_5 (by decide) ?_
  refine pk_newaN (n9 := 2) (N := 400) A hH0 hS0 hN0 rfl (by decide) (by decide) ac_12 (Or.inl ⟨rfl, rfl⟩) (by decide) (by decide) (by decide) dX7_init_8 (by omega) (by omega) ?_
  intro H1 hH1 hS1 hN1
  refine pk_putrN (n9 := 3) (t := 2) (i := 1) A rfl hH1 hS1 (fw_X7_9_6 _) rfl (by omega) (by decide) (by decide) dX7_init_10 ?_
  intro H2 locs2 hH2 hS2
  refine lv_aload_n A.1 A.2.1 dX7_init_13 rfl (lv_at hls 0 rfl) ?_
  refine lv_sipush (v := (401 : Int32)) A.1 A.2.1 dX7_init_14 (by decide) ?_
  refine pk_newaN (n9 := 3) (N := 401) A hH2 hS2 hN1 rfl (by decide) (by decide) ac_12 (Or.inl ⟨rfl, rfl⟩) (by decide) (by decide) (by decide) dX7_init_17 (by omega) (by omega) ?_
  intro H3 hH3 hS3 hN3
  refine pk_putrN (n9 := 4) (t := 3) (i := 1) A rfl hH3 hS3 (fw_X7_15_6 _) rfl (by omega) (by decide) (by decide) dX7_init_19 ?_
  intro H4 locs4 hH4 hS4
  refine lv_aload_n A.1 A.2.1 dX7_init_22 rfl (lv_at hls 0 rfl) ?_
  refine lv_sipush (v := (401 : Int32)) A.1 A.2.1 dX7_init_23 (by decide) ?_
  refine pk_newaN (n9 := 4) (N := 401) A hH4 hS4 hN3 rfl (by decide) (by decide) ac_12 (Or.inl ⟨rfl, rfl⟩) (by decide) (by decide) (by decide) dX7_init_26 (by omega) (by omega) ?_
  intro H5 hH5 hS5 hN5
  refine pk_putrN (n9 := 5) (t := 4) (i := 1) A rfl hH5 hS5 (fw_X7_18_6 _) rfl (by omega) (by decide) (by decide) dX7_init_28 ?_
  intro H6 locs6 hH6 hS6
  refine lv_aload_n A.1 A.2.1 dX7_init_31 rfl (lv_at hls 0 rfl) ?_
  refine lv_iconst (v := (0 : Int32)) A.1 A.2.1 dX7_init_32 (by decide) ?_
  refine pk_putiN (n9 := 5) (i := 1) A rfl hH6 hS6 (fw_X7_21_6 _) rfl (by omega) (by decide) (by decide) dX7_init_33 ?_
  intro H7 locs7 hH7 hS7
  refine lv_aload_n A.1 A.2.1 dX7_init_36 rfl (lv_at hls 0 rfl) ?_
  refine lv_iconst (v := (0 : Int32)) A.1 A.2.1 dX7_init_37 (by decide) ?_
  refine pk_putiN (n9 := 5) (i := 1) A rfl hH7 hS7 (fw_X7_25_6 _) rfl (by omega) (by decide) (by decide) dX7_init_38 ?_
  intro H8 locs8 hH8 hS8
  refine lv_aload_n A.1 A.2.1 dX7_init_41 rfl (lv_at hls 0 rfl) ?_
  refine lv_iconst (v := (0 : Int32)) A.1 A.2.1 dX7_init_42 (by decide) ?_
  refine pk_putiN (n9 := 5) (i := 1) A rfl hH8 hS8 (fw_X7_28_6 _) rfl (by omega) (by decide) (by decide) dX7_init_43 ?_
  intro H9 locs9 hH9 hS9
  refine lv_aload_n A.1 A.2.1 dX7_init_46 rfl (lv_at hls 0 rfl) ?_
  refine lv_iconst (v := (0 : Int32)) A.1 A.2.1 dX7_init_47 (by decide) ?_
  refine pk_putiN (n9 := 5) (i := 1) A rfl hH9 hS9 (fw_X7_31_6 _) rfl (by omega) (by decide) (by decide) dX7_init_48 ?_
  intro H10 locs10 hH10 hS10
  refine lv_aload_n A.1 A.2.1 dX7_init_51 rfl (lv_at hls 0 rfl) ?_
  refine lv_iconst (v := (-1 : Int32)) A.1 A.2.1 dX7_init_52 (by decide) ?_
  refine pk_putiN (n9 := 5) (i := 1) A rfl hH10 hS10 (fw_X7_34_6 _) rfl (by omega) (by decide) (by decide) dX7_init_53 ?_
  intro H11 locs11 hH11 hS11
  exact pk_ret A hH11 hS11 rfl dX7_init_56
def gX4 (a : Nat) (Y : pk_Y) : pk_Y := (pk_ref Y a 0)
theorem kc_X4 (Γ : pn_G) (a ci n0 : Nat) (Y : pk_Y) (hn0 : Y.1 = n0) (hi : a < n0) (hF : ∀ b : Nat, pk_FW RX4 9 ci 0 (.ref b)) (hK : pn_K a = ci) (hR : pn_R a 0 = some 1) : pk_C Γ 0 mX4_init [.ref (pn_b Γ + a), .ref (pn_b Γ + 1)] Y (gX4 a Y) 0 0 := by
  refine pk_of (by decide +kernel) ?_ (Nat.le_of_ble_eq_true rfl)
  intro p e R s m below meth c ls A hH0 hN0 hc hs hf hl hls
  have hS0 : va_S (pn_A Γ) s.heap s.heap [] := va_S.rf
  refine lv_aload_n A.1 A.2.1 dX4_init_0 rfl (lv_at hls 0 rfl) ?_
  refine pk_obj A oj_X4 hls.1 dX4_init_1 (Nat.le_of_ble_eq_true rfl) (by omega) (by omega) ?_
  refine lv_aload_n A.1 A.2.1 dX4_init_4 rfl (lv_at hls 0 rfl) ?_
  refine lv_aload_n A.1 A.2.1 dX4_init_5 rfl (lv_at hls 1 rfl) ?_
  refine pk_putrN (n9 := n0) A rfl hH0 hS0 (hF _) hn0 hi hK hR dX4_init_6 ?_
  intro H1 locs1 hH1 hS1
  exact pk_ret A hH1 hS1 rfl dX4_init_9
def gX9 (Y : pk_Y) : pk_Y := (pk_ref (gX4 35 Y) 35 1)
theorem kc_X9 (Γ : pn_G) (Y : pk_Y) (hY : Y.1 = 36) : pk_C Γ 1 mX9_init [.ref (pn_b Γ + 35), .ref (pn_b Γ + 1), .ref (pn_b Γ + 8)] Y (gX9 Y) 0 0 := by
  obtain ⟨n9, F9, σ9⟩ := Y
  have hY : n9 = 36 := hY
  subst hY
  refine pk_of (by decide +kernel) ?_ (Nat.le_of_ble_eq_true rfl)
  intro p e R s m below meth c ls A hH0 hN0 hc hs hf hl hls
  have hS0 : va_S (pn_A Γ) s.heap s.heap [] := va_S.rf
  refine lv_aload_n A.1 A.2.1 dX9_init_0 rfl (lv_at hls 0 rfl) ?_
  refine lv_aload_n A.1 A.2.1 dX9_init_1 rfl (lv_at hls 1 rfl) ?_
  refine pk_call (As := [.ref (pn_b Γ + 1)]) A hH0 hS0 hN0 li_X9_3 (kc_X4 Γ 35 8 36 _ rfl (by decide) fw_X4_9_8 (by decide) (by decide)) rfl rfl hls.1 rfl (Nat.le_of_ble_eq_true rfl) dX9_init_2 (by omega) (by omega) (by omega) (by omega) ?_
  intro H1 locs1 hH1 hS1 hN1
  refine lv_aload_n A.1 A.2.1 dX9_init_5 rfl (lv_at hls 0 rfl) ?_
  refine lv_aload_n A.1 A.2.1 dX9_init_6 rfl (lv_at hls 2 rfl) ?_
  refine pk_putrN (n9 := 36) (t := 8) (i := 35) A rfl hH1 hS1 (fw_X9_9_8 _) rfl (by omega) (by decide) (by decide) dX9_init_7 ?_
  intro H2 locs2 hH2 hS2
  exact pk_ret A hH2 hS2 rfl dX9_init_10
def gX3 (Y : pk_Y) : pk_Y := (pk_ref (gX4 36 Y) 36 1)
theorem kc_X3 (Γ : pn_G) (Y : pk_Y) (hY : Y.1 = 37) : pk_C Γ 1 mX3_init [.ref (pn_b Γ + 36), .ref (pn_b Γ + 1), .ref (pn_b Γ + 21)] Y (gX3 Y) 0 0 := by
  obtain ⟨n9, F9, σ9⟩ := Y
  have hY : n9 = 37 := hY
  subst hY
  refine pk_of (by decide +kernel) ?_ (Nat.le_of_ble_eq_true rfl)
  intro p e R s m below meth c ls A hH0 hN0 hc hs hf hl hls
  have hS0 : va_S (pn_A Γ) s.heap s.heap [] := va_S.rf
  refine lv_aload_n A.1 A.2.1 dX3_init_0 rfl (lv_at hls 0 rfl) ?_
  refine lv_aload_n A.1 A.2.1 dX3_init_1 rfl (lv_at hls 1 rfl) ?_
  refine pk_call (As := [.ref (pn_b Γ + 1)]) A hH0 hS0 hN0 li_X3_3 (kc_X4 Γ 36 3 37 _ rfl (by decide) fw_X4_9_3 (by decide) (by decide)) rfl rfl hls.1 rfl (Nat.le_of_ble_eq_true rfl) dX3_init_2 (by omega) (by omega) (by omega) (by omega) ?_
  intro H1 locs1 hH1 hS1 hN1
  refine lv_aload_n A.1 A.2.1 dX3_init_5 rfl (lv_at hls 0 rfl) ?_
  refine lv_aload_n A.1 A.2.1 dX3_init_6 rfl (lv_at hls 2 rfl) ?_
  refine pk_putrN (n9 := 37) (t := 21) (i := 36) A rfl hH1 hS1 (fw_X3_9_3 _) rfl (by omega) (by decide) (by decide) dX3_init_7 ?_
  intro H2 locs2 hH2 hS2
  exact pk_ret A hH2 hS2 rfl dX3_init_10
def gX0 (Y : pk_Y) : pk_Y := (pk_int (pk_int (pk_int (pk_int (pk_int (pk_ref (pk_add (pk_ref (pk_add (pk_ref (pk_add Y) 37 0)) 37 1)) 37 2) 37 3 (0 : Int32)) 37 4 (0 : Int32)) 37 5 (0 : Int32)) 37 6 (0 : Int32)) 37 7 (0 : Int32))
theorem kc_X0 (Γ : pn_G) (Y : pk_Y) (hY : Y.1 = 38) : pk_C Γ 0 mX0_init [.ref (pn_b Γ + 37)] Y (gX0 Y) 3 24 := by
  obtain ⟨n9, F9, σ9⟩ := Y
  have hY : n9 = 38 := hY
  subst hY
  refine pk_of (by decide +kernel) ?_ (Nat.le_of_ble_eq_true rfl)
  intro p e R s m below meth c ls A hH0 hN0 hc hs hf hl hls
  have hS0 : va_S (pn_A Γ) s.heap s.heap [] := va_S.rf
  refine lv_aload_n A.1 A.2.1 dX0_init_0 rfl (lv_at hls 0 rfl) ?_
  refine pk_obj A oj_X0 hls.1 dX0_init_1 (Nat.le_of_ble_eq_true rfl) (by omega) (by omega) ?_
  refine lv_aload_n A.1 A.2.1 dX0_init_4 rfl (lv_at hls 0 rfl) ?_
  refine lv_bipush (v := (8 : Int32)) A.1 A.2.1 dX0_init_5 (by decide) ?_
  refine pk_newaN (n9 := 38) (N := 8) A hH0 hS0 hN0 rfl (by decide) (by decide) ac_12 (Or.inl ⟨rfl, rfl⟩) (by decide) (by decide) (by decide) dX0_init_7 (by omega) (by omega) ?_
  intro H1 hH1 hS1 hN1
  refine pk_putrN (n9 := 39) (t := 38) (i := 37) A rfl hH1 hS1 (fw_X0_9_0 _) rfl (by omega) (by decide) (by decide) dX0_init_9 ?_
  intro H2 locs2 hH2 hS2
  refine lv_aload_n A.1 A.2.1 dX0_init_12 rfl (lv_at hls 0 rfl) ?_
  refine lv_bipush (v := (8 : Int32)) A.1 A.2.1 dX0_init_13 (by decide) ?_
  refine pk_newaN (n9 := 39) (N := 8) A hH2 hS2 hN1 rfl (by decide) (by decide) ac_12 (Or.inl ⟨rfl, rfl⟩) (by decide) (by decide) (by decide) dX0_init_15 (by omega) (by omega) ?_
  intro H3 hH3 hS3 hN3
  refine pk_putrN (n9 := 40) (t := 39) (i := 37) A rfl hH3 hS3 (fw_X0_15_0 _) rfl (by omega) (by decide) (by decide) dX0_init_17 ?_
  intro H4 locs4 hH4 hS4
  refine lv_aload_n A.1 A.2.1 dX0_init_20 rfl (lv_at hls 0 rfl) ?_
  refine lv_bipush (v := (8 : Int32)) A.1 A.2.1 dX0_init_21 (by decide) ?_
  refine pk_newaN (n9 := 40) (N := 8) A hH4 hS4 hN3 rfl (by decide) (by decide) ac_12 (Or.inl ⟨rfl, rfl⟩) (by decide) (by decide) (by decide) dX0_init_23 (by omega) (by omega) ?_
  intro H5 hH5 hS5 hN5
  refine pk_putrN (n9 := 41) (t := 40) (i := 37) A rfl hH5 hS5 (fw_X0_18_0 _) rfl (by omega) (by decide) (by decide) dX0_init_25 ?_
  intro H6 locs6 hH6 hS6
  refine lv_aload_n A.1 A.2.1 dX0_init_28 rfl (lv_at hls 0 rfl) ?_
  refine lv_iconst (v := (0 : Int32)) A.1 A.2.1 dX0_init_29 (by decide) ?_
  refine pk_putiN (n9 := 41) (i := 37) A rfl hH6 hS6 (fw_X0_21_0 _) rfl (by omega) (by decide) (by decide) dX0_init_30 ?_
  intro H7 locs7 hH7 hS7
  refine lv_aload_n A.1 A.2.1 dX0_init_33 rfl (lv_at hls 0 rfl) ?_
  refine lv_iconst (v := (0 : Int32)) A.1 A.2.1 dX0_init_34 (by decide) ?_
  refine pk_putiN (n9 := 41) (i := 37) A rfl hH7 hS7 (fw_X0_25_0 _) rfl (by omega) (by decide) (by decide) dX0_init_35 ?_
  intro H8 locs8 hH8 hS8
  refine lv_aload_n A.1 A.2.1 dX0_init_38 rfl (lv_at hls 0 rfl) ?_
  refine lv_iconst (v := (0 : Int32)) A.1 A.2.1 dX0_init_39 (by decide) ?_
  refine pk_putiN (n9 := 41) (i := 37) A rfl hH8 hS8 (fw_X0_28_0 _) rfl (by omega) (by decide) (by decide) dX0_init_40 ?_
  intro H9 locs9 hH9 hS9
  refine lv_aload_n A.1 A.2.1 dX0_init_43 rfl (lv_at hls 0 rfl) ?_
  refine lv_iconst (v := (0 : Int32)) A.1 A.2.1 dX0_init_44 (by decide) ?_
  refine pk_putiN (n9 := 41) (i := 37) A rfl hH9 hS9 (fw_X0_31_0 _) rfl (by omega) (by decide) (by decide) dX0_init_45 ?_
  intro H10 locs10 hH10 hS10
  refine lv_aload_n A.1 A.2.1 dX0_init_48 rfl (lv_at hls 0 rfl) ?_
  refine lv_iconst (v := (0 : Int32)) A.1 A.2.1 dX0_init_49 (by decide) ?_
  refine pk_putiN (n9 := 41) (i := 37) A rfl hH10 hS10 (fw_X0_34_0 _) rfl (by omega) (by decide) (by decide) dX0_init_50 ?_
  intro H11 locs11 hH11 hS11
  exact pk_ret A hH11 hS11 rfl dX0_init_53
def gX5 (Y : pk_Y) : pk_Y := (pk_ref (gX8 76 (pk_add (pk_ref (gX8 73 (pk_add (pk_ref (gX8 70 (pk_add (pk_ref (gX8 67 (pk_add (pk_ref (gX8 64 (pk_add (pk_ref (gX8 61 (pk_add (pk_ref (gX8 58 (pk_add (pk_ref (gX8 55 (pk_add (pk_ref (gX8 52 (pk_add (pk_ref (gX8 49 (pk_add (pk_ref (gX8 46 (pk_add (pk_ref (gX8 43 (pk_add (pk_int (pk_int (pk_ref (pk_add Y) 41 0) 41 1 (0 : Int32)) 41 2 (0 : Int32)))) 42 0))) 42 1))) 42 2))) 42 3))) 42 4))) 42 5))) 42 6))) 42 7))) 42 8))) 42 9))) 42 10))) 42 11)
theorem kc_X5 (Γ : pn_G) (Y : pk_Y) (hY : Y.1 = 42) : pk_C Γ 1 mX5_init [.ref (pn_b Γ + 41)] Y (gX5 Y) 37 3840 := by
  obtain ⟨n9, F9, σ9⟩ := Y
  have hY : n9 = 42 := hY
  subst hY
  refine pk_of (by decide +kernel) ?_ (Nat.le_of_ble_eq_true rfl)
  intro p e R s m below meth c ls A hH0 hN0 hc hs hf hl hls
  have hS0 : va_S (pn_A Γ) s.heap s.heap [] := va_S.rf
  refine lv_aload_n A.1 A.2.1 dX5_init_0 rfl (lv_at hls 0 rfl) ?_
  refine pk_obj A oj_X5 hls.1 dX5_init_1 (Nat.le_of_ble_eq_true rfl) (by omega) (by omega) ?_
  refine lv_aload_n A.1 A.2.1 dX5_init_4 rfl (lv_at hls 0 rfl) ?_
  refine lv_bipush (v := (12 : Int32)) A.1 A.2.1 dX5_init_5 (by decide) ?_
  refine pk_anewN (n9 := 42) A hH0 hS0 hN0 rfl (by decide) (by decide) av_X5 dX5_init_7 (by omega) (by omega) ?_
  intro H1 hH1 hS1 hN1
  refine pk_putrN (n9 := 43) (t := 42) (i := 41) A rfl hH1 hS1 (fw_X5_11_4 _) rfl (by omega) (by decide) (by decide) dX5_init_10 ?_
  intro H2 locs2 hH2 hS2
  refine lv_aload_n A.1 A.2.1 dX5_init_13 rfl (lv_at hls 0 rfl) ?_
  refine lv_iconst (v := (0 : Int32)) A.1 A.2.1 dX5_init_14 (by decide) ?_
  refine pk_putiN (n9 := 43) (i := 41) A rfl hH2 hS2 (fw_X5_17_4 _) rfl (by omega) (by decide) (by decide) dX5_init_15 ?_
  intro H3 locs3 hH3 hS3
  refine lv_aload_n A.1 A.2.1 dX5_init_18 rfl (lv_at hls 0 rfl) ?_
  refine lv_iconst (v := (0 : Int32)) A.1 A.2.1 dX5_init_19 (by decide) ?_
  refine pk_putiN (n9 := 43) (i := 41) A rfl hH3 hS3 (fw_X5_21_4 _) rfl (by omega) (by decide) (by decide) dX5_init_20 ?_
  intro H4 locs4 hH4 hS4
  refine lv_iconst (v := (0 : Int32)) A.1 A.2.1 dX5_init_23 (by decide) ?_
  refine lv_istore_n A.1 A.2.1 dX5_init_24 rfl hls (Nat.le_of_ble_eq_true rfl) rfl ?_
  intro ls5 hl5
  refine lv_iload_n A.1 A.2.1 dX5_init_25 rfl (lv_at hl5 0 rfl) ?_
  refine lv_bipush (v := (12 : Int32)) A.1 A.2.1 dX5_init_26 (by decide) ?_
  refine lv_icmp_ge (tgt := 50) A.1 A.2.1 dX5_init_28 rfl (fun h => absurd h (by decide)) (fun _ => ?_)
  refine lv_aload_n A.1 A.2.1 dX5_init_31 rfl (lv_at hl5 1 rfl) ?_
  refine pk_getrN (n9 := 43) (t := 42) (i := 41) A hH4 (Or.inr (fw_X5_11_4 0)) rfl (by omega) (by decide) (by decide) rfl dX5_init_32 ?_
  refine lv_iload_n A.1 A.2.1 dX5_init_35 rfl (lv_at hl5 0 rfl) ?_
  refine pk_newN (n9 := 43) A hH4 hS4 hN1 nw_X5_9 rfl (by decide) (by decide) (NN := 15) rfl dX5_init_36 (by omega) (by omega) ?_
  intro H6 hH6 hS6 hN6
  refine lv_dup A.1 A.2.1 dX5_init_39 rfl ?_
  refine pk_call (As := []) A hH6 hS6 hN6 li_X5_24 (kc_X8 Γ 43 qv_43 _ rfl) rfl rfl hl5.1 rfl (Nat.le_of_ble_eq_true rfl) dX5_init_40 (by omega) (by omega) (by omega) (by omega) ?_
  intro H7 locs7 hH7 hS7 hN7
  refine pk_aastN (n9 := 46) (j := 0) (v := 43) (i := 42) A hH7 hS7 rfl (by omega) (by decide) (by decide) (by decide) (by decide) (by omega) (by decide) (by decide) dX5_init_43 ?_
  intro H8 locs8 hH8 hS8
  refine lv_iinc (v := (1 : Int32)) A.1 A.2.1 dX5_init_44 hl5 (k := 0) rfl (by decide) (Nat.le_of_ble_eq_true rfl) rfl ?_
  intro ls9 hl9
  refine lv_goto (tgt := 25) A.1 A.2.1 dX5_init_47 rfl ?_
  refine lv_iload_n A.1 A.2.1 dX5_init_25 rfl (lv_at hl9 0 rfl) ?_
  refine lv_bipush (v := (12 : Int32)) A.1 A.2.1 dX5_init_26 (by decide) ?_
  refine lv_icmp_ge (tgt := 50) A.1 A.2.1 dX5_init_28 rfl (fun h => absurd h (by decide)) (fun _ => ?_)
  refine lv_aload_n A.1 A.2.1 dX5_init_31 rfl (lv_at hl9 1 rfl) ?_
  refine pk_getrN (n9 := 46) (t := 42) (i := 41) A hH8 (Or.inr (fw_X5_11_4 0)) rfl (by omega) (by decide) (by decide) rfl dX5_init_32 ?_
  refine lv_iload_n A.1 A.2.1 dX5_init_35 rfl (lv_at hl9 0 rfl) ?_
  refine pk_newN (n9 := 46) A hH8 hS8 hN7 nw_X5_9 rfl (by decide) (by decide) (NN := 15) rfl dX5_init_36 (by omega) (by omega) ?_
  intro H10 hH10 hS10 hN10
  refine lv_dup A.1 A.2.1 dX5_init_39 rfl ?_
  refine pk_call (As := []) A hH10 hS10 hN10 li_X5_24 (kc_X8 Γ 46 qv_46 _ rfl) rfl rfl hl9.1 rfl (Nat.le_of_ble_eq_true rfl) dX5_init_40 (by omega) (by omega) (by omega) (by omega) ?_
  intro H11 locs11 hH11 hS11 hN11
  refine pk_aastN (n9 := 49) (j := 1) (v := 46) (i := 42) A hH11 hS11 rfl (by omega) (by decide) (by decide) (by decide) (by decide) (by omega) (by decide) (by decide) dX5_init_43 ?_
  intro H12 locs12 hH12 hS12
  refine lv_iinc (v := (2 : Int32)) A.1 A.2.1 dX5_init_44 hl9 (k := 0) rfl (by decide) (Nat.le_of_ble_eq_true rfl) rfl ?_
  intro ls13 hl13
  refine lv_goto (tgt := 25) A.1 A.2.1 dX5_init_47 rfl ?_
  refine lv_iload_n A.1 A.2.1 dX5_init_25 rfl (lv_at hl13 0 rfl) ?_
  refine lv_bipush (v := (12 : Int32)) A.1 A.2.1 dX5_init_26 (by decide) ?_
  refine lv_icmp_ge (tgt := 50) A.1 A.2.1 dX5_init_28 rfl (fun h => absurd h (by decide)) (fun _ => ?_)
  refine lv_aload_n A.1 A.2.1 dX5_init_31 rfl (lv_at hl13 1 rfl) ?_
  refine pk_getrN (n9 := 49) (t := 42) (i := 41) A hH12 (Or.inr (fw_X5_11_4 0)) rfl (by omega) (by decide) (by decide) rfl dX5_init_32 ?_
  refine lv_iload_n A.1 A.2.1 dX5_init_35 rfl (lv_at hl13 0 rfl) ?_
  refine pk_newN (n9 := 49) A hH12 hS12 hN11 nw_X5_9 rfl (by decide) (by decide) (NN := 15) rfl dX5_init_36 (by omega) (by omega) ?_
  intro H14 hH14 hS14 hN14
  refine lv_dup A.1 A.2.1 dX5_init_39 rfl ?_
  refine pk_call (As := []) A hH14 hS14 hN14 li_X5_24 (kc_X8 Γ 49 qv_49 _ rfl) rfl rfl hl13.1 rfl (Nat.le_of_ble_eq_true rfl) dX5_init_40 (by omega) (by omega) (by omega) (by omega) ?_
  intro H15 locs15 hH15 hS15 hN15
  refine pk_aastN (n9 := 52) (j := 2) (v := 49) (i := 42) A hH15 hS15 rfl (by omega) (by decide) (by decide) (by decide) (by decide) (by omega) (by decide) (by decide) dX5_init_43 ?_
  intro H16 locs16 hH16 hS16
  refine lv_iinc (v := (3 : Int32)) A.1 A.2.1 dX5_init_44 hl13 (k := 0) rfl (by decide) (Nat.le_of_ble_eq_true rfl) rfl ?_
  intro ls17 hl17
  refine lv_goto (tgt := 25) A.1 A.2.1 dX5_init_47 rfl ?_
  refine lv_iload_n A.1 A.2.1 dX5_init_25 rfl (lv_at hl17 0 rfl) ?_
  refine lv_bipush (v := (12 : Int32)) A.1 A.2.1 dX5_init_26 (by decide) ?_
  refine lv_icmp_ge (tgt := 50) A.1 A.2.1 dX5_init_28 rfl (fun h => absurd h (by decide)) (fun _ => ?_)
  refine lv_aload_n A.1 A.2.1 dX5_init_31 rfl (lv_at hl17 1 rfl) ?_
  refine pk_getrN (n9 := 52) (t := 42) (i := 41) A hH16 (Or.inr (fw_X5_11_4 0)) rfl (by omega) (by decide) (by decide) rfl dX5_init_32 ?_
  refine lv_iload_n A.1 A.2.1 dX5_init_35 rfl (lv_at hl17 0 rfl) ?_
  refine pk_newN (n9 := 52) A hH16 hS16 hN15 nw_X5_9 rfl (by decide) (by decide) (NN := 15) rfl dX5_init_36 (by omega) (by omega) ?_
  intro H18 hH18 hS18 hN18
  refine lv_dup A.1 A.2.1 dX5_init_39 rfl ?_
  refine pk_call (As := []) A hH18 hS18 hN18 li_X5_24 (kc_X8 Γ 52 qv_52 _ rfl) rfl rfl hl17.1 rfl (Nat.le_of_ble_eq_true rfl) dX5_init_40 (by omega) (by omega) (by omega) (by omega) ?_
  intro H19 locs19 hH19 hS19 hN19
  refine pk_aastN (n9 := 55) (j := 3) (v := 52) (i := 42) A hH19 hS19 rfl (by omega) (by decide) (by decide) (by decide) (by decide) (by omega) (by decide) (by decide) dX5_init_43 ?_
  intro H20 locs20 hH20 hS20
  refine lv_iinc (v := (4 : Int32)) A.1 A.2.1 dX5_init_44 hl17 (k := 0) rfl (by decide) (Nat.le_of_ble_eq_true rfl) rfl ?_
  intro ls21 hl21
  refine lv_goto (tgt := 25) A.1 A.2.1 dX5_init_47 rfl ?_
  refine lv_iload_n A.1 A.2.1 dX5_init_25 rfl (lv_at hl21 0 rfl) ?_
  refine lv_bipush (v := (12 : Int32)) A.1 A.2.1 dX5_init_26 (by decide) ?_
  refine lv_icmp_ge (tgt := 50) A.1 A.2.1 dX5_init_28 rfl (fun h => absurd h (by decide)) (fun _ => ?_)
  refine lv_aload_n A.1 A.2.1 dX5_init_31 rfl (lv_at hl21 1 rfl) ?_
  refine pk_getrN (n9 := 55) (t := 42) (i := 41) A hH20 (Or.inr (fw_X5_11_4 0)) rfl (by omega) (by decide) (by decide) rfl dX5_init_32 ?_
  refine lv_iload_n A.1 A.2.1 dX5_init_35 rfl (lv_at hl21 0 rfl) ?_
  refine pk_newN (n9 := 55) A hH20 hS20 hN19 nw_X5_9 rfl (by decide) (by decide) (NN := 15) rfl dX5_init_36 (by omega) (by omega) ?_
  intro H22 hH22 hS22 hN22
  refine lv_dup A.1 A.2.1 dX5_init_39 rfl ?_
  refine pk_call (As := []) A hH22 hS22 hN22 li_X5_24 (kc_X8 Γ 55 qv_55 _ rfl) rfl rfl hl21.1 rfl (Nat.le_of_ble_eq_true rfl) dX5_init_40 (by omega) (by omega) (by omega) (by omega) ?_
  intro H23 locs23 hH23 hS23 hN23
  refine pk_aastN (n9 := 58) (j := 4) (v := 55) (i := 42) A hH23 hS23 rfl (by omega) (by decide) (by decide) (by decide) (by decide) (by omega) (by decide) (by decide) dX5_init_43 ?_
  intro H24 locs24 hH24 hS24
  refine lv_iinc (v := (5 : Int32)) A.1 A.2.1 dX5_init_44 hl21 (k := 0) rfl (by decide) (Nat.le_of_ble_eq_true rfl) rfl ?_
  intro ls25 hl25
  refine lv_goto (tgt := 25) A.1 A.2.1 dX5_init_47 rfl ?_
  refine lv_iload_n A.1 A.2.1 dX5_init_25 rfl (lv_at hl25 0 rfl) ?_
  refine lv_bipush (v := (12 : Int32)) A.1 A.2.1 dX5_init_26 (by decide) ?_
  refine lv_icmp_ge (tgt := 50) A.1 A.2.1 dX5_init_28 rfl (fun h => absurd h (by decide)) (fun _ => ?_)
  refine lv_aload_n A.1 A.2.1 dX5_init_31 rfl (lv_at hl25 1 rfl) ?_
  refine pk_getrN (n9 := 58) (t := 42) (i := 41) A hH24 (Or.inr (fw_X5_11_4 0)) rfl (by omega) (by decide) (by decide) rfl dX5_init_32 ?_
  refine lv_iload_n A.1 A.2.1 dX5_init_35 rfl (lv_at hl25 0 rfl) ?_
  refine pk_newN (n9 := 58) A hH24 hS24 hN23 nw_X5_9 rfl (by decide) (by decide) (NN := 15) rfl dX5_init_36 (by omega) (by omega) ?_
  intro H26 hH26 hS26 hN26
  refine lv_dup A.1 A.2.1 dX5_init_39 rfl ?_
  refine pk_call (As := []) A hH26 hS26 hN26 li_X5_24 (kc_X8 Γ 58 qv_58 _ rfl) rfl rfl hl25.1 rfl (Nat.le_of_ble_eq_true rfl) dX5_init_40 (by omega) (by omega) (by omega) (by omega) ?_
  intro H27 locs27 hH27 hS27 hN27
  refine pk_aastN (n9 := 61) (j := 5) (v := 58) (i := 42) A hH27 hS27 rfl (by omega) (by decide) (by decide) (by decide) (by decide) (by omega) (by decide) (by decide) dX5_init_43 ?_
  intro H28 locs28 hH28 hS28
  refine lv_iinc (v := (6 : Int32)) A.1 A.2.1 dX5_init_44 hl25 (k := 0) rfl (by decide) (Nat.le_of_ble_eq_true rfl) rfl ?_
  intro ls29 hl29
  refine lv_goto (tgt := 25) A.1 A.2.1 dX5_init_47 rfl ?_
  refine lv_iload_n A.1 A.2.1 dX5_init_25 rfl (lv_at hl29 0 rfl) ?_
  refine lv_bipush (v := (12 : Int32)) A.1 A.2.1 dX5_init_26 (by decide) ?_
  refine lv_icmp_ge (tgt := 50) A.1 A.2.1 dX5_init_28 rfl (fun h => absurd h (by decide)) (fun _ => ?_)
  refine lv_aload_n A.1 A.2.1 dX5_init_31 rfl (lv_at hl29 1 rfl) ?_
  refine pk_getrN (n9 := 61) (t := 42) (i := 41) A hH28 (Or.inr (fw_X5_11_4 0)) rfl (by omega) (by decide) (by decide) rfl dX5_init_32 ?_
  refine lv_iload_n A.1 A.2.1 dX5_init_35 rfl (lv_at hl29 0 rfl) ?_
  refine pk_newN (n9 := 61) A hH28 hS28 hN27 nw_X5_9 rfl (by decide) (by decide) (NN := 15) rfl dX5_init_36 (by omega) (by omega) ?_
  intro H30 hH30 hS30 hN30
  refine lv_dup A.1 A.2.1 dX5_init_39 rfl ?_
  refine pk_call (As := []) A hH30 hS30 hN30 li_X5_24 (kc_X8 Γ 61 qv_61 _ rfl) rfl rfl hl29.1 rfl (Nat.le_of_ble_eq_true rfl) dX5_init_40 (by omega) (by omega) (by omega) (by omega) ?_
  intro H31 locs31 hH31 hS31 hN31
  refine pk_aastN (n9 := 64) (j := 6) (v := 61) (i := 42) A hH31 hS31 rfl (by omega) (by decide) (by decide) (by decide) (by decide) (by omega) (by decide) (by decide) dX5_init_43 ?_
  intro H32 locs32 hH32 hS32
  refine lv_iinc (v := (7 : Int32)) A.1 A.2.1 dX5_init_44 hl29 (k := 0) rfl (by decide) (Nat.le_of_ble_eq_true rfl) rfl ?_
  intro ls33 hl33
  refine lv_goto (tgt := 25) A.1 A.2.1 dX5_init_47 rfl ?_
  refine lv_iload_n A.1 A.2.1 dX5_init_25 rfl (lv_at hl33 0 rfl) ?_
  refine lv_bipush (v := (12 : Int32)) A.1 A.2.1 dX5_init_26 (by decide) ?_
  refine lv_icmp_ge (tgt := 50) A.1 A.2.1 dX5_init_28 rfl (fun h => absurd h (by decide)) (fun _ => ?_)
  refine lv_aload_n A.1 A.2.1 dX5_init_31 rfl (lv_at hl33 1 rfl) ?_
  refine pk_getrN (n9 := 64) (t := 42) (i := 41) A hH32 (Or.inr (fw_X5_11_4 0)) rfl (by omega) (by decide) (by decide) rfl dX5_init_32 ?_
  refine lv_iload_n A.1 A.2.1 dX5_init_35 rfl (lv_at hl33 0 rfl) ?_
  refine pk_newN (n9 := 64) A hH32 hS32 hN31 nw_X5_9 rfl (by decide) (by decide) (NN := 15) rfl dX5_init_36 (by omega) (by omega) ?_
  intro H34 hH34 hS34 hN34
  refine lv_dup A.1 A.2.1 dX5_init_39 rfl ?_
  refine pk_call (As := []) A hH34 hS34 hN34 li_X5_24 (kc_X8 Γ 64 qv_64 _ rfl) rfl rfl hl33.1 rfl (Nat.le_of_ble_eq_true rfl) dX5_init_40 (by omega) (by omega) (by omega) (by omega) ?_
  intro H35 locs35 hH35 hS35 hN35
  refine pk_aastN (n9 := 67) (j := 7) (v := 64) (i := 42) A hH35 hS35 rfl (by omega) (by decide) (by decide) (by decide) (by decide) (by omega) (by decide) (by decide) dX5_init_43 ?_
  intro H36 locs36 hH36 hS36
  refine lv_iinc (v := (8 : Int32)) A.1 A.2.1 dX5_init_44 hl33 (k := 0) rfl (by decide) (Nat.le_of_ble_eq_true rfl) rfl ?_
  intro ls37 hl37
  refine lv_goto (tgt := 25) A.1 A.2.1 dX5_init_47 rfl ?_
  refine lv_iload_n A.1 A.2.1 dX5_init_25 rfl (lv_at hl37 0 rfl) ?_
  refine lv_bipush (v := (12 : Int32)) A.1 A.2.1 dX5_init_26 (by decide) ?_
  refine lv_icmp_ge (tgt := 50) A.1 A.2.1 dX5_init_28 rfl (fun h => absurd h (by decide)) (fun _ => ?_)
  refine lv_aload_n A.1 A.2.1 dX5_init_31 rfl (lv_at hl37 1 rfl) ?_
  refine pk_getrN (n9 := 67) (t := 42) (i := 41) A hH36 (Or.inr (fw_X5_11_4 0)) rfl (by omega) (by decide) (by decide) rfl dX5_init_32 ?_
  refine lv_iload_n A.1 A.2.1 dX5_init_35 rfl (lv_at hl37 0 rfl) ?_
  refine pk_newN (n9 := 67) A hH36 hS36 hN35 nw_X5_9 rfl (by decide) (by decide) (NN := 15) rfl dX5_init_36 (by omega) (by omega) ?_
  intro H38 hH38 hS38 hN38
  refine lv_dup A.1 A.2.1 dX5_init_39 rfl ?_
  refine pk_call (As := []) A hH38 hS38 hN38 li_X5_24 (kc_X8 Γ 67 qv_67 _ rfl) rfl rfl hl37.1 rfl (Nat.le_of_ble_eq_true rfl) dX5_init_40 (by omega) (by omega) (by omega) (by omega) ?_
  intro H39 locs39 hH39 hS39 hN39
  refine pk_aastN (n9 := 70) (j := 8) (v := 67) (i := 42) A hH39 hS39 rfl (by omega) (by decide) (by decide) (by decide) (by decide) (by omega) (by decide) (by decide) dX5_init_43 ?_
  intro H40 locs40 hH40 hS40
  refine lv_iinc (v := (9 : Int32)) A.1 A.2.1 dX5_init_44 hl37 (k := 0) rfl (by decide) (Nat.le_of_ble_eq_true rfl) rfl ?_
  intro ls41 hl41
  refine lv_goto (tgt := 25) A.1 A.2.1 dX5_init_47 rfl ?_
  refine lv_iload_n A.1 A.2.1 dX5_init_25 rfl (lv_at hl41 0 rfl) ?_
  refine lv_bipush (v := (12 : Int32)) A.1 A.2.1 dX5_init_26 (by decide) ?_
  refine lv_icmp_ge (tgt := 50) A.1 A.2.1 dX5_init_28 rfl (fun h => absurd h (by decide)) (fun _ => ?_)
  refine lv_aload_n A.1 A.2.1 dX5_init_31 rfl (lv_at hl41 1 rfl) ?_
  refine pk_getrN (n9 := 70) (t := 42) (i := 41) A hH40 (Or.inr (fw_X5_11_4 0)) rfl (by omega) (by decide) (by decide) rfl dX5_init_32 ?_
  refine lv_iload_n A.1 A.2.1 dX5_init_35 rfl (lv_at hl41 0 rfl) ?_
  refine pk_newN (n9 := 70) A hH40 hS40 hN39 nw_X5_9 rfl (by decide) (by decide) (NN := 15) rfl dX5_init_36 (by omega) (by omega) ?_
  intro H42 hH42 hS42 hN42
  refine lv_dup A.1 A.2.1 dX5_init_39 rfl ?_
  refine pk_call (As := []) A hH42 hS42 hN42 li_X5_24 (kc_X8 Γ 70 qv_70 _ rfl) rfl rfl hl41.1 rfl (Nat.le_of_ble_eq_true rfl) dX5_init_40 (by omega) (by omega) (by omega) (by omega) ?_
  intro H43 locs43 hH43 hS43 hN43
  refine pk_aastN (n9 := 73) (j := 9) (v := 70) (i := 42) A hH43 hS43 rfl (by omega) (by decide) (by decide) (by decide) (by decide) (by omega) (by decide) (by decide) dX5_init_43 ?_
  intro H44 locs44 hH44 hS44
  refine lv_iinc (v := (10 : Int32)) A.1 A.2.1 dX5_init_44 hl41 (k := 0) rfl (by decide) (Nat.le_of_ble_eq_true rfl) rfl ?_
  intro ls45 hl45
  refine lv_goto (tgt := 25) A.1 A.2.1 dX5_init_47 rfl ?_
  refine lv_iload_n A.1 A.2.1 dX5_init_25 rfl (lv_at hl45 0 rfl) ?_
  refine lv_bipush (v := (12 : Int32)) A.1 A.2.1 dX5_init_26 (by decide) ?_
  refine lv_icmp_ge (tgt := 50) A.1 A.2.1 dX5_init_28 rfl (fun h => absurd h (by decide)) (fun _ => ?_)
  refine lv_aload_n A.1 A.2.1 dX5_init_31 rfl (lv_at hl45 1 rfl) ?_
  refine pk_getrN (n9 := 73) (t := 42) (i := 41) A hH44 (Or.inr (fw_X5_11_4 0)) rfl (by omega) (by decide) (by decide) rfl dX5_init_32 ?_
  refine lv_iload_n A.1 A.2.1 dX5_init_35 rfl (lv_at hl45 0 rfl) ?_
  refine pk_newN (n9 := 73) A hH44 hS44 hN43 nw_X5_9 rfl (by decide) (by decide) (NN := 15) rfl dX5_init_36 (by omega) (by omega) ?_
  intro H46 hH46 hS46 hN46
  refine lv_dup A.1 A.2.1 dX5_init_39 rfl ?_
  refine pk_call (As := []) A hH46 hS46 hN46 li_X5_24 (kc_X8 Γ 73 qv_73 _ rfl) rfl rfl hl45.1 rfl (Nat.le_of_ble_eq_true rfl) dX5_init_40 (by omega) (by omega) (by omega) (by omega) ?_
  intro H47 locs47 hH47 hS47 hN47
  refine pk_aastN (n9 := 76) (j := 10) (v := 73) (i := 42) A hH47 hS47 rfl (by omega) (by decide) (by decide) (by decide) (by decide) (by omega) (by decide) (by decide) dX5_init_43 ?_
  intro H48 locs48 hH48 hS48
  refine lv_iinc (v := (11 : Int32)) A.1 A.2.1 dX5_init_44 hl45 (k := 0) rfl (by decide) (Nat.le_of_ble_eq_true rfl) rfl ?_
  intro ls49 hl49
  refine lv_goto (tgt := 25) A.1 A.2.1 dX5_init_47 rfl ?_
  refine lv_iload_n A.1 A.2.1 dX5_init_25 rfl (lv_at hl49 0 rfl) ?_
  refine lv_bipush (v := (12 : Int32)) A.1 A.2.1 dX5_init_26 (by decide) ?_
  refine lv_icmp_ge (tgt := 50) A.1 A.2.1 dX5_init_28 rfl (fun h => absurd h (by decide)) (fun _ => ?_)
  refine lv_aload_n A.1 A.2.1 dX5_init_31 rfl (lv_at hl49 1 rfl) ?_
  refine pk_getrN (n9 := 76) (t := 42) (i := 41) A hH48 (Or.inr (fw_X5_11_4 0)) rfl (by omega) (by decide) (by decide) rfl dX5_init_32 ?_
  refine lv_iload_n A.1 A.2.1 dX5_init_35 rfl (lv_at hl49 0 rfl) ?_
  refine pk_newN (n9 := 76) A hH48 hS48 hN47 nw_X5_9 rfl (by decide) (by decide) (NN := 15) rfl dX5_init_36 (by omega) (by omega) ?_
  intro H50 hH50 hS50 hN50
  refine lv_dup A.1 A.2.1 dX5_init_39 rfl ?_
  refine pk_call (As := []) A hH50 hS50 hN50 li_X5_24 (kc_X8 Γ 76 qv_76 _ rfl) rfl rfl hl49.1 rfl (Nat.le_of_ble_eq_true rfl) dX5_init_40 (by omega) (by omega) (by omega) (by omega) ?_
  intro H51 locs51 hH51 hS51 hN51
  refine pk_aastN (n9 := 79) (j := 11) (v := 76) (i := 42) A hH51 hS51 rfl (by omega) (by decide) (by decide) (by decide) (by decide) (by omega) (by decide) (by decide) dX5_init_43 ?_
  intro H52 locs52 hH52 hS52
  refine lv_iinc (v := (12 : Int32)) A.1 A.2.1 dX5_init_44 hl49 (k := 0) rfl (by decide) (Nat.le_of_ble_eq_true rfl) rfl ?_
  intro ls53 hl53
  refine lv_goto (tgt := 25) A.1 A.2.1 dX5_init_47 rfl ?_
  refine lv_iload_n A.1 A.2.1 dX5_init_25 rfl (lv_at hl53 0 rfl) ?_
  refine lv_bipush (v := (12 : Int32)) A.1 A.2.1 dX5_init_26 (by decide) ?_
  refine lv_icmp_ge (tgt := 50) A.1 A.2.1 dX5_init_28 rfl (fun _ => ?_) (fun h => absurd (by decide) h)
  exact pk_ret A hH52 hS52 rfl dX5_init_50
def gX6 (Y : pk_Y) : pk_Y := (pk_int (pk_int (pk_ref (pk_add Y) 79 0) 79 1 (0 : Int32)) 79 2 (0 : Int32))
theorem kc_X6 (Γ : pn_G) (Y : pk_Y) (hY : Y.1 = 80) : pk_C Γ 0 mX6_init [.ref (pn_b Γ + 79)] Y (gX6 Y) 1 8 := by
  obtain ⟨n9, F9, σ9⟩ := Y
  have hY : n9 = 80 := hY
  subst hY
  refine pk_of (by decide +kernel) ?_ (Nat.le_of_ble_eq_true rfl)
  intro p e R s m below meth c ls A hH0 hN0 hc hs hf hl hls
  have hS0 : va_S (pn_A Γ) s.heap s.heap [] := va_S.rf
  refine lv_aload_n A.1 A.2.1 dX6_init_0 rfl (lv_at hls 0 rfl) ?_
  refine pk_obj A oj_X6 hls.1 dX6_init_1 (Nat.le_of_ble_eq_true rfl) (by omega) (by omega) ?_
  refine lv_aload_n A.1 A.2.1 dX6_init_4 rfl (lv_at hls 0 rfl) ?_
  refine lv_bipush (v := (8 : Int32)) A.1 A.2.1 dX6_init_5 (by decide) ?_
  refine pk_newaN (n9 := 80) (N := 8) A hH0 hS0 hN0 rfl (by decide) (by decide) ac_12 (Or.inl ⟨rfl, rfl⟩) (by decide) (by decide) (by decide) dX6_init_7 (by omega) (by omega) ?_
  intro H1 hH1 hS1 hN1
  refine pk_putrN (n9 := 81) (t := 80) (i := 79) A rfl hH1 hS1 (fw_X6_9_5 _) rfl (by omega) (by decide) (by decide) dX6_init_9 ?_
  intro H2 locs2 hH2 hS2
  refine lv_aload_n A.1 A.2.1 dX6_init_12 rfl (lv_at hls 0 rfl) ?_
  refine lv_iconst (v := (0 : Int32)) A.1 A.2.1 dX6_init_13 (by decide) ?_
  refine pk_putiN (n9 := 81) (i := 79) A rfl hH2 hS2 (fw_X6_15_5 _) rfl (by omega) (by decide) (by decide) dX6_init_14 ?_
  intro H3 locs3 hH3 hS3
  refine lv_aload_n A.1 A.2.1 dX6_init_17 rfl (lv_at hls 0 rfl) ?_
  refine lv_iconst (v := (0 : Int32)) A.1 A.2.1 dX6_init_18 (by decide) ?_
  refine pk_putiN (n9 := 81) (i := 79) A rfl hH3 hS3 (fw_X6_19_5 _) rfl (by omega) (by decide) (by decide) dX6_init_19 ?_
  intro H4 locs4 hH4 hS4
  exact pk_ret A hH4 hS4 rfl dX6_init_22
def gX1 (Y : pk_Y) : pk_Y := (pk_ref (pk_add (pk_ref (pk_add Y) 81 0)) 81 1)
theorem kc_X1 (Γ : pn_G) (Y : pk_Y) (hY : Y.1 = 82) : pk_C Γ 0 mX1_init [.ref (pn_b Γ + 81)] Y (gX1 Y) 2 12 := by
  obtain ⟨n9, F9, σ9⟩ := Y
  have hY : n9 = 82 := hY
  subst hY
  refine pk_of (by decide +kernel) ?_ (Nat.le_of_ble_eq_true rfl)
  intro p e R s m below meth c ls A hH0 hN0 hc hs hf hl hls
  have hS0 : va_S (pn_A Γ) s.heap s.heap [] := va_S.rf
  refine lv_aload_n A.1 A.2.1 dX1_init_0 rfl (lv_at hls 0 rfl) ?_
  refine pk_obj A oj_X1 hls.1 dX1_init_1 (Nat.le_of_ble_eq_true rfl) (by omega) (by omega) ?_
  refine lv_aload_n A.1 A.2.1 dX1_init_4 rfl (lv_at hls 0 rfl) ?_
  refine lv_bipush (v := (6 : Int32)) A.1 A.2.1 dX1_init_5 (by decide) ?_
  refine pk_newaN (n9 := 82) (N := 6) A hH0 hS0 hN0 rfl (by decide) (by decide) ac_12 (Or.inl ⟨rfl, rfl⟩) (by decide) (by decide) (by decide) dX1_init_7 (by omega) (by omega) ?_
  intro H1 hH1 hS1 hN1
  refine pk_putrN (n9 := 83) (t := 82) (i := 81) A rfl hH1 hS1 (fw_X1_9_1 _) rfl (by omega) (by decide) (by decide) dX1_init_9 ?_
  intro H2 locs2 hH2 hS2
  refine lv_aload_n A.1 A.2.1 dX1_init_12 rfl (lv_at hls 0 rfl) ?_
  refine lv_bipush (v := (6 : Int32)) A.1 A.2.1 dX1_init_13 (by decide) ?_
  refine pk_newaN (n9 := 83) (N := 6) A hH2 hS2 hN1 rfl (by decide) (by decide) ac_12 (Or.inl ⟨rfl, rfl⟩) (by decide) (by decide) (by decide) dX1_init_15 (by omega) (by omega) ?_
  intro H3 hH3 hS3 hN3
  refine pk_putrN (n9 := 84) (t := 83) (i := 81) A rfl hH3 hS3 (fw_X1_15_1 _) rfl (by omega) (by decide) (by decide) dX1_init_17 ?_
  intro H4 locs4 hH4 hS4
  exact pk_ret A hH4 hS4 rfl dX1_init_20
def gX10 (Y : pk_Y) : pk_Y := (pk_int (pk_int (pk_ref (pk_add (pk_ref (gX1 (pk_add (pk_ref (gX6 (pk_add (pk_ref (gX5 (pk_add (pk_ref (gX0 (pk_add (pk_ref (gX3 (pk_add (pk_ref (gX9 (pk_add (pk_ref (gX2 28 (pk_add (pk_ref (gX2 21 (pk_add (pk_ref (gX2 14 (pk_add (pk_ref (gX8 11 (pk_add (pk_ref (gX8 8 (pk_add (pk_ref (gX8 5 (pk_add (pk_ref (gX7 (pk_add Y)) 0 0))) 0 1))) 0 2))) 0 3))) 0 4))) 0 5))) 0 6))) 0 7))) 0 8))) 0 9))) 0 10))) 0 11))) 0 12)) 0 13) 0 14 (0 : Int32)) 0 15 (-1 : Int32))
theorem kc_X10 (Γ : pn_G) (Y : pk_Y) (hY : Y.1 = 1) : pk_C Γ 2 mX10_init [.ref (pn_b Γ + 0)] Y (gX10 Y) 84 7613 := by
  obtain ⟨n9, F9, σ9⟩ := Y
  have hY : n9 = 1 := hY
  subst hY
  refine pk_of (by decide +kernel) ?_ (Nat.le_of_ble_eq_true rfl)
  intro p e R s m below meth c ls A hH0 hN0 hc hs hf hl hls
  have hS0 : va_S (pn_A Γ) s.heap s.heap [] := va_S.rf
  refine lv_aload_n A.1 A.2.1 dX10_init_0 rfl (lv_at hls 0 rfl) ?_
  refine pk_obj A oj_X10 hls.1 dX10_init_1 (Nat.le_of_ble_eq_true rfl) (by omega) (by omega) ?_
  refine lv_aload_n A.1 A.2.1 dX10_init_4 rfl (lv_at hls 0 rfl) ?_
  refine pk_newN (n9 := 1) A hH0 hS0 hN0 nw_X10_9 rfl (by decide) (by decide) (NN := 8) rfl dX10_init_5 (by omega) (by omega) ?_
  intro H1 hH1 hS1 hN1
  refine lv_dup A.1 A.2.1 dX10_init_8 rfl ?_
  refine pk_call (As := []) A hH1 hS1 hN1 li_X10_11 (kc_X7 Γ _ rfl) rfl rfl hls.1 rfl (Nat.le_of_ble_eq_true rfl) dX10_init_9 (by omega) (by omega) (by omega) (by omega) ?_
  intro H2 locs2 hH2 hS2 hN2
  refine pk_putrN (n9 := 5) (t := 1) (i := 0) A rfl hH2 hS2 (fw_X10_12_9 _) rfl (by omega) (by decide) (by decide) dX10_init_12 ?_
  intro H3 locs3 hH3 hS3
  refine lv_aload_n A.1 A.2.1 dX10_init_15 rfl (lv_at hls 0 rfl) ?_
  refine pk_newN (n9 := 5) A hH3 hS3 hN2 nw_X10_16 rfl (by decide) (by decide) (NN := 15) rfl dX10_init_16 (by omega) (by omega) ?_
  intro H4 hH4 hS4 hN4
  refine lv_dup A.1 A.2.1 dX10_init_19 rfl ?_
  refine pk_call (As := []) A hH4 hS4 hN4 li_X10_18 (kc_X8 Γ 5 qv_5 _ rfl) rfl rfl hls.1 rfl (Nat.le_of_ble_eq_true rfl) dX10_init_20 (by omega) (by omega) (by omega) (by omega) ?_
  intro H5 locs5 hH5 hS5 hN5
  refine pk_putrN (n9 := 8) (t := 5) (i := 0) A rfl hH5 hS5 (fw_X10_19_9 _) rfl (by omega) (by decide) (by decide) dX10_init_23 ?_
  intro H6 locs6 hH6 hS6
  refine lv_aload_n A.1 A.2.1 dX10_init_26 rfl (lv_at hls 0 rfl) ?_
  refine pk_newN (n9 := 8) A hH6 hS6 hN5 nw_X10_16 rfl (by decide) (by decide) (NN := 15) rfl dX10_init_27 (by omega) (by omega) ?_
  intro H7 hH7 hS7 hN7
  refine lv_dup A.1 A.2.1 dX10_init_30 rfl ?_
  refine pk_call (As := []) A hH7 hS7 hN7 li_X10_18 (kc_X8 Γ 8 qv_8 _ rfl) rfl rfl hls.1 rfl (Nat.le_of_ble_eq_true rfl) dX10_init_31 (by omega) (by omega) (by omega) (by omega) ?_
  intro H8 locs8 hH8 hS8 hN8
  refine pk_putrN (n9 := 11) (t := 8) (i := 0) A rfl hH8 hS8 (fw_X10_23_9 _) rfl (by omega) (by decide) (by decide) dX10_init_34 ?_
  intro H9 locs9 hH9 hS9
  refine lv_aload_n A.1 A.2.1 dX10_init_37 rfl (lv_at hls 0 rfl) ?_
  refine pk_newN (n9 := 11) A hH9 hS9 hN8 nw_X10_16 rfl (by decide) (by decide) (NN := 15) rfl dX10_init_38 (by omega) (by omega) ?_
  intro H10 hH10 hS10 hN10
  refine lv_dup A.1 A.2.1 dX10_init_41 rfl ?_
  refine pk_call (As := []) A hH10 hS10 hN10 li_X10_18 (kc_X8 Γ 11 qv_11 _ rfl) rfl rfl hls.1 rfl (Nat.le_of_ble_eq_true rfl) dX10_init_42 (by omega) (by omega) (by omega) (by omega) ?_
  intro H11 locs11 hH11 hS11 hN11
  refine pk_putrN (n9 := 14) (t := 11) (i := 0) A rfl hH11 hS11 (fw_X10_26_9 _) rfl (by omega) (by decide) (by decide) dX10_init_45 ?_
  intro H12 locs12 hH12 hS12
  refine lv_aload_n A.1 A.2.1 dX10_init_48 rfl (lv_at hls 0 rfl) ?_
  refine pk_newN (n9 := 14) A hH12 hS12 hN11 nw_X10_29 rfl (by decide) (by decide) (NN := 11) rfl dX10_init_49 (by omega) (by omega) ?_
  intro H13 hH13 hS13 hN13
  refine lv_dup A.1 A.2.1 dX10_init_52 rfl ?_
  refine pk_call (As := []) A hH13 hS13 hN13 li_X10_31 (kc_X2 Γ 14 qw_14 _ rfl) rfl rfl hls.1 rfl (Nat.le_of_ble_eq_true rfl) dX10_init_53 (by omega) (by omega) (by omega) (by omega) ?_
  intro H14 locs14 hH14 hS14 hN14
  refine pk_putrN (n9 := 21) (t := 14) (i := 0) A rfl hH14 hS14 (fw_X10_32_9 _) rfl (by omega) (by decide) (by decide) dX10_init_56 ?_
  intro H15 locs15 hH15 hS15
  refine lv_aload_n A.1 A.2.1 dX10_init_59 rfl (lv_at hls 0 rfl) ?_
  refine pk_newN (n9 := 21) A hH15 hS15 hN14 nw_X10_29 rfl (by decide) (by decide) (NN := 11) rfl dX10_init_60 (by omega) (by omega) ?_
  intro H16 hH16 hS16 hN16
  refine lv_dup A.1 A.2.1 dX10_init_63 rfl ?_
  refine pk_call (As := []) A hH16 hS16 hN16 li_X10_31 (kc_X2 Γ 21 qw_21 _ rfl) rfl rfl hls.1 rfl (Nat.le_of_ble_eq_true rfl) dX10_init_64 (by omega) (by omega) (by omega) (by omega) ?_
  intro H17 locs17 hH17 hS17 hN17
  refine pk_putrN (n9 := 28) (t := 21) (i := 0) A rfl hH17 hS17 (fw_X10_36_9 _) rfl (by omega) (by decide) (by decide) dX10_init_67 ?_
  intro H18 locs18 hH18 hS18
  refine lv_aload_n A.1 A.2.1 dX10_init_70 rfl (lv_at hls 0 rfl) ?_
  refine pk_newN (n9 := 28) A hH18 hS18 hN17 nw_X10_29 rfl (by decide) (by decide) (NN := 11) rfl dX10_init_71 (by omega) (by omega) ?_
  intro H19 hH19 hS19 hN19
  refine lv_dup A.1 A.2.1 dX10_init_74 rfl ?_
  refine pk_call (As := []) A hH19 hS19 hN19 li_X10_31 (kc_X2 Γ 28 qw_28 _ rfl) rfl rfl hls.1 rfl (Nat.le_of_ble_eq_true rfl) dX10_init_75 (by omega) (by omega) (by omega) (by omega) ?_
  intro H20 locs20 hH20 hS20 hN20
  refine pk_putrN (n9 := 35) (t := 28) (i := 0) A rfl hH20 hS20 (fw_X10_39_9 _) rfl (by omega) (by decide) (by decide) dX10_init_78 ?_
  intro H21 locs21 hH21 hS21
  refine lv_aload_n A.1 A.2.1 dX10_init_81 rfl (lv_at hls 0 rfl) ?_
  refine pk_newN (n9 := 35) A hH21 hS21 hN20 nw_X10_42 rfl (by decide) (by decide) (NN := 2) rfl dX10_init_82 (by omega) (by omega) ?_
  intro H22 hH22 hS22 hN22
  refine lv_dup A.1 A.2.1 dX10_init_85 rfl ?_
  refine lv_aload_n A.1 A.2.1 dX10_init_86 rfl (lv_at hls 0 rfl) ?_
  refine pk_getrN (n9 := 36) (t := 1) (i := 0) A hH22 (Or.inr (fw_X10_12_9 0)) rfl (by omega) (by decide) (by decide) rfl dX10_init_87 ?_
  refine lv_aload_n A.1 A.2.1 dX10_init_90 rfl (lv_at hls 0 rfl) ?_
  refine pk_getrN (n9 := 36) (t := 8) (i := 0) A hH22 (Or.inr (fw_X10_23_9 0)) rfl (by omega) (by decide) (by decide) rfl dX10_init_91 ?_
  refine pk_call (As := [.ref (pn_b Γ + 1), .ref (pn_b Γ + 8)]) A hH22 hS22 hN22 li_X10_44 (kc_X9 Γ _ rfl) rfl rfl hls.1 rfl (Nat.le_of_ble_eq_true rfl) dX10_init_94 (by omega) (by omega) (by omega) (by omega) ?_
  intro H23 locs23 hH23 hS23 hN23
  refine pk_putrN (n9 := 36) (t := 35) (i := 0) A rfl hH23 hS23 (fw_X10_47_9 _) rfl (by omega) (by decide) (by decide) dX10_init_97 ?_
  intro H24 locs24 hH24 hS24
  refine lv_aload_n A.1 A.2.1 dX10_init_100 rfl (lv_at hls 0 rfl) ?_
  refine pk_newN (n9 := 36) A hH24 hS24 hN23 nw_X10_51 rfl (by decide) (by decide) (NN := 2) rfl dX10_init_101 (by omega) (by omega) ?_
  intro H25 hH25 hS25 hN25
  refine lv_dup A.1 A.2.1 dX10_init_104 rfl ?_
  refine lv_aload_n A.1 A.2.1 dX10_init_105 rfl (lv_at hls 0 rfl) ?_
  refine pk_getrN (n9 := 37) (t := 1) (i := 0) A hH25 (Or.inr (fw_X10_12_9 0)) rfl (by omega) (by decide) (by decide) rfl dX10_init_106 ?_
  refine lv_aload_n A.1 A.2.1 dX10_init_109 rfl (lv_at hls 0 rfl) ?_
  refine pk_getrN (n9 := 37) (t := 21) (i := 0) A hH25 (Or.inr (fw_X10_36_9 0)) rfl (by omega) (by decide) (by decide) rfl dX10_init_110 ?_
  refine pk_call (As := [.ref (pn_b Γ + 1), .ref (pn_b Γ + 21)]) A hH25 hS25 hN25 li_X10_53 (kc_X3 Γ _ rfl) rfl rfl hls.1 rfl (Nat.le_of_ble_eq_true rfl) dX10_init_113 (by omega) (by omega) (by omega) (by omega) ?_
  intro H26 locs26 hH26 hS26 hN26
  refine pk_putrN (n9 := 37) (t := 36) (i := 0) A rfl hH26 hS26 (fw_X10_56_9 _) rfl (by omega) (by decide) (by decide) dX10_init_116 ?_
  intro H27 locs27 hH27 hS27
  refine lv_aload_n A.1 A.2.1 dX10_init_119 rfl (lv_at hls 0 rfl) ?_
  refine pk_newN (n9 := 37) A hH27 hS27 hN26 nw_X10_60 rfl (by decide) (by decide) (NN := 8) rfl dX10_init_120 (by omega) (by omega) ?_
  intro H28 hH28 hS28 hN28
  refine lv_dup A.1 A.2.1 dX10_init_123 rfl ?_
  refine pk_call (As := []) A hH28 hS28 hN28 li_X10_62 (kc_X0 Γ _ rfl) rfl rfl hls.1 rfl (Nat.le_of_ble_eq_true rfl) dX10_init_124 (by omega) (by omega) (by omega) (by omega) ?_
  intro H29 locs29 hH29 hS29 hN29
  refine pk_putrN (n9 := 41) (t := 37) (i := 0) A rfl hH29 hS29 (fw_X10_63_9 _) rfl (by omega) (by decide) (by decide) dX10_init_127 ?_
  intro H30 locs30 hH30 hS30
  refine lv_aload_n A.1 A.2.1 dX10_init_130 rfl (lv_at hls 0 rfl) ?_
  refine pk_newN (n9 := 41) A hH30 hS30 hN29 nw_X10_67 rfl (by decide) (by decide) (NN := 3) rfl dX10_init_131 (by omega) (by omega) ?_
  intro H31 hH31 hS31 hN31
  refine lv_dup A.1 A.2.1 dX10_init_134 rfl ?_
  refine pk_call (As := []) A hH31 hS31 hN31 li_X10_69 (kc_X5 Γ _ rfl) rfl rfl hls.1 rfl (Nat.le_of_ble_eq_true rfl) dX10_init_135 (by omega) (by omega) (by omega) (by omega) ?_
  intro H32 locs32 hH32 hS32 hN32
  refine pk_putrN (n9 := 79) (t := 41) (i := 0) A rfl hH32 hS32 (fw_X10_70_9 _) rfl (by omega) (by decide) (by decide) dX10_init_138 ?_
  intro H33 locs33 hH33 hS33
  refine lv_aload_n A.1 A.2.1 dX10_init_141 rfl (lv_at hls 0 rfl) ?_
  refine pk_newN (n9 := 79) A hH33 hS33 hN32 nw_X10_74 rfl (by decide) (by decide) (NN := 3) rfl dX10_init_142 (by omega) (by omega) ?_
  intro H34 hH34 hS34 hN34
  refine lv_dup A.1 A.2.1 dX10_init_145 rfl ?_
  refine pk_call (As := []) A hH34 hS34 hN34 li_X10_76 (kc_X6 Γ _ rfl) rfl rfl hls.1 rfl (Nat.le_of_ble_eq_true rfl) dX10_init_146 (by omega) (by omega) (by omega) (by omega) ?_
  intro H35 locs35 hH35 hS35 hN35
  refine pk_putrN (n9 := 81) (t := 79) (i := 0) A rfl hH35 hS35 (fw_X10_77_9 _) rfl (by omega) (by decide) (by decide) dX10_init_149 ?_
  intro H36 locs36 hH36 hS36
  refine lv_aload_n A.1 A.2.1 dX10_init_152 rfl (lv_at hls 0 rfl) ?_
  refine pk_newN (n9 := 81) A hH36 hS36 hN35 nw_X10_81 rfl (by decide) (by decide) (NN := 2) rfl dX10_init_153 (by omega) (by omega) ?_
  intro H37 hH37 hS37 hN37
  refine lv_dup A.1 A.2.1 dX10_init_156 rfl ?_
  refine pk_call (As := []) A hH37 hS37 hN37 li_X10_83 (kc_X1 Γ _ rfl) rfl rfl hls.1 rfl (Nat.le_of_ble_eq_true rfl) dX10_init_157 (by omega) (by omega) (by omega) (by omega) ?_
  intro H38 locs38 hH38 hS38 hN38
  refine pk_putrN (n9 := 84) (t := 81) (i := 0) A rfl hH38 hS38 (fw_X10_84_9 _) rfl (by omega) (by decide) (by decide) dX10_init_160 ?_
  intro H39 locs39 hH39 hS39
  refine lv_aload_n A.1 A.2.1 dX10_init_163 rfl (lv_at hls 0 rfl) ?_
  refine lv_bipush (v := (21 : Int32)) A.1 A.2.1 dX10_init_164 (by decide) ?_
  refine pk_newaN (n9 := 84) (N := 21) A hH39 hS39 hN38 rfl (by decide) (by decide) ac_12 (Or.inl ⟨rfl, rfl⟩) (by decide) (by decide) (by decide) dX10_init_166 (by omega) (by omega) ?_
  intro H40 hH40 hS40 hN40
  refine pk_putrN (n9 := 85) (t := 84) (i := 0) A rfl hH40 hS40 (fw_X10_88_9 _) rfl (by omega) (by decide) (by decide) dX10_init_168 ?_
  intro H41 locs41 hH41 hS41
  refine lv_aload_n A.1 A.2.1 dX10_init_171 rfl (lv_at hls 0 rfl) ?_
  refine lv_iconst (v := (0 : Int32)) A.1 A.2.1 dX10_init_172 (by decide) ?_
  refine pk_putiN (n9 := 85) (i := 0) A rfl hH41 hS41 (fw_X10_92_9) rfl (by omega) (by decide) (by decide) dX10_init_173 ?_
  intro H42 locs42 hH42 hS42
  refine lv_aload_n A.1 A.2.1 dX10_init_176 rfl (lv_at hls 0 rfl) ?_
  refine lv_iconst (v := (-1 : Int32)) A.1 A.2.1 dX10_init_177 (by decide) ?_
  refine pk_putiN (n9 := 85) (i := 0) A rfl hH42 hS42 (fw_X10_96_9 _) rfl (by omega) (by decide) (by decide) dX10_init_178 ?_
  intro H43 locs43 hH43 hS43
  exact pk_ret A hH43 hS43 rfl dX10_init_181
def gX11 (Y : pk_Y) : pk_Y := (pk_int (pk_int (pk_int (pk_int (pk_ref (pk_add (pk_ref (pk_add (pk_ref (pk_add (pk_ref (pk_add (pk_int (pk_ref (pk_add (pk_ref (pk_add (pk_ref (pk_add (pk_ref (pk_add (pk_ref (pk_add (pk_ref (pk_add Y) 85 1)) 85 2)) 85 3)) 85 4)) 85 5)) 85 8) 85 14 (-1 : Int32))) 85 15)) 85 17)) 85 18)) 85 19) 86 5 (-1 : Int32)) 86 9 (3 : Int32)) 86 10 (2 : Int32)) 86 12 (1 : Int32))
theorem kc_X11 (Γ : pn_G) (Y : pk_Y) (hY : Y.1 = 86) : pk_C Γ 0 mX11_init [.ref (pn_b Γ + 85)] Y (gX11 Y) 10 9289 := by
  obtain ⟨n9, F9, σ9⟩ := Y
  have hY : n9 = 86 := hY
  subst hY
  refine pk_of (by decide +kernel) ?_ (Nat.le_of_ble_eq_true rfl)
  intro p e R s m below meth c ls A hH0 hN0 hc hs hf hl hls
  have hS0 : va_S (pn_A Γ) s.heap s.heap [] := va_S.rf
  refine lv_aload_n A.1 A.2.1 dX11_init_0 rfl (lv_at hls 0 rfl) ?_
  refine pk_obj A oj_X11 hls.1 dX11_init_1 (Nat.le_of_ble_eq_true rfl) (by omega) (by omega) ?_
  refine lv_aload_n A.1 A.2.1 dX11_init_4 rfl (lv_at hls 0 rfl) ?_
  refine lv_sipush (v := (2015 : Int32)) A.1 A.2.1 dX11_init_5 (by decide) ?_
  refine pk_newaN (n9 := 86) (N := 2015) A hH0 hS0 hN0 rfl (by decide) (by decide) ac_12 (Or.inl ⟨rfl, rfl⟩) (by decide) (by decide) (by decide) dX11_init_8 (by omega) (by omega) ?_
  intro H1 hH1 hS1 hN1
  refine pk_putrN (n9 := 87) (t := 86) (i := 85) A rfl hH1 hS1 (fw_X11_13_10 _) rfl (by omega) (by decide) (by decide) dX11_init_10 ?_
  intro H2 locs2 hH2 hS2
  refine lv_aload_n A.1 A.2.1 dX11_init_13 rfl (lv_at hls 0 rfl) ?_
  refine lv_sipush (v := (1166 : Int32)) A.1 A.2.1 dX11_init_14 (by decide) ?_
  refine pk_newaN (n9 := 87) (N := 1166) A hH2 hS2 hN1 rfl (by decide) (by decide) ac_12 (Or.inl ⟨rfl, rfl⟩) (by decide) (by decide) (by decide) dX11_init_17 (by omega) (by omega) ?_
  intro H3 hH3 hS3 hN3
  refine pk_putrN (n9 := 88) (t := 87) (i := 85) A rfl hH3 hS3 (fw_X11_17_10 _) rfl (by omega) (by decide) (by decide) dX11_init_19 ?_
  intro H4 locs4 hH4 hS4
  refine lv_aload_n A.1 A.2.1 dX11_init_22 rfl (lv_at hls 0 rfl) ?_
  refine lv_sipush (v := (1166 : Int32)) A.1 A.2.1 dX11_init_23 (by decide) ?_
  refine pk_newaN (n9 := 88) (N := 1166) A hH4 hS4 hN3 rfl (by decide) (by decide) ac_12 (Or.inl ⟨rfl, rfl⟩) (by decide) (by decide) (by decide) dX11_init_26 (by omega) (by omega) ?_
  intro H5 hH5 hS5 hN5
  refine pk_putrN (n9 := 89) (t := 88) (i := 85) A rfl hH5 hS5 (fw_X11_20_10 _) rfl (by omega) (by decide) (by decide) dX11_init_28 ?_
  intro H6 locs6 hH6 hS6
  refine lv_aload_n A.1 A.2.1 dX11_init_31 rfl (lv_at hls 0 rfl) ?_
  refine lv_sipush (v := (317 : Int32)) A.1 A.2.1 dX11_init_32 (by decide) ?_
  refine pk_newaN (n9 := 89) (N := 317) A hH6 hS6 hN5 rfl (by decide) (by decide) ac_12 (Or.inl ⟨rfl, rfl⟩) (by decide) (by decide) (by decide) dX11_init_35 (by omega) (by omega) ?_
  intro H7 hH7 hS7 hN7
  refine pk_putrN (n9 := 90) (t := 89) (i := 85) A rfl hH7 hS7 (fw_X11_23_10 _) rfl (by omega) (by decide) (by decide) dX11_init_37 ?_
  intro H8 locs8 hH8 hS8
  refine lv_aload_n A.1 A.2.1 dX11_init_40 rfl (lv_at hls 0 rfl) ?_
  refine lv_sipush (v := (3804 : Int32)) A.1 A.2.1 dX11_init_41 (by decide) ?_
  refine pk_newaN (n9 := 90) (N := 3804) A hH8 hS8 hN7 rfl (by decide) (by decide) ac_12 (Or.inl ⟨rfl, rfl⟩) (by decide) (by decide) (by decide) dX11_init_44 (by omega) (by omega) ?_
  intro H9 hH9 hS9 hN9
  refine pk_putrN (n9 := 91) (t := 90) (i := 85) A rfl hH9 hS9 (fw_X11_26_10 _) rfl (by omega) (by decide) (by decide) dX11_init_46 ?_
  intro H10 locs10 hH10 hS10
  refine lv_aload_n A.1 A.2.1 dX11_init_49 rfl (lv_at hls 0 rfl) ?_
  refine lv_sipush (v := (400 : Int32)) A.1 A.2.1 dX11_init_50 (by decide) ?_
  refine pk_newaN (n9 := 91) (N := 400) A hH10 hS10 hN9 rfl (by decide) (by decide) ac_11 (Or.inr (Or.inl ⟨rfl, rfl⟩)) (by decide) (by decide) (by decide) dX11_init_53 (by omega) (by omega) ?_
  intro H11 hH11 hS11 hN11
  refine pk_putrN (n9 := 92) (t := 91) (i := 85) A rfl hH11 hS11 (fw_X11_29_10 _) rfl (by omega) (by decide) (by decide) dX11_init_55 ?_
  intro H12 locs12 hH12 hS12
  refine lv_aload_n A.1 A.2.1 dX11_init_58 rfl (lv_at hls 0 rfl) ?_
  refine lv_iconst (v := (-1 : Int32)) A.1 A.2.1 dX11_init_59 (by decide) ?_
  refine pk_putiN (n9 := 92) (i := 85) A rfl hH12 hS12 (fw_X11_33_10 _) rfl (by omega) (by decide) (by decide) dX11_init_60 ?_
  intro H13 locs13 hH13 hS13
  refine lv_aload_n A.1 A.2.1 dX11_init_63 rfl (lv_at hls 0 rfl) ?_
  refine lv_iconst (v := (5 : Int32)) A.1 A.2.1 dX11_init_64 (by decide) ?_
  refine pk_newaN (n9 := 92) (N := 5) A hH13 hS13 hN11 rfl (by decide) (by decide) ac_12 (Or.inl ⟨rfl, rfl⟩) (by decide) (by decide) (by decide) dX11_init_65 (by omega) (by omega) ?_
  intro H14 hH14 hS14 hN14
  refine pk_putrN (n9 := 93) (t := 92) (i := 85) A rfl hH14 hS14 (fw_X11_36_10 _) rfl (by omega) (by decide) (by decide) dX11_init_67 ?_
  intro H15 locs15 hH15 hS15
  refine lv_aload_n A.1 A.2.1 dX11_init_70 rfl (lv_at hls 0 rfl) ?_
  refine lv_sipush (v := (400 : Int32)) A.1 A.2.1 dX11_init_71 (by decide) ?_
  refine pk_newaN (n9 := 93) (N := 400) A hH15 hS15 hN14 rfl (by decide) (by decide) ac_12 (Or.inl ⟨rfl, rfl⟩) (by decide) (by decide) (by decide) dX11_init_74 (by omega) (by omega) ?_
  intro H16 hH16 hS16 hN16
  refine pk_putrN (n9 := 94) (t := 93) (i := 85) A rfl hH16 hS16 (fw_X11_39_10 _) rfl (by omega) (by decide) (by decide) dX11_init_76 ?_
  intro H17 locs17 hH17 hS17
  refine lv_aload_n A.1 A.2.1 dX11_init_79 rfl (lv_at hls 0 rfl) ?_
  refine lv_bipush (v := (8 : Int32)) A.1 A.2.1 dX11_init_80 (by decide) ?_
  refine pk_newaN (n9 := 94) (N := 8) A hH17 hS17 hN16 rfl (by decide) (by decide) ac_12 (Or.inl ⟨rfl, rfl⟩) (by decide) (by decide) (by decide) dX11_init_82 (by omega) (by omega) ?_
  intro H18 hH18 hS18 hN18
  refine pk_putrN (n9 := 95) (t := 94) (i := 85) A rfl hH18 hS18 (fw_X11_42_10 _) rfl (by omega) (by decide) (by decide) dX11_init_84 ?_
  intro H19 locs19 hH19 hS19
  refine lv_aload_n A.1 A.2.1 dX11_init_87 rfl (lv_at hls 0 rfl) ?_
  refine lv_bipush (v := (8 : Int32)) A.1 A.2.1 dX11_init_88 (by decide) ?_
  refine pk_newaN (n9 := 95) (N := 8) A hH19 hS19 hN18 rfl (by decide) (by decide) ac_12 (Or.inl ⟨rfl, rfl⟩) (by decide) (by decide) (by decide) dX11_init_90 (by omega) (by omega) ?_
  intro H20 hH20 hS20 hN20
  refine pk_putrN (n9 := 96) (t := 95) (i := 85) A rfl hH20 hS20 (fw_X11_45_10 _) rfl (by omega) (by decide) (by decide) dX11_init_92 ?_
  intro H21 locs21 hH21 hS21
  refine lv_aload_n A.1 A.2.1 dX11_init_95 rfl (lv_at hls 0 rfl) ?_
  refine pk_getrN (n9 := 96) (t := 86) (i := 85) A hH21 (Or.inr (fw_X11_13_10 0)) rfl (by omega) (by decide) (by decide) rfl dX11_init_96 ?_
  refine lv_iconst (v := (5 : Int32)) A.1 A.2.1 dX11_init_99 (by decide) ?_
  refine lv_iconst (v := (-1 : Int32)) A.1 A.2.1 dX11_init_100 (by decide) ?_
  refine pk_iastN (n9 := 96) (k := 5) (i := 86) A hH21 hS21 rfl (by omega) (by decide) (n := 2015) (by decide) (by decide) (by decide) dX11_init_101 ?_
  intro H22 locs22 hH22 hS22
  refine lv_aload_n A.1 A.2.1 dX11_init_102 rfl (lv_at hls 0 rfl) ?_
  refine pk_getrN (n9 := 96) (t := 86) (i := 85) A hH22 (Or.inr (fw_X11_13_10 0)) rfl (by omega) (by decide) (by decide) rfl dX11_init_103 ?_
  refine lv_bipush (v := (9 : Int32)) A.1 A.2.1 dX11_init_106 (by decide) ?_
  refine lv_iconst (v := (3 : Int32)) A.1 A.2.1 dX11_init_108 (by decide) ?_
  refine pk_iastN (n9 := 96) (k := 9) (i := 86) A hH22 hS22 rfl (by omega) (by decide) (n := 2015) (by decide) (by decide) (by decide) dX11_init_109 ?_
  intro H23 locs23 hH23 hS23
  refine lv_aload_n A.1 A.2.1 dX11_init_110 rfl (lv_at hls 0 rfl) ?_
  refine pk_getrN (n9 := 96) (t := 86) (i := 85) A hH23 (Or.inr (fw_X11_13_10 0)) rfl (by omega) (by decide) (by decide) rfl dX11_init_111 ?_
  refine lv_bipush (v := (10 : Int32)) A.1 A.2.1 dX11_init_114 (by decide) ?_
  refine lv_iconst (v := (2 : Int32)) A.1 A.2.1 dX11_init_116 (by decide) ?_
  refine pk_iastN (n9 := 96) (k := 10) (i := 86) A hH23 hS23 rfl (by omega) (by decide) (n := 2015) (by decide) (by decide) (by decide) dX11_init_117 ?_
  intro H24 locs24 hH24 hS24
  refine lv_aload_n A.1 A.2.1 dX11_init_118 rfl (lv_at hls 0 rfl) ?_
  refine pk_getrN (n9 := 96) (t := 86) (i := 85) A hH24 (Or.inr (fw_X11_13_10 0)) rfl (by omega) (by decide) (by decide) rfl dX11_init_119 ?_
  refine lv_bipush (v := (12 : Int32)) A.1 A.2.1 dX11_init_122 (by decide) ?_
  refine lv_iconst (v := (1 : Int32)) A.1 A.2.1 dX11_init_124 (by decide) ?_
  refine pk_iastN (n9 := 96) (k := 12) (i := 86) A hH24 hS24 rfl (by omega) (by decide) (n := 2015) (by decide) (by decide) (by decide) dX11_init_125 ?_
  intro H25 locs25 hH25 hS25
  exact pk_ret A hH25 hS25 rfl dX11_init_126
def pk_Yend : pk_Y := (pk_add (gX11 (pk_add (gX10 (pk_add pk_Y0)))))
def pk_cells : Nat := 97
def pk_slots : Nat := 16940
section LAW0
variable {p : Program} {e : Env} {R : Room} {s : State} {m : MethodId} {args : Array Value} {below : List Frame} {meth : Method} {c : Code} {Q : State → Prop} {Γ : pn_G} {ls : Array Slot}
theorem pk_law0 (A : pk_A9 Γ mL_law_ p s m args meth c) (hb : pn_b Γ = s.heap.size) (hc : 97 ≤ R.cells) (hs : 16940 ≤ R.slots) (hf : 8 ≤ R.frames) (hl : 600 ≤ R.locals) (hls : lv_has ls 7 [(0, .ref (pn_sc Γ).1)])
    (kk : ∀ (H1 : Heap) (locs1 : List Loc) (ls1 : Array Slot), pk_H Γ pk_Yend H1 → va_S (pn_A Γ) s.heap H1 locs1 → lv_has ls1 7 [(4, .int 0), (3, .ref (pn_b Γ + 96)), (2, .ref (pn_b Γ + 85)), (1, .ref (pn_b Γ + 0)), (0, .ref (pn_sc Γ).1)] → W p (pn_l Γ) e R s m args below meth c H1 locs1 97 16940 Q (F0 m 23 ls1 [])) : W p (pn_l Γ) e R s m args below meth c s.heap [] 0 0 Q (F0 m 0 ls []) := by
  have hS0 : va_S (pn_A Γ) s.heap s.heap [] := va_S.rf
  have hH0 : pk_H Γ pk_Y0 s.heap := fun k q hk => by simp [pk_w, pk_Y0] at hk
  have hN0 : pk_N Γ pk_Y0 s 0 := ⟨by rw [hb]; rfl, by rw [hb]; exact Nat.le_refl _⟩
  refine pk_newN (n9 := 0) A hH0 hS0 hN0 nw_L_8 rfl (by decide) (by decide) (NN := 16) rfl dL_law__0 (by omega) (by omega) ?_
  intro H1 hH1 hS1 hN1
  refine lv_dup A.1 A.2.1 dL_law__3 rfl ?_
  refine pk_call (As := []) A hH1 hS1 hN1 li_L_134 (kc_X10 Γ _ rfl) rfl rfl hls.1 rfl (Nat.le_of_ble_eq_true rfl) dL_law__4 (by omega) (by omega) (by omega) (by omega) ?_
  intro H2 locs2 hH2 hS2 hN2
  refine lv_astore_n A.1 A.2.1 dL_law__7 rfl hls (Nat.le_of_ble_eq_true rfl) rfl ?_
  intro ls3 hl3
  refine pk_newN (n9 := 85) A hH2 hS2 hN2 nw_L_135 rfl (by decide) (by decide) (NN := 21) rfl dL_law__8 (by omega) (by omega) ?_
  intro H4 hH4 hS4 hN4
  refine lv_dup A.1 A.2.1 dL_law__11 rfl ?_
  refine pk_call (As := []) A hH4 hS4 hN4 li_L_137 (kc_X11 Γ _ rfl) rfl rfl hl3.1 rfl (Nat.le_of_ble_eq_true rfl) dL_law__12 (by omega) (by omega) (by omega) (by omega) ?_
  intro H5 locs5 hH5 hS5 hN5
  refine lv_astore_n A.1 A.2.1 dL_law__15 rfl hl3 (Nat.le_of_ble_eq_true rfl) rfl ?_
  intro ls6 hl6
  refine lv_iconst (v := (1 : Int32)) A.1 A.2.1 dL_law__16 (by decide) ?_
  refine pk_newaN (n9 := 96) (N := 1) A hH5 hS5 hN5 rfl (by decide) (by decide) ac_14 (Or.inr (Or.inr ⟨rfl, rfl⟩)) (by decide) (by decide) (by decide) dL_law__17 (by omega) (by omega) ?_
  intro H7 hH7 hS7 hN7
  refine lv_astore_n A.1 A.2.1 dL_law__19 rfl hl6 (Nat.le_of_ble_eq_true rfl) rfl ?_
  intro ls8 hl8
  refine lv_iconst (v := (0 : Int32)) A.1 A.2.1 dL_law__20 (by decide) ?_
  refine lv_istore A.1 A.2.1 dL_law__21 hl8 (Nat.le_of_ble_eq_true rfl) rfl ?_
  intro ls9 hl9
  exact kk _ _ _ hH7 hS7 hl9
end LAW0
