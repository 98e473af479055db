/-! THE CONSTRUCTORS: the first n of the things are there; F tells which references are set by now; their ints are σ. -/
abbrev pk_Y : Type := Nat × (Nat → Nat → Bool) × pn_S
def pk_fv (Γ : pn_G) (Y : pk_Y) (i k : Nat) : Value := match pn_R i k with
  | some t => if Y.2.1 i k then .ref (pn_b Γ + t) else .null
  | none => .int (Y.2.2 i k)
def pk_ent (Γ : pn_G) (Y : pk_Y) (i : Nat) : va_E :=
  if pn_K i ≤ 10 then .inr (pn_K i, (List.range (pn_N (pn_K i))).map (pk_fv Γ Y i))
  else if pn_K i = 13 then .inl (pn_cy Γ 13, pn_L i, .inr (.inr (.inr (.inr (fun j => if Y.2.1 i j then some (pn_b Γ + (43 + 3 * j)) else none)))))
  else if pn_K i = 14 then .inl (pn_cy Γ 14, pn_L i, .inr (.inl (fun j => (Y.2.2 i j).toInt64)))
  else .inl (pn_cy Γ (pn_K i), pn_L i, .inl (Y.2.2 i))
def pk_w (Γ : pn_G) (Y : pk_Y) : va_W := (List.range Y.1).map (fun i => (pn_b Γ + i, pk_ent Γ Y i))
def pk_H (Γ : pn_G) (Y : pk_Y) (H : Heap) : Prop := va_P (pn_D Γ) vwCl (pk_w Γ Y) H
/-- one more thing, with nothing in it -/
def pk_add (Y : pk_Y) : pk_Y := (Y.1 + 1, (fun a k => if a = Y.1 then false else Y.2.1 a k), pn_ua Y.2.2 Y.1 (fun _ => 0))
/-- a reference is set -/
def pk_ref (Y : pk_Y) (a k : Nat) : pk_Y := (Y.1, (fun b j => if b = a ∧ j = k then true else Y.2.1 b j), Y.2.2)
/-- an int is set -/
def pk_int (Y : pk_Y) (a k : Nat) (v : Int32) : pk_Y := (Y.1, Y.2.1, pn_up Y.2.2 a k v)
theorem pk_w_get (Γ : pn_G) (Y : pk_Y) {i : Nat} (h : i < Y.1) : (pk_w Γ Y)[i]? = some (pn_b Γ + i, pk_ent Γ Y i) := by
  unfold pk_w
  rw [List.getElem?_map, List.getElem?_range h]
  rfl
theorem pk_w_len (Γ : pn_G) (Y : pk_Y) : (pk_w Γ Y).length = Y.1 := by simp [pk_w]
theorem pk_w_at {Γ : pn_G} {Y : pk_Y} {i : Nat} {q : Nat × va_E} (h : (pk_w Γ Y)[i]? = some q) : i < Y.1 ∧ q = (pn_b Γ + i, pk_ent Γ Y i) := by
  have hi : i < Y.1 := by
    have := (List.getElem?_eq_some_iff.mp h).1
    rwa [pk_w_len] at this
  rw [pk_w_get Γ Y hi] at h
  exact ⟨hi, (Option.some.inj h).symm⟩
theorem pk_w_D (Γ : pn_G) (Y : pk_Y) : va_D (pn_A Γ) (pk_w Γ Y) := by
  refine ⟨fun i j p q hp hq e => ?_, fun k q hk => ?_⟩
  · obtain ⟨-, rfl⟩ := pk_w_at hp
    obtain ⟨-, rfl⟩ := pk_w_at hq
    have e' : pn_b Γ + i = pn_b Γ + j := e
    omega
  · obtain ⟨-, rfl⟩ := pk_w_at hk
    exact Nat.le_add_right _ _
theorem pk_w_set {Γ : pn_G} {Y Y' : pk_Y} {i : Nat} {E : va_E} (hn : Y'.1 = Y.1) (h : ∀ j, j < Y.1 → j ≠ i → pk_ent Γ Y' j = pk_ent Γ Y j) (hE : pk_ent Γ Y' i = E) : (pk_w Γ Y).set i (pn_b Γ + i, E) = pk_w Γ Y' := by
  apply List.ext_getElem?
  intro j
  rw [List.getElem?_set]
  by_cases hj : j < Y.1
  · by_cases hij : i = j
    · subst hij
      rw [if_pos rfl, if_pos (by rw [pk_w_len]; exact hj), pk_w_get Γ Y' (by rw [hn]; exact hj), hE]
    · rw [if_neg hij, pk_w_get Γ Y hj, pk_w_get Γ Y' (by rw [hn]; exact hj), h j hj (fun e => hij e.symm)]
  · have e1 : (pk_w Γ Y)[j]? = none := List.getElem?_eq_none (by rw [pk_w_len]; omega)
    have e2 : (pk_w Γ Y')[j]? = none := List.getElem?_eq_none (by rw [pk_w_len, hn]; omega)
    by_cases hij : i = j
    · subst hij
      rw [if_pos rfl, if_neg (by rw [pk_w_len]; exact hj), e2]
    · rw [if_neg hij, e1, e2]
theorem pk_ent_congr {Γ : pn_G} {Y Y' : pk_Y} {j : Nat} (h1 : Y'.2.1 j = Y.2.1 j) (h2 : Y'.2.2 j = Y.2.2 j) : pk_ent Γ Y' j = pk_ent Γ Y j := by
  have hf : pk_fv Γ Y' j = pk_fv Γ Y j := funext fun k => by unfold pk_fv; rw [h1, h2]
  unfold pk_ent
  rw [hf, h1, h2]
theorem pk_w_add {Γ : pn_G} {Y : pk_Y} : pk_w Γ (pk_add Y) = pk_w Γ Y ++ [(pn_b Γ + Y.1, pk_ent Γ (pk_add Y) Y.1)] := by
  unfold pk_w
  show (List.range (Y.1 + 1)).map _ = _
  rw [List.range_succ, List.map_append]
  refine congrArg (· ++ _) (List.map_congr_left fun i hi => ?_)
  have hi : i < Y.1 := List.mem_range.mp hi
  have hne : ¬ i = Y.1 := by omega
  rw [pk_ent_congr (Y := Y) (Y' := pk_add Y)]
  · funext k; simp [pk_add, hne]
  · show pn_ua Y.2.2 Y.1 (fun _ => 0) i = _
    rw [pn_ua_a _ _ _ hne]
theorem pk_ent_obj {Γ : pn_G} {Y : pk_Y} {i c : Nat} (hK : pn_K i = c) (hc : c ≤ 10) : pk_ent Γ Y i = .inr (c, (List.range (pn_N c)).map (pk_fv Γ Y i)) := by
  unfold pk_ent
  rw [hK, if_pos hc]
theorem pk_ent_int {Γ : pn_G} {Y : pk_Y} {i : Nat} (hK : pn_K i = 12) : pk_ent Γ Y i = .inl (pn_cy Γ 12, pn_L i, .inl (Y.2.2 i)) := by
  unfold pk_ent
  rw [hK, if_neg (by decide), if_neg (by decide), if_neg (by decide)]
theorem pk_ent_byte {Γ : pn_G} {Y : pk_Y} {i : Nat} (hK : pn_K i = 11) : pk_ent Γ Y i = .inl (pn_cy Γ 11, pn_L i, .inl (Y.2.2 i)) := by
  unfold pk_ent
  rw [hK, if_neg (by decide), if_neg (by decide), if_neg (by decide)]
theorem pk_ent_long {Γ : pn_G} {Y : pk_Y} {i : Nat} (hK : pn_K i = 14) : pk_ent Γ Y i = .inl (pn_cy Γ 14, pn_L i, .inr (.inl (fun j => (Y.2.2 i j).toInt64))) := by
  unfold pk_ent
  rw [hK, if_neg (by decide), if_neg (by decide), if_pos rfl]
theorem pk_ent_vs {Γ : pn_G} {Y : pk_Y} {i : Nat} (hK : pn_K i = 13) : pk_ent Γ Y i = .inl (pn_cy Γ 13, pn_L i, .inr (.inr (.inr (.inr (fun j => if Y.2.1 i j then some (pn_b Γ + (43 + 3 * j)) else none))))) := by
  unfold pk_ent
  rw [hK, if_neg (by decide), if_pos rfl]
theorem pk_fs_get {Γ : pn_G} {Y : pk_Y} {i N k : Nat} (hk : k < N) : ((List.range N).map (pk_fv Γ Y i))[k]? = some (pk_fv Γ Y i k) := by
  rw [List.getElem?_map, List.getElem?_range hk]
  rfl
theorem pk_fs_set {Γ : pn_G} {Y Y' : pk_Y} {i N k : Nat} {v : Value} (h1 : ∀ j, j ≠ k → pk_fv Γ Y' i j = pk_fv Γ Y i j) (h2 : pk_fv Γ Y' i k = v) : ((List.range N).map (pk_fv Γ Y i)).set k v = (List.range N).map (pk_fv Γ Y' i) := by
  apply List.ext_getElem?
  intro j
  rw [List.getElem?_set]
  by_cases hj : j < N
  · by_cases hkj : k = j
    · subst hkj
      rw [if_pos rfl, if_pos (by simpa using hj), pk_fs_get hj, h2]
    · rw [if_neg hkj, pk_fs_get hj, pk_fs_get hj, h1 j (fun e => hkj e.symm)]
  · have e1 : ((List.range N).map (pk_fv Γ Y i))[j]? = none := List.getElem?_eq_none (by simp; omega)
    have e2 : ((List.range N).map (pk_fv Γ Y' i))[j]? = none := List.getElem?_eq_none (by simp; omega)
    by_cases hkj : k = j
    · subst hkj
      rw [if_pos rfl, if_neg (by simpa using hj), e2]
    · rw [if_neg hkj, e1, e2]
/-- what an activation of a constructor (or of the law, ahead of its loop) stands on -/
def pk_A9 (Γ : pn_G) (M : pn_M) (p : Program) (s : State) (m : MethodId) (args : Array Value) (meth : Method) (c : Code) : Prop :=
  p.tables.exec = Jvm.exec ∧ c.code = M.2.1 ∧ meth.sig.returnType = M.2.2.2.1 ∧ c.maxLocals = M.2.2.1 ∧ s.vm.findClass M.1.cls = some m.cls ∧ (∀ w ∈ pn_T, w.before args s = true) ∧ va_K (pn_D Γ) vwCl (pn_ty Γ) s ∧ meth.locks = false ∧ va_AO "PanNights$Village" s ∧ meth.name = M.1.name
section PK
variable {p : Program} {l : Launch} {e : Env} {R : Room} {s : State} {m : MethodId} {args : Array Value} {below : List Frame} {meth : Method} {c : Code} {H : Heap} {locs : List Loc} {cells slots : Nat} {Q : State → Prop}
variable {Γ : pn_G} {M : pn_M} {Y : pk_Y} {pc : Nat} {ls : Array Slot} {rest : List Value}
theorem pk_grow {H1 : Heap} (hS : va_S (pn_A Γ) s.heap H locs) (z : H1.size = H.size + 1) (o1 : ∀ q, q < H.size → H1[q]? = H[q]?) : va_S (pn_A Γ) s.heap H1 locs :=
  ⟨Nat.le_trans hS.1 (by omega), fun x h1 h2 => (o1 x (Nat.lt_of_lt_of_le h1 hS.1)).trans (hS.2.1 x h1 h2), hS.2.2⟩
/-- the heap with one more thing -/
theorem pk_H_add {H1 : Heap} (hH : pk_H Γ Y H) (o1 : ∀ q, q < H.size → H1[q]? = H[q]?) (hat : va_at (pn_D Γ) vwCl (pn_b Γ + Y.1, pk_ent Γ (pk_add Y) Y.1) H1) : pk_H Γ (pk_add Y) H1 := by
  unfold pk_H
  rw [pk_w_add]
  refine (va_P.kept hH fun k x hx => o1 x.1 ((hH k x hx).lt)).app (fun k x hx => ?_)
  have hz : k < 1 := (List.getElem?_eq_some_iff.mp hx).1
  rw [show k = 0 by omega] at hx
  cases hx
  exact hat
/-- the count: the things that this activation found, and those that it made -/
def pk_N (Γ : pn_G) (Y : pk_Y) (s : State) (cells : Nat) : Prop := s.heap.size + cells = pn_b Γ + Y.1 ∧ pn_b Γ ≤ s.heap.size
theorem pk_sz {T : State} (X : Stand p l e R s m args below meth c T locs cells slots) (hT : T.heap = H) (hH : pk_H Γ Y H) (hS : va_S (pn_A Γ) s.heap H locs) (hN : pk_N Γ Y s cells) : H.size = pn_b Γ + Y.1 := by
  have h1 : H.size ≤ s.heap.size + cells := by rw [← hT]; exact X.heapSize
  have h2 : pn_b Γ + Y.1 ≤ H.size := by
    rcases Nat.eq_zero_or_pos Y.1 with h0 | h0
    · rw [h0]; exact Nat.le_trans hN.2 hS.1
    · have h3 := (hH (Y.1 - 1) _ (pk_w_get Γ Y (by omega))).lt
      have h3 : pn_b Γ + (Y.1 - 1) < H.size := h3
      omega
  have := hN.1
  omega
/-- new -/
def pk_NW (own : String) (idx ci : Nat) : Prop :=
  ∃ (C : String) (T : u_T) (ty : Nat → FieldType) (N : Nat), vwCl[ci]? = some (C, T, N) ∧ N = pn_N ci ∧ ci ≤ 10 ∧ (∀ w ∈ u_ws C T N, w ∈ pn_T) ∧ (∀ k, k < N → parseFieldDescriptor (T k).2.2.1 = some (ty k)) ∧ Cond.classLink own idx C ∈ pn_T ∧ Cond.instantiable C N ∈ pn_T ∧ Cond.initialized C ∈ pn_T ∧
    ∀ i, i < 97 → pn_K i = ci → ∀ k, k < N → defaultValue (ty k) = if (pn_R i k).isSome then .null else .int 0
theorem pk_new {idx ci : Nat} (A : pk_A9 Γ M p s m args meth c) (hH : pk_H Γ Y H) (hS : va_S (pn_A Γ) s.heap H locs) (hN9 : pk_N Γ Y s cells) (hN : pk_NW M.1.cls idx ci) (hn : Y.1 < 97) (hK : pn_K Y.1 = ci) (hd : decode M.2.1 pc = .ok (.new idx, 3)) (hc : cells + 1 ≤ R.cells) (hs : slots + pn_N ci ≤ R.slots)
    (kk : ∀ (H1 : Heap), pk_H Γ (pk_add Y) H1 → va_S (pn_A Γ) s.heap H1 locs → pk_N Γ (pk_add Y) s (cells + 1) → W p l e R s m args below meth c H1 locs (cells + 1) (slots + pn_N ci) Q (F0 m (pc + 3) ls (.ref (pn_b Γ + Y.1) :: rest))) : W p l e R s m args below meth c H locs cells slots Q (F0 m pc ls rest) := by
  intro T0 hT0 X0
  have hsz := pk_sz X0 hT0 hH hS hN9
  revert T0
  obtain ⟨hx, hb, -, -, hown, hT, hK9, -⟩ := A
  obtain ⟨C, T, ty, N, h1, h2, h3, h4, h5, h6, h7, h8, h9⟩ := hN
  subst h2
  have hKn := hK9.1 ci _ h1
  refine W.newcK hx hb hown (hT _ h6) (hT _ h7) (hT _ h8) rfl hd hc hs hKn.2.1 hsz fun H1 kC hkC e1 z1 o1 => ?_
  refine kk H1 (pk_H_add hH (by rw [hsz]; exact o1) ?_) (pk_grow hS (by rw [hsz]; exact z1) (by rw [hsz]; exact o1)) ⟨by show _ = pn_b Γ + (Y.1 + 1); have := hN9.1; omega, hN9.2⟩
  rw [pk_ent_obj hK h3]
  refine ⟨_, h1, (u_born ty hT h4 hKn hkC e1 h5).to fun k hk => ?_⟩
  have hk : k < pn_N ci := hk
  show defaultValue (ty k) = vp_V ((List.range (pn_N ci)).map (pk_fv Γ (pk_add Y) Y.1)) k
  rw [h9 Y.1 hn hK k hk]
  unfold vp_V
  rw [List.getD_eq_getElem?_getD, pk_fs_get hk]
  show _ = pk_fv Γ (pk_add Y) Y.1 k
  unfold pk_fv
  cases hR : pn_R Y.1 k with
  | some t => simp [pk_add]
  | none =>
    show Value.int 0 = Value.int (pn_ua Y.2.2 Y.1 (fun _ => 0) Y.1 k)
    rw [pn_ua_s]
/-- newarray -/
theorem pk_newa {at9 : ArrayType} {n : Int32} {N kd : Nat} (A : pk_A9 Γ M p s m args meth c) (hH : pk_H Γ Y H) (hS : va_S (pn_A Γ) s.heap H locs) (hN9 : pk_N Γ Y s cells) (hK : pn_K Y.1 = kd) (hL : pn_L Y.1 = N) (harr : Cond.arrayClass (newarray.typeOf at9) ∈ pn_T)
    (hkd : (kd = 12 ∧ at9 = .int) ∨ (kd = 11 ∧ at9 = .byte) ∨ (kd = 14 ∧ at9 = .long)) (h0 : ¬ n < 0) (hN : n.toNatClampNeg = N) (hbig : N ≤ 4000) (hd : decode M.2.1 pc = .ok (.newarray at9, 2)) (hc : cells + 1 ≤ R.cells) (hs : slots + N ≤ R.slots)
    (kk : ∀ (H1 : Heap), pk_H Γ (pk_add Y) H1 → va_S (pn_A Γ) s.heap H1 locs → pk_N Γ (pk_add Y) s (cells + 1) → W p l e R s m args below meth c H1 locs (cells + 1) (slots + N) Q (F0 m (pc + 2) ls (.ref (pn_b Γ + Y.1) :: rest))) : W p l e R s m args below meth c H locs cells slots Q (F0 m pc ls (.int n :: rest)) := by
  intro T0 hT0 X0
  have hsz := pk_sz X0 hT0 hH hS hN9
  revert T0
  obtain ⟨hx, hb, -, -, hown, hT, hK9, -⟩ := A
  have hbytes : N * componentBytes (newarray.typeOf at9) ≤ 536870912 := by
    have hcb : componentBytes (newarray.typeOf at9) ≤ 8 := by cases at9 <;> decide
    exact Nat.le_trans (Nat.mul_le_mul hbig hcb) (by decide)
  refine va_newaK hx hb (hT _ harr) rfl hd rfl h0 hN hbytes hc hs hsz fun H1 cA e1 z1 o1 hAr hNm => ?_
  refine kk H1 (pk_H_add hH (by rw [hsz]; exact o1) ?_) (pk_grow hS (by rw [hsz]; exact z1) (by rw [hsz]; exact o1)) ⟨by show _ = pn_b Γ + (Y.1 + 1); have := hN9.1; omega, hN9.2⟩
  rcases hkd with ⟨rfl, rfl⟩ | ⟨rfl, rfl⟩ | ⟨rfl, rfl⟩
  · have hcA : pn_cy Γ 12 = cA := Option.some.inj ((hK9.2 1 _ rfl).2.symm.trans hNm)
    rw [pk_ent_int hK]
    show H1[_]? = some (vp_cell _ _)
    rw [vp_cell_i, hcA, hL, e1]
    show some (arrV cA N fun _ => Value.int 0) = some (arrV cA N fun j => Value.int (pn_ua Y.2.2 Y.1 (fun _ => 0) Y.1 j))
    rw [pn_ua_s]
  · have hcA : pn_cy Γ 11 = cA := Option.some.inj ((hK9.2 0 _ rfl).2.symm.trans hNm)
    rw [pk_ent_byte hK]
    show H1[_]? = some (vp_cell _ _)
    rw [vp_cell_i, hcA, hL, e1]
    show some (arrV cA N fun _ => Value.int 0) = some (arrV cA N fun j => Value.int (pn_ua Y.2.2 Y.1 (fun _ => 0) Y.1 j))
    rw [pn_ua_s]
  · have hcA : pn_cy Γ 14 = cA := Option.some.inj ((hK9.2 3 _ rfl).2.symm.trans hNm)
    rw [pk_ent_long hK]
    show H1[_]? = some (vp_cell _ _)
    rw [vp_cell_l, hcA, hL, e1]
    show some (arrV cA N fun _ => Value.long 0) = some (arrV cA N fun j => Value.long (pn_ua Y.2.2 Y.1 (fun _ => 0) Y.1 j).toInt64)
    rw [pn_ua_s]
    rfl
/-- the row of villages -/
theorem pk_anew {idx : Nat} (A : pk_A9 Γ M p s m args meth c) (hH : pk_H Γ Y H) (hS : va_S (pn_A Γ) s.heap H locs) (hN9 : pk_N Γ Y s cells) (hK : pn_K Y.1 = 13) (hL : pn_L Y.1 = 12) (hcl : Cond.classLink M.1.cls idx "PanNights$Village" ∈ pn_T) (hd : decode M.2.1 pc = .ok (.anewarray idx, 3)) (hc : cells + 1 ≤ R.cells) (hs : slots + 12 ≤ R.slots)
    (kk : ∀ (H1 : Heap), pk_H Γ (pk_add Y) H1 → va_S (pn_A Γ) s.heap H1 locs → pk_N Γ (pk_add Y) s (cells + 1) → W p l e R s m args below meth c H1 locs (cells + 1) (slots + 12) Q (F0 m (pc + 3) ls (.ref (pn_b Γ + Y.1) :: rest))) : W p l e R s m args below meth c H locs cells slots Q (F0 m pc ls (.int 12 :: rest)) := by
  intro T0 hT0 X0
  have hsz := pk_sz X0 hT0 hH hS hN9
  revert T0
  obtain ⟨hx, hb, -, -, hown, hT, hK9, -, hAO, -⟩ := A
  refine W.anew hx hb hown (hT _ hcl) (va_AO.use hAO) rfl hd rfl (by decide) (by decide) hc hs fun cA kA comp f1 f2 f3 f4 => ?_
  generalize hH1 : H.push ({ cls := cA, slots := Array.replicate (12 : Int32).toNatClampNeg .null, vm := .none } : Cell) = H1
  have z1 : H1.size = H.size + 1 := by rw [← hH1, Array.size_push]
  have e1 : H1[H.size]? = some (arrV cA 12 (fun _ => .null)) := by rw [← hH1, Array.getElem?_push_size, ← arrV_new]; rfl
  have o1 : ∀ q : Nat, q < H.size → H1[q]? = H[q]? := fun q hq => by rw [← hH1, Array.getElem?_push, if_neg (Nat.ne_of_lt hq)]
  rw [hsz] at e1
  have hcA : pn_cy Γ 13 = cA := by
    obtain ⟨kA', comp', g1, g2, g3, g4⟩ := (hK9.2 2 _ rfl).2
    exact Option.some.inj (g4.symm.trans f1)
  have k9 := kk H1 (pk_H_add hH o1 (by
    rw [pk_ent_vs hK]
    show H1[_]? = some (vp_cell _ _)
    rw [vp_cell_q, hcA, hL, e1]
    congr 2
    funext j
    simp [pk_add, va_rf])) (pk_grow hS z1 o1) ⟨by show _ = pn_b Γ + (Y.1 + 1); have := hN9.1; omega, hN9.2⟩
  rw [← hsz] at k9
  exact k9
/-- putfield in a constructor -/
def pk_FW (own : String) (idx ci k : Nat) (v : Value) : Prop := ∃ (C : String) (T : u_T) (ty0 : Nat → FieldType) (N : Nat), vwCl[ci]? = some (C, T, N) ∧ k < N ∧ N = pn_N ci ∧ ci ≤ 10 ∧ (∀ w ∈ u_ws C T N, w ∈ pn_T) ∧ (∀ k, k < N → parseFieldDescriptor (T k).2.2.1 = some (ty0 k)) ∧ (∀ a, a < N → ∀ b, b < N → a ≠ b → (T a).2.1 ≠ (T b).2.1) ∧
    Cond.fieldLink own idx (T k).1 (T k).2.1 (T k).2.2.1 ∈ pn_T ∧ ((T k).2.2.2 = true → (T k).1 = own) ∧ ∃ ty : FieldType, parseFieldDescriptor (T k).2.2.1 = some ty ∧ narrow ty v = v ∧ fits ty v = true
theorem pk_put {idx i ci k : Nat} {v : Value} {Y' : pk_Y} (A : pk_A9 Γ M p s m args meth c) (hin : M.1.name = "<init>") (hH : pk_H Γ Y H) (hS : va_S (pn_A Γ) s.heap H locs) (hF : pk_FW M.1.cls idx ci k v) (hi : i < Y.1) (hK : pn_K i = ci) (hY : Y'.1 = Y.1) (hj : ∀ j, j < Y.1 → j ≠ i → pk_ent Γ Y' j = pk_ent Γ Y j) (hv1 : ∀ j, j ≠ k → pk_fv Γ Y' i j = pk_fv Γ Y i j) (hv2 : pk_fv Γ Y' i k = v) (hd : decode M.2.1 pc = .ok (.putfield idx, 3))
    (kk : ∀ (H1 : Heap) (locs1 : List Loc), pk_H Γ Y' H1 → va_S (pn_A Γ) s.heap H1 locs1 → W p l e R s m args below meth c H1 locs1 cells slots Q (F0 m (pc + 3) ls rest)) : W p l e R s m args below meth c H locs cells slots Q (F0 m pc ls (v :: .ref (pn_b Γ + i) :: rest)) := by
  obtain ⟨hx, hb, -, -, hown, hT, hK9, -, -, hnm⟩ := A
  obtain ⟨C, T, ty0, N, h1, h2, h3, h4, h5, h8, h9, h7, hf, ty, ht1, ht2, ht3⟩ := hF
  have he : (pk_w Γ Y)[i]? = some (pn_b Γ + i, .inr (ci, (List.range N).map (pk_fv Γ Y i))) := by rw [pk_w_get Γ Y hi, pk_ent_obj hK h4, h3]
  have hw : (pk_w Γ Y).set i (pn_b Γ + i, .inr (ci, ((List.range N).map (pk_fv Γ Y i)).set k v)) = pk_w Γ Y' := pk_w_set hY hj (by rw [pk_ent_obj hK h4, pk_fs_set hv1 hv2, h3])
  cases hfn : (T k).2.2.2 with
  | false => exact va_put hx hb hT h5 ty0 h8 h9 hown hK9 hH (pk_w_D Γ Y) hS i he h1 k h2 (hT _ h7) (fun x h => h) hfn ht1 ht2 ht3 (by simp; omega) hd (fun H1 locs1 q1 _ q3 => kk H1 locs1 (by rw [hw] at q1; exact q1) q3)
  | true => exact va_putF hx hb hT h5 ty0 h8 h9 hown hK9 hH (pk_w_D Γ Y) hS i he h1 k h2 (hT _ h7) (fun x h => h) hfn (by rw [hnm]; exact hin) (hf hfn) ht1 ht2 ht3 (by simp; omega) hd (fun H1 locs1 q1 _ q3 => kk H1 locs1 (by rw [hw] at q1; exact q1) q3)
theorem pk_puti {idx i ci k : Nat} {v : Int32} (A : pk_A9 Γ M p s m args meth c) (hin : M.1.name = "<init>") (hH : pk_H Γ Y H) (hS : va_S (pn_A Γ) s.heap H locs) (hF : pk_FW M.1.cls idx ci k (.int v)) (hi : i < Y.1) (hK : pn_K i = ci) (hR : pn_R i k = none) (hd : decode M.2.1 pc = .ok (.putfield idx, 3))
    (kk : ∀ (H1 : Heap) (locs1 : List Loc), pk_H Γ (pk_int Y i k v) H1 → va_S (pn_A Γ) s.heap H1 locs1 → W p l e R s m args below meth c H1 locs1 cells slots Q (F0 m (pc + 3) ls rest)) : W p l e R s m args below meth c H locs cells slots Q (F0 m pc ls (.int v :: .ref (pn_b Γ + i) :: rest)) :=
  pk_put (Y' := pk_int Y i k v) A hin hH hS hF hi hK rfl (fun j _ hj => pk_ent_congr rfl (pn_up_a _ _ _ _ hj)) (fun j hj => by
    unfold pk_fv
    cases pn_R i j with
    | some t => rfl
    | none => show Value.int (pn_up Y.2.2 i k v i j) = _; rw [pn_up_k _ _ _ _ hj]) (by
    unfold pk_fv
    rw [hR]
    show Value.int (pn_up Y.2.2 i k v i k) = _
    rw [pn_up_s]) hd kk
theorem pk_putr {idx i ci k t : Nat} (A : pk_A9 Γ M p s m args meth c) (hin : M.1.name = "<init>") (hH : pk_H Γ Y H) (hS : va_S (pn_A Γ) s.heap H locs) (hF : pk_FW M.1.cls idx ci k (.ref (pn_b Γ + t))) (hi : i < Y.1) (hK : pn_K i = ci) (hR : pn_R i k = some t) (hd : decode M.2.1 pc = .ok (.putfield idx, 3))
    (kk : ∀ (H1 : Heap) (locs1 : List Loc), pk_H Γ (pk_ref Y i k) H1 → va_S (pn_A Γ) s.heap H1 locs1 → W p l e R s m args below meth c H1 locs1 cells slots Q (F0 m (pc + 3) ls rest)) : W p l e R s m args below meth c H locs cells slots Q (F0 m pc ls (.ref (pn_b Γ + t) :: .ref (pn_b Γ + i) :: rest)) :=
  pk_put (Y' := pk_ref Y i k) A hin hH hS hF hi hK rfl (fun j _ hj => pk_ent_congr (by funext q; simp [pk_ref, hj]) rfl) (fun j hj => by
    unfold pk_fv
    cases pn_R i j with
    | some t => simp [pk_ref, hj]
    | none => rfl) (by
    unfold pk_fv
    rw [hR]
    simp [pk_ref]) hd kk
/-- getfield of a reference that is set -/
theorem pk_getr {idx i ci k t : Nat} (A : pk_A9 Γ M p s m args meth c) (hH : pk_H Γ Y H) (hF : pk_FW M.1.cls idx ci k (.int 0) ∨ pk_FW M.1.cls idx ci k (.ref 0)) (hi : i < Y.1) (hK : pn_K i = ci) (hR : pn_R i k = some t) (hset : Y.2.1 i k = true) (hd : decode M.2.1 pc = .ok (.getfield idx, 3))
    (kk : W p l e R s m args below meth c H locs cells slots Q (F0 m (pc + 3) ls (.ref (pn_b Γ + t) :: rest))) : W p l e R s m args below meth c H locs cells slots Q (F0 m pc ls (.ref (pn_b Γ + i) :: rest)) := by
  obtain ⟨hx, hb, -, -, hown, hT, hK9, -, -, hnm⟩ := A
  have key : ∃ (C : String) (T : u_T) (N : Nat), vwCl[ci]? = some (C, T, N) ∧ k < N ∧ N = pn_N ci ∧ ci ≤ 10 ∧ (∀ w ∈ u_ws C T N, w ∈ pn_T) ∧ Cond.fieldLink M.1.cls idx (T k).1 (T k).2.1 (T k).2.2.1 ∈ pn_T := by
    rcases hF with ⟨C, T, ty0, N, h1, h2, h3, h4, h5, -, -, h7, -⟩ | ⟨C, T, ty0, N, h1, h2, h3, h4, h5, -, -, h7, -⟩ <;> exact ⟨C, T, N, h1, h2, h3, h4, h5, h7⟩
  obtain ⟨C, T, N, h1, h2, h3, h4, h5, h7⟩ := key
  have he : (pk_w Γ Y)[i]? = some (pn_b Γ + i, .inr (ci, (List.range N).map (pk_fv Γ Y i))) := by rw [pk_w_get Γ Y hi, pk_ent_obj hK h4, h3]
  have hv : pk_fv Γ Y i k = .ref (pn_b Γ + t) := by unfold pk_fv; rw [hR]; simp [hset]
  exact va_get hx hb hT h5 hown hK9 hH i he h1 k h2 (hT _ h7) (fun x h => h) (by rw [pk_fs_get h2, hv]) hd kk
/-- an int into a row -/
theorem pk_iast {i n k : Nat} {x v : Int32} (A : pk_A9 Γ M p s m args meth c) (hH : pk_H Γ Y H) (hS : va_S (pn_A Γ) s.heap H locs) (hi : i < Y.1) (hK : pn_K i = 12) (hL : pn_L i = n) (hib : pn_ib x n = true) (hk : x.toNatClampNeg = k) (hd : decode M.2.1 pc = .ok (.iastore, 1))
    (kk : ∀ (H1 : Heap) (locs1 : List Loc), pk_H Γ (pk_int Y i k v) H1 → va_S (pn_A Γ) s.heap H1 locs1 → W p l e R s m args below meth c H1 locs1 cells slots Q (F0 m (pc + 1) ls rest)) : W p l e R s m args below meth c H locs cells slots Q (F0 m pc ls (.int v :: .int x :: .ref (pn_b Γ + i) :: rest)) := by
  subst hL; subst hk
  have hw : (pk_w Γ Y).set i (pn_b Γ + i, .inl (pn_cy Γ 12, pn_L i, .inl (upd (Y.2.2 i) x.toNatClampNeg v))) = pk_w Γ (pk_int Y i x.toNatClampNeg v) := pk_w_set rfl (fun j _ hj => pk_ent_congr rfl (pn_up_a _ _ _ _ hj)) (by rw [pk_ent_int hK]; show _ = _; rw [show (pk_int Y i x.toNatClampNeg v).2.2 i = upd (Y.2.2 i) x.toNatClampNeg v from pn_up_row _ _ _ _])
  exact va_iast A.1 A.2.1 A.2.2.2.2.2.2.1 hH (pk_w_D Γ Y) hS i 1 (by rw [pk_w_get Γ Y hi, pk_ent_int hK]) rfl (pn_ib_in hib) hd (fun H1 locs1 q1 _ q3 => kk H1 locs1 (by rw [hw] at q1; exact q1) q3)
/-- a village into the row of villages -/
theorem pk_aast {i v j : Nat} {x : Int32} (A : pk_A9 Γ M p s m args meth c) (hH : pk_H Γ Y H) (hS : va_S (pn_A Γ) s.heap H locs) (hi : i < Y.1) (hK : pn_K i = 13) (hL : pn_L i = 12) (hib : pn_ib x 12 = true) (hx : x.toNatClampNeg = j) (hv : v < Y.1) (hKv : pn_K v = 7) (hvj : v = 43 + 3 * j) (hd : decode M.2.1 pc = .ok (.aastore, 1))
    (kk : ∀ (H1 : Heap) (locs1 : List Loc), pk_H Γ (pk_ref Y i j) H1 → va_S (pn_A Γ) s.heap H1 locs1 → W p l e R s m args below meth c H1 locs1 cells slots Q (F0 m (pc + 1) ls rest)) : W p l e R s m args below meth c H locs cells slots Q (F0 m pc ls (.ref (pn_b Γ + v) :: .int x :: .ref (pn_b Γ + i) :: rest)) := by
  subst hx
  have hw : (pk_w Γ Y).set i (pn_b Γ + i, .inl (pn_cy Γ 13, pn_L i, .inr (.inr (.inr (.inr (va_up (fun j => if Y.2.1 i j then some (pn_b Γ + (43 + 3 * j)) else none) x.toNatClampNeg (some (pn_b Γ + v)))))))) = pk_w Γ (pk_ref Y i x.toNatClampNeg) := pk_w_set rfl (fun q _ hq => pk_ent_congr (by funext z; simp [pk_ref, hq]) rfl) (by
    rw [pk_ent_vs hK]
    refine congrArg (fun g => (Sum.inl (pn_cy Γ 13, pn_L i, .inr (.inr (.inr (.inr g)))) : va_E)) ?_
    funext q
    by_cases hq : q = x.toNatClampNeg
    · subst hq; simp [pk_ref, va_up, hvj]
    · simp [pk_ref, va_up, hq])
  exact va_astq (r := (RX8, TX8, 15)) A.1 A.2.1 A.2.2.2.2.2.2.1 hH (pk_w_D Γ Y) hS i 2 v 7 (f := fun j => if Y.2.1 i j then some (pn_b Γ + (43 + 3 * j)) else none) (by rw [pk_w_get Γ Y hi, pk_ent_vs hK]) rfl (by rw [pk_w_get Γ Y hv, pk_ent_obj hKv (by decide)]) rfl (by rw [hL]; exact pn_ib_in hib) hd (fun H1 locs1 q1 _ q3 => kk H1 locs1 (by rw [hw] at q1; exact q1) q3)
/-- Object's own constructor -/
theorem pk_obj {idx a : Nat} (A : pk_A9 Γ M p s m args meth c) (hw : Cond.methodLink M.1.cls idx Lib.objectInit ∈ pn_T ∧ Cond.instanceMethod Lib.objectInit ∈ pn_T ∧ Cond.code Lib.objectInit ⟨#[0xb1]⟩ 1 none ∈ pn_T) (hz : ls.size = M.2.2.1) (hd : decode M.2.1 pc = .ok (.invokespecial idx, 3)) (hr : (rest.map fun v => v.category).sum ≤ 8) (hf : 1 ≤ R.frames) (hl : 20 ≤ R.locals)
    (kk : W p l e R s m args below meth c H locs cells slots Q (F0 m (pc + 3) ls rest)) : W p l e R s m args below meth c H locs cells slots Q (F0 m pc ls (.ref a :: rest)) := by
  have hrm := lv_room (m := m) (pc := pc) (ls := ls) (rest := rest) hr
  exact W.objInit A.1 A.2.1 A.2.2.2.2.1 (A.2.2.2.2.2.1 _ hw.1) (A.2.2.2.2.2.1 _ hw.2.1) (A.2.2.2.2.2.1 _ hw.2.2) rfl (by rw [A.2.2.2.1]; exact hz) rfl hd hf (by
    have : 2 * (F0 m pc ls (.ref a :: rest)).monitorRoom = 2 * (F0 m pc ls rest).monitorRoom := rfl
    omega) kk
end PK
/-- A CONSTRUCTOR'S CONTRACT: from Y to Y', mc things of ms slots are new -/
def pk_P (Γ : pn_G) (av : List Value) (Y : pk_Y) : Array Value → State → Prop := va_Pc av (fun U => pk_H Γ Y U.heap ∧ U.heap.size = pn_b Γ + Y.1 ∧ va_K (pn_D Γ) vwCl (pn_ty Γ) U ∧ (∀ w ∈ pn_T, w.before #[] U = true) ∧ va_AO "PanNights$Village" U)
def pk_Q (Γ : pn_G) (Y' : pk_Y) : Array Value → State → Outcome → State → Prop := fun _ st o t => o = .returned none ∧ pk_H Γ Y' t.heap ∧ va_F (pn_A Γ) st t
def pk_rm (d mc ms : Nat) : Room := { frames := d + 2, cells := mc, slots := ms, locals := 64 * d + 40 }
def pk_C (Γ : pn_G) (d : Nat) (M : pn_M) (av : List Value) (Y Y' : pk_Y) (mc ms : Nat) : Prop :=
  Met (pn_l Γ) M.1 [Cond.code M.1 M.2.1 M.2.2.1 M.2.2.2.1] (pk_rm d mc ms) (pk_P Γ av Y) (pk_Q Γ Y') mc ms (pn_A Γ)
theorem pk_P_blind {Γ : pn_G} {av : List Value} {Y : pk_Y} : FrameBlind (pk_P Γ av Y) := by
  intro a U g mk h
  obtain ⟨h0, h1, h2, h3, h4, h5⟩ := h
  have hW : U.WarmedH (U.calling g mk a).vm := State.WarmedH.refl U
  exact ⟨h0, h1, h2, va_K.moved (u := U) (U := U.calling g mk a) (Vm.Alike.refl U.vm) h3, pn_T_moved hW h4, va_AO.moved (u := U) (U := U.calling g mk a) (Vm.Alike.refl U.vm) h5⟩
/-- the body of a constructor -/
theorem pk_of {Γ : pn_G} {d : Nat} {M : pn_M} {av : List Value} {Y Y' : pk_Y} {mc ms : Nat} (hy : plainName M.1.cls = true)
    (body : ∀ (p : Program) (e : Env) (R : Room) (s : State) (m : MethodId) (below : List Frame) (meth : Method) (c : Code) (ls : Array Slot), pk_A9 Γ M p s m av.toArray meth c → pk_H Γ Y s.heap → pk_N Γ Y s 0 → mc ≤ R.cells → ms ≤ R.slots → d + 2 ≤ R.frames → 64 * d + 40 ≤ R.locals → lv_has ls M.2.2.1 (lv_args 0 av) → W p (pn_l Γ) e R s m av.toArray below meth c s.heap [] 0 0 (MQ below (pk_Q Γ Y') av.toArray s mc ms (pn_A Γ)) (F0 m 0 ls []))
    (hn : (lg_sl av).length ≤ M.2.2.1) : pk_C Γ d M av Y Y' mc ms := by
  refine Met.ofW (cc := M.2.1) (maxL := M.2.2.1) (ret := M.2.2.2.1) hy rfl ?_
  intro p e s m args below meth c s₁ B hml hP
  obtain ⟨rfl, hH, hz, hK, hT, hAO⟩ := hP
  have hown : s.vm.findClass M.1.cls = some m.cls := findClass_of_methodNamed B.named
  have hlv := lv_entry av (n := M.2.2.1) hn
  rw [lg_entry_eq]
  generalize (lg_sl av ++ List.replicate (M.2.2.1 - (lg_sl av).length) Slot.unset).toArray = jls at hlv ⊢
  exact body p e _ s m below meth c jls ⟨B.exec, B.bytes, B.returns, hml, hown, pn_T_moved (State.WarmedH.refl s) hT, hK, B.notSynchronized, hAO, (name_of_methodNamed B.named B.method).1⟩ hH ⟨by rw [hz]; rfl, by rw [hz]; exact Nat.le_add_right _ _⟩ (Nat.le_refl _) (Nat.le_refl _) (Nat.le_refl _) (Nat.le_refl _) hlv
/-- entry idx of own's file names the constructor M' -/
def pk_LI (own : String) (idx : Nat) (M' : pn_M) (n : Nat) : Prop :=
  (Cond.methodLink own idx M'.1 ∈ pn_T ∨ ∃ host : String, Cond.methodLinkNest own idx M'.1 host ∈ pn_T) ∧ Cond.instanceMethod M'.1 ∈ pn_T ∧ Cond.initialized M'.1.cls ∈ pn_T ∧ Cond.code M'.1 M'.2.1 M'.2.2.1 none ∈ pn_T ∧ M'.2.2.2.1 = none ∧ M'.1.name = "<init>" ∧
  (M'.1.cls ≠ "java/lang/invoke/MethodHandle" ∧ M'.1.cls ≠ "java/lang/invoke/VarHandle") ∧ (parseMethodDescriptor M'.1.desc).map (fun q => q.parameters.length) = some n ∧ M'.2.2.1 ≤ 45
section PKC
variable {p : Program} {e : Env} {R : Room} {s : State} {m : MethodId} {args : Array Value} {below : List Frame} {meth : Method} {c : Code} {H : Heap} {locs : List Loc} {cells slots : Nat} {Q : State → Prop}
variable {Γ : pn_G} {M M' : pn_M} {Y Y' : pk_Y} {pc d' idx n mc ms : Nat} {ls : Array Slot} {rest st0 As : List Value} {a : Nat}
theorem pk_call (A : pk_A9 Γ M p s m args meth c) (hH : pk_H Γ Y H) (hS : va_S (pn_A Γ) s.heap H locs) (hN9 : pk_N Γ Y s cells) (hL : pk_LI M.1.cls idx M' n) (hC : pk_C Γ d' M' (.ref a :: As) Y Y' mc ms) (hn : As.length = n) (hY : Y'.1 = Y.1 + mc) (hz : ls.size = M.2.2.1) (hst : As.reverse ++ .ref a :: rest = st0) (hr : (rest.map fun v => v.category).sum ≤ 8) (hd : decode M.2.1 pc = .ok (.invokespecial idx, 3)) (hf : d' + 3 ≤ R.frames) (hl : 64 * d' + 104 ≤ R.locals) (hc : cells + mc ≤ R.cells) (hs : slots + ms ≤ R.slots)
    (kk : ∀ (H1 : Heap) (locs1 : List Loc), pk_H Γ Y' H1 → va_S (pn_A Γ) s.heap H1 locs1 → pk_N Γ Y' s (cells + mc) → W p (pn_l Γ) e R s m args below meth c H1 locs1 (cells + mc) (slots + ms) Q (F0 m (pc + 3) ls rest)) : W p (pn_l Γ) e R s m args below meth c H locs cells slots Q (F0 m pc ls st0) := by
  intro T0 hT0 X0
  have hsz := pk_sz X0 hT0 hH hS hN9
  obtain ⟨hx, hb, hr9, hml, hown, hT, hK9, hlk, hAO, hnm⟩ := A
  obtain ⟨h1, h2, h3, h4, h5, h6, h7, h8, h9⟩ := hL
  have hC : Met (pn_l Γ) M'.1 [Cond.code M'.1 M'.2.1 M'.2.2.1 none] (pk_rm d' mc ms) (pk_P Γ (.ref a :: As) Y) (pk_Q Γ Y') mc ms (pn_A Γ) := by
    have := hC
    unfold pk_C at this
    rwa [h5] at this
  have hws : ∀ w ∈ [Cond.code M'.1 M'.2.1 M'.2.2.1 none], ∀ (a' : Array Value) (U : State), s.WarmedH U.vm → w.before a' U = true := by
    intro w hw9 a' U hW
    rw [List.mem_singleton] at hw9
    rw [hw9]
    exact pn_T_moved hW hT _ h4
  have hpre : PreS s H (pk_P Γ (.ref a :: As) Y) (.ref a :: As) := ⟨pk_P_blind, fun U hU hW => ⟨rfl, by rw [hU]; exact hH, by rw [hU]; exact hsz, va_K.moved hW.alike hK9, pn_T_moved hW hT, va_AO.moved hW.alike hAO⟩⟩
  have hfr : (pk_rm d' mc ms).frames + 1 ≤ R.frames := hf
  have hlo : 8 + (M'.2.2.1 + 11) + (pk_rm d' mc ms).locals ≤ R.locals := by
    have e9 : (pk_rm d' mc ms).locals = 64 * d' + 40 := rfl
    rw [e9]; omega
  have hrun : va_Run p (pn_l Γ) e R s m args below meth c H locs cells slots mc ms (F0 m pc ls st0) rest (pk_Q Γ Y' (Value.ref a :: As).toArray) (pn_A Γ) := by
    rcases h1 with h1 | ⟨host, h1⟩
    · exact va_runI (own := M.1.cls) (index := idx) (bytes := M'.2.1) (maxL := M'.2.2.1) (n := n) (cc := M.2.1) (nL := M.2.2.1) (Ts := pn_T) ⟨hx, hb, hml, hown, hT⟩ hC ⟨⟨rfl, rfl, hfr, hlo, hws, List.mem_cons_self, hT _ h4, hT _ h3, h7, pn_nsig h8, hT _ h1⟩, h6, hT _ h2⟩ hpre rfl hn hz hst.symm (lv_room hr) hd ⟨hc, hs⟩
    · exact va_runIN (own := M.1.cls) (host := host) (index := idx) (bytes := M'.2.1) (maxL := M'.2.2.1) (n := n) (cc := M.2.1) (nL := M.2.2.1) (Ts := pn_T) ⟨hx, hb, hml, hown, hT⟩ hC ⟨⟨⟨rfl, rfl, hfr, hlo, hws, List.mem_cons_self⟩, hT _ h4, hT _ h3, h7, pn_nsig h8, hT _ h1⟩, h6, hT _ h2⟩ hpre rfl hn hz hst.symm (lv_room hr) hd ⟨hc, hs⟩
  obtain ⟨v, st₀, t, T', L, g0, X', hL9, e1, e2, ⟨ho9, hH9, hF⟩, st⟩ := hrun T0 hT0 X0
  cases ho9
  obtain ⟨-, -, k3⟩ := vx_keep g0 e1 hS (fun q _ h => h) (fun q h => h) hL9 hF
  obtain ⟨t2, a1, b1⟩ := kk T'.heap (locs ++ L) (by rw [e1]; exact hH9) k3 ⟨by rw [hY]; have := hN9.1; omega, hN9.2⟩ T' rfl X'
  exact ⟨t2, st t2 a1, b1⟩
theorem pk_ret (A : pk_A9 Γ M p s m args meth c) (hH : pk_H Γ Y' H) (hS : va_S (pn_A Γ) s.heap H locs) (hr : M.2.2.2.1 = none) (hd : decode M.2.1 pc = .ok (.return_, 1)) : W p (pn_l Γ) e R s m args below meth c H locs mc ms (MQ below (pk_Q Γ Y') args s mc ms (pn_A Γ)) (F0 m pc ls []) :=
  W.vret A.1 A.2.1 (by rw [A.2.2.1]; exact hr) (fun t ht hW => ⟨rfl, by rw [ht]; exact hH, hS.F ht⟩) hS.2.2 hd A.2.2.2.2.2.2.2.1
end PKC
