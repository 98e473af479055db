section PNH
variable {ρ : Type} {Γ : pn_G} {d : Nat} {M : pn_M} {φ : ρ → pn_O} {pc pc' : Nat} {ls ls' st : List Value} {σ : pn_S} {o : Option ρ}
theorem pn_mt {w : Cond} (i : Nat) (h : tables_1[i]? = some w) (hk : pn_tk w = true) : w ∈ pn_T := List.mem_filter.mpr ⟨List.mem_append_right _ (List.mem_of_getElem? h), hk⟩
theorem pn_ms {w : Cond} (i : Nat) (h : (k2_sels lw_privs)[i]? = some w) (hk : pn_tk w = true) : w ∈ pn_T := List.mem_filter.mpr ⟨List.mem_append_left _ (List.mem_of_getElem? h), hk⟩
/-- entry idx of class own's file names field k of class ci -/
def pn_FA (own : String) (idx ci k : Nat) : Prop :=
  ∃ (C : String) (T : u_T) (ty0 : Nat → FieldType) (N : Nat), vwCl[ci]? = some (C, T, N) ∧ k < N ∧ N = pn_N ci ∧ ci ≤ 10 ∧ (∀ w ∈ u_ws C T N, w ∈ pn_T) ∧ (∀ k, k < N → parseFieldDescriptor (T k).2.2.1 = some (ty0 k)) ∧ (∀ a, a < N → ∀ b, b < N → a ≠ b → (T a).2.1 ≠ (T b).2.1) ∧
    ∃ ref : String, (ref = (T k).1 ∨ Cond.sameField ref (T k).1 (T k).2.1 (T k).2.2.1 ∈ pn_T) ∧ (Cond.fieldLink own idx ref (T k).2.1 (T k).2.2.1 ∈ pn_T ∨ ∃ host : String, Cond.fieldLinkNest own idx ref (T k).2.1 (T k).2.2.1 host ∈ pn_T)
theorem pn_hsame {args : Array Value} {s : State} {ref O n de : String} (hT : ∀ w ∈ pn_T, w.before args s = true) (h : ref = O ∨ Cond.sameField ref O n de ∈ pn_T) : ∀ x, s.fieldFound? O n de = some x → s.fieldFound? ref n de = some x := by
  intro x hx
  rcases h with rfl | h
  · exact hx
  · exact u_same (hT _ h) x hx
theorem pn_getv {idx i ci k : Nat} {v : Value} (hd : decode M.2.1 pc = .ok (.getfield idx, 3)) (hp : pc + 3 = pc') (hF : pn_FA M.1.cls idx ci k) (hi : i < 97) (hK : pn_K i = ci) (hv : pn_fv Γ σ i k = pn_tr Γ v) (kk : pn_W9 Γ d M φ pc' ls (v :: st) σ o) : pn_W9 Γ d M φ pc ls (.ref i :: st) σ o := by
  subst hp
  intro r hr p e R s m args below meth c H locs cells slots jls A9 hH hS hc hs hl
  have k9 := kk r hr p e R s m args below meth c H locs cells slots jls A9 hH hS hc hs hl
  obtain ⟨hx, hb, -, -, hown, hT, hK9, -⟩ := A9
  obtain ⟨C, T, ty0, N, h1, h2, h3, h4, h5, -, -, ref, h6, h7⟩ := hF
  have he : (pn_w Γ σ)[i]? = some (pn_b Γ + i, .inr (ci, (List.range N).map (pn_fv Γ σ i))) := by rw [pn_w_get Γ σ hi, pn_ent_obj hK h4, h3]
  have ha : pn_tr Γ (.ref i) = .ref (pn_b Γ + i) := by simp [pn_tr, pn_ad, hi]
  rw [List.map_cons, ha]
  rw [List.map_cons, ← hv] at k9
  rcases h7 with h7 | ⟨host, h7⟩
  · exact va_get hx hb hT h5 hown hK9 hH i he h1 k h2 (hT _ h7) (pn_hsame hT h6) (pn_fs_get h2) hd k9
  · exact va_getN hx hb hT h5 hown hK9 hH i he h1 k h2 (hT _ h7) (pn_hsame hT h6) (pn_fs_get h2) hd k9
/-- getfield of an int -/
theorem pn_geti {idx i ci k : Nat} (hd : decode M.2.1 pc = .ok (.getfield idx, 3)) (hp : pc + 3 = pc') (hF : pn_FA M.1.cls idx ci k) (hi : i < 97) (hK : pn_K i = ci) (hR : pn_R i k = none) (kk : pn_W9 Γ d M φ pc' ls (.int (σ i k) :: st) σ o) : pn_W9 Γ d M φ pc ls (.ref i :: st) σ o :=
  pn_getv hd hp hF hi hK (by unfold pn_fv; rw [hR]; rfl) kk
/-- getfield of a reference -/
theorem pn_geta {idx i ci k t : Nat} (hd : decode M.2.1 pc = .ok (.getfield idx, 3)) (hp : pc + 3 = pc') (hF : pn_FA M.1.cls idx ci k) (hi : i < 97) (hK : pn_K i = ci) (hR : pn_R i k = some t) (ht : t < 97) (kk : pn_W9 Γ d M φ pc' ls (.ref t :: st) σ o) : pn_W9 Γ d M φ pc ls (.ref i :: st) σ o :=
  pn_getv hd hp hF hi hK (by unfold pn_fv; rw [hR]; simp [pn_tr, pn_ad, ht]) kk
/-- what a putfield needs beside: no final field, a type that holds the value as it is -/
def pn_FP (ci k : Nat) (v : Int32) : Prop := ∀ (C : String) (T : u_T) (N : Nat), vwCl[ci]? = some (C, T, N) → (T k).2.2.2 = false ∧ ∃ ty : FieldType, parseFieldDescriptor (T k).2.2.1 = some ty ∧ narrow ty (.int v) = .int v ∧ fits ty (.int v) = true
theorem pn_puti {idx i ci k : Nat} {v : Int32} (hd : decode M.2.1 pc = .ok (.putfield idx, 3)) (hp : pc + 3 = pc') (hF : pn_FA M.1.cls idx ci k) (hP : pn_FP ci k v) (hi : i < 97) (hK : pn_K i = ci) (hR : pn_R i k = none) (kk : pn_W9 Γ d M φ pc' ls st (pn_up σ i k v) o) : pn_W9 Γ d M φ pc ls (.int v :: .ref i :: st) σ o := by
  subst hp
  intro r hr p e R s m args below meth c H locs cells slots jls A9 hH hS hc hs hl
  have k9 := fun H1 locs1 hH1 hS1 => kk r hr p e R s m args below meth c H1 locs1 cells slots jls A9 hH1 hS1 hc hs hl
  obtain ⟨hx, hb, -, -, hown, hT, hK9, -⟩ := A9
  obtain ⟨C, T, ty0, N, h1, h2, h3, h4, h5, h8, h9, ref, h6, h7⟩ := hF
  obtain ⟨hf, ty, ht1, ht2, ht3⟩ := hP C T N h1
  have he : (pn_w Γ σ)[i]? = some (pn_b Γ + i, .inr (ci, (List.range N).map (pn_fv Γ σ i))) := by rw [pn_w_get Γ σ hi, pn_ent_obj hK h4, h3]
  have hw := pn_w_put (Γ := Γ) (σ := σ) (v := v) hK h4 hR
  rw [← h3] at hw
  have ha : pn_tr Γ (.ref i) = .ref (pn_b Γ + i) := by simp [pn_tr, pn_ad, hi]
  rw [List.map_cons, List.map_cons, ha]
  have k8 : ∀ (H1 : Heap) (locs1 : List Loc), va_P (pn_D Γ) vwCl ((pn_w Γ σ).set i (pn_b Γ + i, .inr (ci, ((List.range N).map (pn_fv Γ σ i)).set k (.int v)))) H1 → va_D (pn_A Γ) ((pn_w Γ σ).set i (pn_b Γ + i, .inr (ci, ((List.range N).map (pn_fv Γ σ i)).set k (.int v)))) → va_S (pn_A Γ) s.heap H1 locs1 → _ := fun H1 locs1 q1 _ q3 => k9 H1 locs1 (by rw [hw] at q1; exact q1) q3
  rcases h7 with h7 | ⟨host, h7⟩
  · exact va_put hx hb hT h5 ty0 h8 h9 hown hK9 hH (pn_w_D Γ σ) hS i he h1 k h2 (hT _ h7) (pn_hsame hT h6) hf ht1 ht2 ht3 (by simp; omega) hd k8
  · exact va_putN hx hb hT h5 ty0 h8 h9 hown hK9 hH (pn_w_D Γ σ) hS i he h1 k h2 (hT _ h7) (pn_hsame hT h6) hf ht1 ht2 ht3 (by simp; omega) hd k8
/-- is it a place of a row of n -/
def pn_ib (x : Int32) (n : Nat) : Bool := decide (0 ≤ x.toInt ∧ x.toInt < n)
theorem pn_ib_in {x : Int32} {n : Nat} (h : pn_ib x n = true) : vp_in x n := vp_in_iff.mpr (of_decide_eq_true h)
theorem pn_iald {i n : Nat} {x : Int32} {oa : Option ρ} (hd : decode M.2.1 pc = .ok (.iaload, 1)) (hp : pc + 1 = pc') (hi : i < 97) (hK : pn_K i = 12) (hL : pn_L i = n) (kk : pn_W9 Γ d M φ pc' ls (.int (σ i x.toNatClampNeg) :: st) σ oa) : pn_W9 Γ d M φ pc ls (.int x :: .ref i :: st) σ (if pn_ib x n then oa else none) := by
  subst hp
  subst hL
  by_cases hib : pn_ib x (pn_L i) = true
  · rw [if_pos hib]
    intro r hr p e R s m args below meth c H locs cells slots jls A9 hH hS hc hs hl
    have k9 := kk r hr p e R s m args below meth c H locs cells slots jls A9 hH hS hc hs hl
    have ha : pn_tr Γ (.ref i) = .ref (pn_b Γ + i) := by simp [pn_tr, pn_ad, hi]
    rw [List.map_cons, List.map_cons, ha]
    exact va_iald A9.1 A9.2.1 A9.2.2.2.2.2.2.1 hH i 1 (by rw [pn_w_get Γ σ hi, pn_ent_int hK]) rfl (pn_ib_in hib) hd k9
  · rw [if_neg hib]; exact pn_none
theorem pn_ialdc {i n k : Nat} {x : Int32} (hd : decode M.2.1 pc = .ok (.iaload, 1)) (hp : pc + 1 = pc') (hi : i < 97) (hK : pn_K i = 12) (hL : pn_L i = n) (hib : pn_ib x n = true) (hk : x.toNatClampNeg = k) (kk : pn_W9 Γ d M φ pc' ls (.int (σ i k) :: st) σ o) : pn_W9 Γ d M φ pc ls (.int x :: .ref i :: st) σ o := by
  subst hk
  have h := pn_iald (Γ := Γ) (φ := φ) hd hp hi hK hL kk
  rwa [if_pos hib] at h
theorem pn_bald {i n : Nat} {x : Int32} {oa : Option ρ} (hd : decode M.2.1 pc = .ok (.baload, 1)) (hp : pc + 1 = pc') (hi : i < 97) (hK : pn_K i = 11) (hL : pn_L i = n) (kk : pn_W9 Γ d M φ pc' ls (.int (σ i x.toNatClampNeg) :: st) σ oa) : pn_W9 Γ d M φ pc ls (.int x :: .ref i :: st) σ (if pn_ib x n then oa else none) := by
  subst hp
  subst hL
  by_cases hib : pn_ib x (pn_L i) = true
  · rw [if_pos hib]
    intro r hr p e R s m args below meth c H locs cells slots jls A9 hH hS hc hs hl
    have k9 := kk r hr p e R s m args below meth c H locs cells slots jls A9 hH hS hc hs hl
    have ha : pn_tr Γ (.ref i) = .ref (pn_b Γ + i) := by simp [pn_tr, pn_ad, hi]
    rw [List.map_cons, List.map_cons, ha]
    exact va_bald A9.1 A9.2.1 A9.2.2.2.2.2.2.1 hH i 0 (by rw [pn_w_get Γ σ hi, pn_ent_byte hK]) rfl (pn_ib_in hib) hd k9
  · rw [if_neg hib]; exact pn_none
theorem pn_baldc {i n k : Nat} {x : Int32} (hd : decode M.2.1 pc = .ok (.baload, 1)) (hp : pc + 1 = pc') (hi : i < 97) (hK : pn_K i = 11) (hL : pn_L i = n) (hib : pn_ib x n = true) (hk : x.toNatClampNeg = k) (kk : pn_W9 Γ d M φ pc' ls (.int (σ i k) :: st) σ o) : pn_W9 Γ d M φ pc ls (.int x :: .ref i :: st) σ o := by
  subst hk
  have h := pn_bald (Γ := Γ) (φ := φ) hd hp hi hK hL kk
  rwa [if_pos hib] at h
theorem pn_iast {i n : Nat} {x v : Int32} {oa : Option ρ} (hd : decode M.2.1 pc = .ok (.iastore, 1)) (hp : pc + 1 = pc') (hi : i < 97) (hK : pn_K i = 12) (hL : pn_L i = n) (kk : pn_W9 Γ d M φ pc' ls st (pn_up σ i x.toNatClampNeg v) oa) : pn_W9 Γ d M φ pc ls (.int v :: .int x :: .ref i :: st) σ (if pn_ib x n then oa else none) := by
  subst hp
  subst hL
  by_cases hib : pn_ib x (pn_L i) = true
  · rw [if_pos hib]
    intro r hr p e R s m args below meth c H locs cells slots jls A9 hH hS hc hs hl
    have ha : pn_tr Γ (.ref i) = .ref (pn_b Γ + i) := by simp [pn_tr, pn_ad, hi]
    rw [List.map_cons, List.map_cons, List.map_cons, ha]
    exact va_iast A9.1 A9.2.1 A9.2.2.2.2.2.2.1 hH (pn_w_D Γ σ) hS i 1 (by rw [pn_w_get Γ σ hi, pn_ent_int hK]) rfl (pn_ib_in hib) hd (fun H1 locs1 q1 _ q3 => kk r hr p e R s m args below meth c H1 locs1 cells slots jls A9 (by rw [pn_w_ast hK] at q1; exact q1) q3 hc hs hl)
  · rw [if_neg hib]; exact pn_none
theorem pn_iastc {i n k : Nat} {x v : Int32} (hd : decode M.2.1 pc = .ok (.iastore, 1)) (hp : pc + 1 = pc') (hi : i < 97) (hK : pn_K i = 12) (hL : pn_L i = n) (hib : pn_ib x n = true) (hk : x.toNatClampNeg = k) (kk : pn_W9 Γ d M φ pc' ls st (pn_up σ i k v) o) : pn_W9 Γ d M φ pc ls (.int v :: .int x :: .ref i :: st) σ o := by
  subst hk
  have h := pn_iast (Γ := Γ) (φ := φ) hd hp hi hK hL kk
  rwa [if_pos hib] at h
theorem pn_bast {i n : Nat} {x v : Int32} {oa : Option ρ} (hd : decode M.2.1 pc = .ok (.bastore, 1)) (hp : pc + 1 = pc') (hi : i < 97) (hK : pn_K i = 11) (hL : pn_L i = n) (kk : pn_W9 Γ d M φ pc' ls st (pn_up σ i x.toNatClampNeg v.toInt8.toInt32) oa) : pn_W9 Γ d M φ pc ls (.int v :: .int x :: .ref i :: st) σ (if pn_ib x n then oa else none) := by
  subst hp
  subst hL
  by_cases hib : pn_ib x (pn_L i) = true
  · rw [if_pos hib]
    intro r hr p e R s m args below meth c H locs cells slots jls A9 hH hS hc hs hl
    have ha : pn_tr Γ (.ref i) = .ref (pn_b Γ + i) := by simp [pn_tr, pn_ad, hi]
    rw [List.map_cons, List.map_cons, List.map_cons, ha]
    exact va_bast A9.1 A9.2.1 A9.2.2.2.2.2.2.1 hH (pn_w_D Γ σ) hS i 0 (by rw [pn_w_get Γ σ hi, pn_ent_byte hK]) rfl (pn_ib_in hib) hd (fun H1 locs1 q1 _ q3 => kk r hr p e R s m args below meth c H1 locs1 cells slots jls A9 (by rw [vp_nar_byte, pn_w_bst hK] at q1; exact q1) q3 hc hs hl)
  · rw [if_neg hib]; exact pn_none
theorem pn_bastc {i n k : Nat} {x v : Int32} (hd : decode M.2.1 pc = .ok (.bastore, 1)) (hp : pc + 1 = pc') (hi : i < 97) (hK : pn_K i = 11) (hL : pn_L i = n) (hib : pn_ib x n = true) (hk : x.toNatClampNeg = k) (kk : pn_W9 Γ d M φ pc' ls st (pn_up σ i k (v.toInt8.toInt32)) o) : pn_W9 Γ d M φ pc ls (.int v :: .int x :: .ref i :: st) σ o := by
  subst hk
  have h := pn_bast (Γ := Γ) (φ := φ) hd hp hi hK hL kk
  rwa [if_pos hib] at h
/-- the one long that there is -/
theorem pn_lald {i : Nat} (hd : decode M.2.1 pc = .ok (.laload, 1)) (hp : pc + 1 = pc') (hi : i < 97) (hK : pn_K i = 14) (hL : 0 < pn_L i) (kk : pn_W9 Γ d M φ pc' ls (.long (σ i 0).toInt64 :: st) σ o) : pn_W9 Γ d M φ pc ls (.int 0 :: .ref i :: st) σ o := by
  subst hp
  intro r hr p e R s m args below meth c H locs cells slots jls A9 hH hS hc hs hl
  have k9 := kk r hr p e R s m args below meth c H locs cells slots jls A9 hH hS hc hs hl
  have ha : pn_tr Γ (.ref i) = .ref (pn_b Γ + i) := by simp [pn_tr, pn_ad, hi]
  rw [List.map_cons, List.map_cons, ha]
  exact va_lald (i := 0) (f := fun j => (σ i j).toInt64) A9.1 A9.2.1 A9.2.2.2.2.2.2.1 hH i 3 (by rw [pn_w_get Γ σ hi, pn_ent_long hK]) rfl (vp_in_iff.mpr (by rw [show (0 : Int32).toInt = 0 from rfl]; omega)) hd k9
theorem pn_last {i : Nat} {v : Int32} (hd : decode M.2.1 pc = .ok (.lastore, 1)) (hp : pc + 1 = pc') (hi : i < 97) (hK : pn_K i = 14) (hL : 0 < pn_L i) (kk : pn_W9 Γ d M φ pc' ls st (pn_up σ i 0 v) o) : pn_W9 Γ d M φ pc ls (.long v.toInt64 :: .int 0 :: .ref i :: st) σ o := by
  subst hp
  intro r hr p e R s m args below meth c H locs cells slots jls A9 hH hS hc hs hl
  have ha : pn_tr Γ (.ref i) = .ref (pn_b Γ + i) := by simp [pn_tr, pn_ad, hi]
  rw [List.map_cons, List.map_cons, List.map_cons, ha]
  exact va_last (i := 0) A9.1 A9.2.1 A9.2.2.2.2.2.2.1 hH (pn_w_D Γ σ) hS i 3 (by rw [pn_w_get Γ σ hi, pn_ent_long hK]) rfl (vp_in_iff.mpr (by rw [show (0 : Int32).toInt = 0 from rfl]; omega)) hd (fun H1 locs1 q1 _ q3 => kk r hr p e R s m args below meth c H1 locs1 cells slots jls A9 (by
    have q1 : va_P (pn_D Γ) vwCl ((pn_w Γ σ).set i (pn_b Γ + i, .inl (pn_cy Γ 14, pn_L i, .inr (.inl (vp_updL (fun j => (σ i j).toInt64) 0 v.toInt64))))) H1 := q1
    rw [pn_w_lst hK] at q1; exact q1) q3 hc hs hl)
/-- a village out of the row of villages -/
theorem pn_aald {i : Nat} {x : Int32} {oa : Option ρ} (hd : decode M.2.1 pc = .ok (.aaload, 1)) (hp : pc + 1 = pc') (hi : i < 97) (hK : pn_K i = 13) (hL : pn_L i = 12) (kk : pn_ib x 12 = true → pn_W9 Γ d M φ pc' ls (.ref (43 + 3 * x.toNatClampNeg) :: st) σ oa) : pn_W9 Γ d M φ pc ls (.int x :: .ref i :: st) σ (if pn_ib x 12 then oa else none) := by
  subst hp
  by_cases hib : pn_ib x 12 = true
  · rw [if_pos hib]
    intro r hr p e R s m args below meth c H locs cells slots jls A9 hH hS hc hs hl
    have k9 := kk hib r hr p e R s m args below meth c H locs cells slots jls A9 hH hS hc hs hl
    have ha : pn_tr Γ (.ref i) = .ref (pn_b Γ + i) := by simp [pn_tr, pn_ad, hi]
    have hin := pn_ib_in hib
    have hx : 43 + 3 * x.toNatClampNeg < 97 := by
      obtain ⟨j, hj, rfl⟩ := vp_in_of hin (by decide)
      rw [nI_clamp (by omega)]; omega
    have hb : pn_tr Γ (.ref (43 + 3 * x.toNatClampNeg)) = va_rf (some (pn_b Γ + (43 + 3 * x.toNatClampNeg))) := by simp [pn_tr, pn_ad, hx, va_rf]
    rw [List.map_cons, hb] at k9
    rw [List.map_cons, List.map_cons, ha]
    exact va_aldq A9.1 A9.2.1 A9.2.2.2.2.2.2.1 hH i 2 (f := fun j => some (pn_b Γ + (43 + 3 * j))) (by rw [pn_w_get Γ σ hi, pn_ent_ref hK]) rfl (by rw [hL]; exact hin) hd k9
  · rw [if_neg hib]; exact pn_none
theorem pn_alen {i n : Nat} (hd : decode M.2.1 pc = .ok (.arraylength, 1)) (hp : pc + 1 = pc') (hi : i < 97) (hK : pn_K i = 12) (hL : pn_L i = n) (kk : pn_W9 Γ d M φ pc' ls (.int (Int32.ofNat n) :: st) σ o) : pn_W9 Γ d M φ pc ls (.ref i :: st) σ o := by
  subst hp
  subst hL
  intro r hr p e R s m args below meth c H locs cells slots jls A9 hH hS hc hs hl
  have k9 := kk r hr p e R s m args below meth c H locs cells slots jls A9 hH hS hc hs hl
  have ha : pn_tr Γ (.ref i) = .ref (pn_b Γ + i) := by simp [pn_tr, pn_ad, hi]
  rw [List.map_cons, ha]
  exact va_alen (x := (pn_L i, .inl (σ i))) A9.1 A9.2.1 A9.2.2.2.2.2.2.1 hH i 1 (by rw [pn_w_get Γ σ hi, pn_ent_int hK]) rfl rfl hd k9
/-- constants of the pool -/
theorem pn_ldc {idx : Nat} {v : Int32} (hd : decode M.2.1 pc = .ok (.ldc idx, 2)) (hp : pc + 2 = pc') (hw : Cond.constant M.1.cls idx v ∈ pn_T) (kk : pn_W9 Γ d M φ pc' ls (.int v :: st) σ o) : pn_W9 Γ d M φ pc ls st σ o := by
  subst hp
  intro r hr p e R s m args below meth c H locs cells slots jls A9 hH hS hc hs hl
  exact lv_ldc A9.1 A9.2.1 A9.2.2.2.2.1 (A9.2.2.2.2.2.1 _ hw) hd (kk r hr p e R s m args below meth c H locs cells slots jls A9 hH hS hc hs hl)
theorem pn_ldcw {idx : Nat} {v : Int32} (hd : decode M.2.1 pc = .ok (.ldc_w idx, 3)) (hp : pc + 3 = pc') (hw : Cond.constant M.1.cls idx v ∈ pn_T) (kk : pn_W9 Γ d M φ pc' ls (.int v :: st) σ o) : pn_W9 Γ d M φ pc ls st σ o := by
  subst hp
  intro r hr p e R s m args below meth c H locs cells slots jls A9 hH hS hc hs hl
  exact lv_ldcw A9.1 A9.2.1 A9.2.2.2.2.1 (A9.2.2.2.2.2.1 _ hw) hd (kk r hr p e R s m args below meth c H locs cells slots jls A9 hH hS hc hs hl)
/-- ends -/
def pn_i : Int32 × pn_S → pn_O := fun r => (.inl (some r.1), r.2, 0)
def pn_v : pn_S → pn_O := fun r => (.inl none, r, 0)
def pn_xi : (Int32 ⊕ String) × pn_S → pn_O := fun r => match r.1 with
  | .inl v => (.inl (some v), r.2, 0)
  | .inr E => (.inr E, r.2, 1)
def pn_xv : (Unit ⊕ String) × pn_S → pn_O := fun r => match r.1 with
  | .inl _ => (.inl none, r.2, 0)
  | .inr E => (.inr E, r.2, 1)
theorem pn_iretv {v : Int32} {ty : FieldType} {r9 : ρ} (hd : decode M.2.1 pc = .ok (.ireturn, 1)) (hr9 : M.2.2.2.1 = some ty) (hn : narrow ty (.int v) = .int v) (hφ : φ r9 = (.inl (some v), σ, 0)) : pn_W9 Γ d M φ pc ls [.int v] σ (some r9) := by
  intro r hr p e R s m args below meth c H locs cells slots jls A9 hH hS hc hs hl
  cases hr
  rw [hφ]
  refine vx_ret ?_
  refine W.zret (ty := ty) A9.1 A9.2.1 (by rw [A9.2.2.1]; exact hr9) hn (fun t ht hW => ⟨some v, rfl, rfl, by rw [ht]; exact hH, hS.F ht⟩) hS.2.2 hd A9.2.2.2.2.2.2.2.1
theorem pn_ireti {v : Int32} {φ : Int32 × pn_S → pn_O} (hφ : φ = pn_i) (hd : decode M.2.1 pc = .ok (.ireturn, 1)) (hr9 : M.2.2.2.1 = some .int) : pn_W9 Γ d M φ pc ls [.int v] σ (some (v, σ)) := by
  subst hφ; exact pn_iretv hd hr9 rfl rfl
theorem pn_vretv {r9 : ρ} (hd : decode M.2.1 pc = .ok (.return_, 1)) (hr9 : M.2.2.2.1 = none) (hφ : φ r9 = (.inl none, σ, 0)) : pn_W9 Γ d M φ pc ls [] σ (some r9) := by
  intro r hr p e R s m args below meth c H locs cells slots jls A9 hH hS hc hs hl
  cases hr
  rw [hφ]
  refine vx_ret ?_
  exact W.vret A9.1 A9.2.1 (by rw [A9.2.2.1]; exact hr9) (fun t ht hW => ⟨none, rfl, rfl, by rw [ht]; exact hH, hS.F ht⟩) hS.2.2 hd A9.2.2.2.2.2.2.2.1
def pn_b01 (v : Int32) : Bool := decide (v = 0 ∨ v = 1)
theorem pn_b01_n {v : Int32} (h : pn_b01 v = true) : narrow .boolean (.int v) = .int v ∧ fits .boolean (.int v) = true := by
  rcases of_decide_eq_true h with rfl | rfl
  · exact ⟨rfl, rfl⟩
  · exact ⟨rfl, rfl⟩
/-- putfield of a boolean -/
theorem pn_putb {idx i ci k : Nat} {v : Int32} {oa : Option ρ} (hd : decode M.2.1 pc = .ok (.putfield idx, 3)) (hp : pc + 3 = pc') (hF : pn_FA M.1.cls idx ci k) (hP : ∀ (C : String) (T : u_T) (N : Nat), vwCl[ci]? = some (C, T, N) → (T k).2.2.2 = false ∧ parseFieldDescriptor (T k).2.2.1 = some .boolean) (hi : i < 97) (hK : pn_K i = ci) (hR : pn_R i k = none) (kk : pn_W9 Γ d M φ pc' ls st (pn_up σ i k v) oa) : pn_W9 Γ d M φ pc ls (.int v :: .ref i :: st) σ (if pn_b01 v then oa else none) := by
  by_cases h : pn_b01 v = true
  · rw [if_pos h]
    exact pn_puti hd hp hF (fun C T N h9 => ⟨(hP C T N h9).1, .boolean, (hP C T N h9).2, (pn_b01_n h).1, (pn_b01_n h).2⟩) hi hK hR kk
  · rw [if_neg h]; exact pn_none
/-- a pure method's end: the state is as it was -/
def pn_p (σ : pn_S) : Int32 → pn_O := fun v => (.inl (some v), σ, 0)
def pn_pv (σ : pn_S) : Unit → pn_O := fun _ => (.inl none, σ, 0)
theorem pn_iretb {v : Int32} {r9 : ρ} (hd : decode M.2.1 pc = .ok (.ireturn, 1)) (hr9 : M.2.2.2.1 = some .boolean) (hφ : φ r9 = (.inl (some v), σ, 0)) : pn_W9 Γ d M φ pc ls [.int v] σ (if pn_b01 v then some r9 else none) := by
  by_cases h : pn_b01 v = true
  · rw [if_pos h]; exact pn_iretv hd hr9 (pn_b01_n h).1 hφ
  · rw [if_neg h]; exact pn_none
/-- locals of which less is said -/
def pn_le : List Value → List Value → Prop
  | [], [] => True
  | .null :: a, _ :: b => pn_le a b
  | x :: a, y :: b => x = y ∧ pn_le a b
  | _, _ => False
theorem pn_le_get : ∀ (a b : List Value), pn_le a b → a.length = b.length ∧ ∀ (i : Nat) (v : Value), a[i]? = some v → pn_nn v = true → b[i]? = some v := by
  intro a
  induction a with
  | nil =>
    intro b h
    cases b with
    | nil => exact ⟨rfl, fun i v h => by simp at h⟩
    | cons y b => cases h
  | cons x a ih =>
    intro b h
    cases b with
    | nil => cases x <;> cases h
    | cons y b =>
      have key : (x = .null ∨ x = y) ∧ pn_le a b := by cases x <;> first | exact ⟨Or.inl rfl, h⟩ | exact ⟨Or.inr h.1, h.2⟩
      obtain ⟨h1, h2⟩ := ih b key.2
      refine ⟨by simp [h1], fun i v hi hn => ?_⟩
      cases i with
      | zero =>
        simp only [List.getElem?_cons_zero, Option.some.injEq] at hi ⊢
        subst hi
        rcases key.1 with rfl | e
        · cases hn
        · exact e.symm
      | succ i =>
        simp only [List.getElem?_cons_succ] at hi ⊢
        exact h2 i v hi hn
theorem pn_wk (h : pn_le ls' ls) (k : pn_W9 Γ d M φ pc ls' st σ o) : pn_W9 Γ d M φ pc ls st σ o := by
  obtain ⟨h1, h2⟩ := pn_le_get ls' ls h
  intro r hr p e R s m args below meth c H locs cells slots jls A9 hH hS hc hs hl
  refine k r hr p e R s m args below meth c H locs cells slots jls A9 hH hS hc hs ⟨by rw [h1]; exact hl.1, fun v hv => ?_, hl.2.2.1, hl.2.2.2.1, fun q hq => ?_⟩
  · by_cases hn : pn_nn v = true
    · obtain ⟨i, hi⟩ := List.mem_iff_getElem?.mp hv
      exact hl.2.1 v (List.mem_of_getElem? (h2 i v hi hn))
    · cases v <;> first | rfl | exact absurd rfl hn
  · obtain ⟨v, q1, q2, q3⟩ := pn_lv_mem.mp hq
    exact hl.2.2.2.2 q (pn_lv_mem.mpr ⟨v, h2 _ v q1 q2, q2, q3⟩)
end PNH
