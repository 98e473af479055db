/-! THE THINGS BEHIND THE CONSTRUCTORS: 97 of them, at base, base + 1, ..; their classes, lengths and references never change any more; a state is what their ints are. -/
abbrev pn_S : Type := Nat → Nat → Int32
/-- one int anew -/
def pn_up (σ : pn_S) (a k : Nat) (v : Int32) : pn_S := fun b j => if b = a then (if j = k then v else σ b j) else σ b j
/-- a row of ints anew -/
def pn_ua (σ : pn_S) (a : Nat) (f : Nat → Int32) : pn_S := fun b => if b = a then f else σ b
def pn_ks : List Nat := [9, 6, 12, 12, 12, 7, 12, 12, 7, 12, 12, 7, 12, 12, 2, 12, 12, 12, 12, 12, 12, 2, 12, 12, 12, 12, 12, 12, 2, 12, 12, 12, 12, 12, 12, 8, 3, 0, 12, 12, 12, 4, 13, 7, 12, 12, 7, 12, 12, 7, 12, 12, 7, 12, 12, 7, 12, 12, 7, 12, 12, 7, 12, 12, 7, 12, 12, 7, 12, 12, 7, 12, 12, 7, 12, 12, 7, 12, 12, 5, 12, 1, 12, 12, 12, 10, 12, 12, 12, 12, 12, 11, 12, 12, 12, 12, 14]
def pn_lens : List Nat := [0, 0, 400, 401, 401, 0, 64, 240, 0, 64, 240, 0, 64, 240, 0, 12, 12, 13, 400, 32, 27, 0, 12, 12, 13, 400, 32, 27, 0, 12, 12, 13, 400, 32, 27, 0, 0, 0, 8, 8, 8, 0, 12, 0, 64, 240, 0, 64, 240, 0, 64, 240, 0, 64, 240, 0, 64, 240, 0, 64, 240, 0, 64, 240, 0, 64, 240, 0, 64, 240, 0, 64, 240, 0, 64, 240, 0, 64, 240, 0, 8, 0, 6, 6, 21, 0, 2015, 1166, 1166, 317, 3804, 400, 5, 400, 8, 8, 1]
def pn_K (i : Nat) : Nat := pn_ks.getD i 99
def pn_L (i : Nat) : Nat := pn_lens.getD i 0
/-- how many fields a class has -/
def pn_N (c : Nat) : Nat := [8, 2, 11, 2, 3, 3, 8, 15, 2, 16, 21].getD c 0
/-- to which thing field k of thing i refers; none: it is an int -/
def pn_R (i k : Nat) : Option Nat := match pn_K i with
  | 0 => if k < 3 then some (i + 1 + k) else none
  | 1 => if k < 2 then some (i + 1 + k) else none
  | 2 => if k < 6 then some (i + 1 + k) else none
  | 3 => if k = 0 then some 1 else some 21
  | 4 => if k = 0 then some (i + 1) else none
  | 5 => if k = 0 then some (i + 1) else none
  | 6 => if k < 3 then some (i + 1 + k) else none
  | 7 => if k < 2 then some (i + 1 + k) else none
  | 8 => if k = 0 then some 1 else some 8
  | 9 => [1, 5, 8, 11, 14, 21, 28, 35, 36, 37, 41, 79, 81, 84][k]?
  | 10 => ([none, some 86, some 87, some 88, some 89, some 90, none, none, some 91, none, none, none, none, none, none, some 92, none, some 93, some 94, some 95, none] : List (Option Nat)).getD k none
  | _ => none
/-- what the launch is, where the things lie, the numbers of the classes and of the array classes, the script, the texts -/
abbrev pn_G : Type := Launch × Nat × va_G × (Nat → ClassId) × (Nat × Nat × (Nat → Int32)) × (Nat → Nat) × (Nat → Nat) × Option Nat
def pn_l (Γ : pn_G) : Launch := Γ.1
def pn_b (Γ : pn_G) : Nat := Γ.2.1
def pn_D (Γ : pn_G) : va_G := Γ.2.2.1
def pn_cy (Γ : pn_G) : Nat → ClassId := Γ.2.2.2.1
def pn_sc (Γ : pn_G) : Nat × Nat × (Nat → Int32) := Γ.2.2.2.2.1
def pn_ak (Γ : pn_G) : Nat → Nat := Γ.2.2.2.2.2.1
def pn_av (Γ : pn_G) : Nat → Nat := Γ.2.2.2.2.2.2.1
def pn_fm (Γ : pn_G) : Option Nat := Γ.2.2.2.2.2.2.2
/-- where a thing lies: 0 .. 96 the things, 5000 the script, 6000 + j the text j, 7000 + j its bytes -/
def pn_ad (Γ : pn_G) (i : Nat) : Nat := if i < 97 then pn_b Γ + i else if i = 5000 then (pn_sc Γ).1 else if i < 7000 then pn_ak Γ (i - 6000) else pn_av Γ (i - 7000)
def pn_tr (Γ : pn_G) : Value → Value
  | .ref i => .ref (pn_ad Γ i)
  | .float _ => va_rf (pn_fm Γ)
  | v => v
def pn_fv (Γ : pn_G) (σ : pn_S) (i k : Nat) : Value := match pn_R i k with
  | some t => .ref (pn_b Γ + t)
  | none => .int (σ i k)
def pn_ent (Γ : pn_G) (σ : pn_S) (i : Nat) : va_E :=
  if pn_K i ≤ 10 then .inr (pn_K i, (List.range (pn_N (pn_K i))).map (pn_fv Γ σ i))
  else if pn_K i = 13 then .inl (pn_cy Γ 13, pn_L i, .inr (.inr (.inr (.inr (fun j => some (pn_b Γ + (43 + 3 * j)))))))
  else if pn_K i = 14 then .inl (pn_cy Γ 14, pn_L i, .inr (.inl (fun j => (σ i j).toInt64)))
  else .inl (pn_cy Γ (pn_K i), pn_L i, .inl (σ i))
def pn_w (Γ : pn_G) (σ : pn_S) : va_W := (List.range 97).map (fun i => (pn_b Γ + i, pn_ent Γ σ i))
def pn_H (Γ : pn_G) (σ : pn_S) (H : Heap) : Prop := va_P (pn_D Γ) vwCl (pn_w Γ σ) H
def pn_ty (Γ : pn_G) : List (ClassId × FieldType) := [(pn_cy Γ 11, .byte), (pn_cy Γ 12, .int), (pn_cy Γ 13, .object "PanNights$Village"), (pn_cy Γ 14, .long)]
def pn_A (Γ : pn_G) : Nat → Prop := fun q => pn_b Γ ≤ q
theorem pn_up_s (σ : pn_S) (a k : Nat) (v : Int32) : pn_up σ a k v a k = v := by simp [pn_up]
theorem pn_up_k (σ : pn_S) (a k : Nat) (v : Int32) {j : Nat} (h : j ≠ k) : pn_up σ a k v a j = σ a j := by simp [pn_up, h]
theorem pn_up_a (σ : pn_S) (a k : Nat) (v : Int32) {b : Nat} (h : b ≠ a) : pn_up σ a k v b = σ b := by funext j; simp [pn_up, h]
theorem pn_up_row (σ : pn_S) (a k : Nat) (v : Int32) : pn_up σ a k v a = upd (σ a) k v := by
  funext j
  simp [pn_up, upd]
theorem pn_ua_s (σ : pn_S) (a : Nat) (f : Nat → Int32) : pn_ua σ a f a = f := by simp [pn_ua]
theorem pn_ua_a (σ : pn_S) (a : Nat) (f : Nat → Int32) {b : Nat} (h : b ≠ a) : pn_ua σ a f b = σ b := by simp [pn_ua, h]
theorem pn_w_get (Γ : pn_G) (σ : pn_S) {i : Nat} (h : i < 97) : (pn_w Γ σ)[i]? = some (pn_b Γ + i, pn_ent Γ σ i) := by
  unfold pn_w
  rw [List.getElem?_map, List.getElem?_range h]
  rfl
theorem pn_w_len (Γ : pn_G) (σ : pn_S) : (pn_w Γ σ).length = 97 := by simp [pn_w]
theorem pn_w_at {Γ : pn_G} {σ : pn_S} {i : Nat} {q : Nat × va_E} (h : (pn_w Γ σ)[i]? = some q) : i < 97 ∧ q = (pn_b Γ + i, pn_ent Γ σ i) := by
  have hi : i < 97 := by
    have := (List.getElem?_eq_some_iff.mp h).1
    rwa [pn_w_len] at this
  rw [pn_w_get Γ σ hi] at h
  exact ⟨hi, (Option.some.inj h).symm⟩
theorem pn_w_D (Γ : pn_G) (σ : pn_S) : va_D (pn_A Γ) (pn_w Γ σ) := by
  refine ⟨fun i j p q hp hq e => ?_, fun k q hk => ?_⟩
  · obtain ⟨-, rfl⟩ := pn_w_at hp
    obtain ⟨-, rfl⟩ := pn_w_at hq
    have e' : pn_b Γ + i = pn_b Γ + j := e
    omega
  · obtain ⟨-, rfl⟩ := pn_w_at hk
    exact Nat.le_add_right _ _
/-- a thing is put anew in the list: the list of the state that differs there alone -/
theorem pn_w_set {Γ : pn_G} {σ σ' : pn_S} {i : Nat} {E : va_E} (h : ∀ j, j < 97 → j ≠ i → pn_ent Γ σ' j = pn_ent Γ σ j) (hE : pn_ent Γ σ' i = E) : (pn_w Γ σ).set i (pn_b Γ + i, E) = pn_w Γ σ' := by
  apply List.ext_getElem?
  intro j
  rw [List.getElem?_set]
  by_cases hj : j < 97
  · by_cases hij : i = j
    · subst hij
      rw [if_pos rfl, if_pos (by rw [pn_w_len]; exact hj), pn_w_get Γ σ' hj, hE]
    · rw [if_neg hij, pn_w_get Γ σ hj, pn_w_get Γ σ' hj, h j hj (fun e => hij e.symm)]
  · have e1 : (pn_w Γ σ)[j]? = none := List.getElem?_eq_none (by rw [pn_w_len]; omega)
    have e2 : (pn_w Γ σ')[j]? = none := List.getElem?_eq_none (by rw [pn_w_len]; omega)
    by_cases hij : i = j
    · subst hij
      rw [if_pos rfl, if_neg (by rw [pn_w_len]; exact hj), e2]
    · rw [if_neg hij, e1, e2]
theorem pn_ent_congr {Γ : pn_G} {σ σ' : pn_S} {j : Nat} (h : σ' j = σ j) : pn_ent Γ σ' j = pn_ent Γ σ j := by
  have hf : ∀ k, pn_fv Γ σ' j k = pn_fv Γ σ j k := fun k => by unfold pn_fv; rw [h]
  unfold pn_ent
  rw [show pn_fv Γ σ' j = pn_fv Γ σ j from funext hf, h]
/-- a field -/
theorem pn_ent_obj {Γ : pn_G} {σ : pn_S} {i c : Nat} (hK : pn_K i = c) (hc : c ≤ 10) : pn_ent Γ σ i = .inr (c, (List.range (pn_N c)).map (pn_fv Γ σ i)) := by
  unfold pn_ent
  rw [hK, if_pos hc]
theorem pn_fs_get {Γ : pn_G} {σ : pn_S} {i N k : Nat} (hk : k < N) : ((List.range N).map (pn_fv Γ σ i))[k]? = some (pn_fv Γ σ i k) := by
  rw [List.getElem?_map, List.getElem?_range hk]
  rfl
theorem pn_fs_set {Γ : pn_G} {σ : pn_S} {i N k : Nat} {v : Int32} (hR : pn_R i k = none) : ((List.range N).map (pn_fv Γ σ i)).set k (.int v) = (List.range N).map (pn_fv Γ (pn_up σ i k v) i) := by
  apply List.ext_getElem?
  intro j
  rw [List.getElem?_set]
  by_cases hj : j < N
  · by_cases hkj : k = j
    · subst hkj
      rw [if_pos rfl, if_pos (by simpa using hj), pn_fs_get hj]
      unfold pn_fv
      rw [hR, pn_up_s]
    · rw [if_neg hkj, pn_fs_get hj, pn_fs_get hj]
      unfold pn_fv
      rw [pn_up_k σ i k v (fun e => hkj e.symm)]
  · have e1 : ((List.range N).map (pn_fv Γ σ i))[j]? = none := List.getElem?_eq_none (by simp; omega)
    have e2 : ((List.range N).map (pn_fv Γ (pn_up σ i k v) i))[j]? = none := List.getElem?_eq_none (by simp; omega)
    by_cases hkj : k = j
    · subst hkj
      rw [if_pos rfl, if_neg (by simpa using hj), e2]
    · rw [if_neg hkj, e1, e2]
theorem pn_w_put {Γ : pn_G} {σ : pn_S} {i c k : Nat} {v : Int32} (hK : pn_K i = c) (hc : c ≤ 10) (hR : pn_R i k = none) : (pn_w Γ σ).set i (pn_b Γ + i, .inr (c, ((List.range (pn_N c)).map (pn_fv Γ σ i)).set k (.int v))) = pn_w Γ (pn_up σ i k v) :=
  pn_w_set (fun j _ hj => pn_ent_congr (pn_up_a σ i k v hj)) (by rw [pn_ent_obj hK hc, pn_fs_set hR])
theorem pn_ent_int {Γ : pn_G} {σ : pn_S} {i : Nat} (hK : pn_K i = 12) : pn_ent Γ σ i = .inl (pn_cy Γ 12, pn_L i, .inl (σ i)) := by
  unfold pn_ent
  rw [hK, if_neg (by decide), if_neg (by decide), if_neg (by decide)]
theorem pn_ent_byte {Γ : pn_G} {σ : pn_S} {i : Nat} (hK : pn_K i = 11) : pn_ent Γ σ i = .inl (pn_cy Γ 11, pn_L i, .inl (σ i)) := by
  unfold pn_ent
  rw [hK, if_neg (by decide), if_neg (by decide), if_neg (by decide)]
theorem pn_ent_ref {Γ : pn_G} {σ : pn_S} {i : Nat} (hK : pn_K i = 13) : pn_ent Γ σ i = .inl (pn_cy Γ 13, pn_L i, .inr (.inr (.inr (.inr (fun j => some (pn_b Γ + (43 + 3 * j))))))) := by
  unfold pn_ent
  rw [hK, if_neg (by decide), if_pos rfl]
theorem pn_ent_long {Γ : pn_G} {σ : pn_S} {i : Nat} (hK : pn_K i = 14) : pn_ent Γ σ i = .inl (pn_cy Γ 14, pn_L i, .inr (.inl (fun j => (σ i j).toInt64))) := by
  unfold pn_ent
  rw [hK, if_neg (by decide), if_neg (by decide), if_pos rfl]
theorem pn_w_ast {Γ : pn_G} {σ : pn_S} {i k : Nat} {v : Int32} (hK : pn_K i = 12) : (pn_w Γ σ).set i (pn_b Γ + i, .inl (pn_cy Γ 12, pn_L i, .inl (upd (σ i) k v))) = pn_w Γ (pn_up σ i k v) :=
  pn_w_set (fun j _ hj => pn_ent_congr (pn_up_a σ i k v hj)) (by rw [pn_ent_int hK, pn_up_row])
theorem pn_w_bst {Γ : pn_G} {σ : pn_S} {i k : Nat} {v : Int32} (hK : pn_K i = 11) : (pn_w Γ σ).set i (pn_b Γ + i, .inl (pn_cy Γ 11, pn_L i, .inl (upd (σ i) k v))) = pn_w Γ (pn_up σ i k v) :=
  pn_w_set (fun j _ hj => pn_ent_congr (pn_up_a σ i k v hj)) (by rw [pn_ent_byte hK, pn_up_row])
theorem pn_w_lst {Γ : pn_G} {σ : pn_S} {i k : Nat} {v : Int32} (hK : pn_K i = 14) : (pn_w Γ σ).set i (pn_b Γ + i, .inl (pn_cy Γ 14, pn_L i, .inr (.inl (vp_updL (fun j => (σ i j).toInt64) k v.toInt64)))) = pn_w Γ (pn_up σ i k v) :=
  pn_w_set (fun j _ hj => pn_ent_congr (pn_up_a σ i k v hj)) (by
    rw [pn_ent_long hK]
    have e : (fun j => (pn_up σ i k v i j).toInt64) = vp_updL (fun j => (σ i j).toInt64) k v.toInt64 := by
      funext j
      by_cases h : j = k
      · subst h; simp [pn_up, vp_updL]
      · simp [pn_up, vp_updL, h]
    rw [e])
theorem pn_w_row {Γ : pn_G} {σ : pn_S} {i : Nat} {f : Nat → Int32} (hK : pn_K i = 12) : (pn_w Γ σ).set i (pn_b Γ + i, .inl (pn_cy Γ 12, pn_L i, .inl f)) = pn_w Γ (pn_ua σ i f) :=
  pn_w_set (fun j _ hj => pn_ent_congr (pn_ua_a σ i f hj)) (by rw [pn_ent_int hK, pn_ua_s])
/-- the words of the tables that stay true while the machine goes on -/
def pn_tk (w : Cond) : Bool := goodWord w || match w with
  | .fieldLinkNest .. => true
  | .methodLinkNest .. => true
  | .castable .. => true
  | .declares .. => true
  | _ => false
def pn_T : List Cond := lw_tbl.filter pn_tk
theorem pn_T_moved {s U : State} {args a' : Array Value} (hW : s.WarmedH U.vm) (h : ∀ w ∈ pn_T, w.before args s = true) : ∀ w ∈ pn_T, w.before a' U = true := by
  intro w hw
  have h0 := h w hw
  have hk : pn_tk w = true := (List.mem_filter.mp hw).2
  by_cases hg : goodWord w = true
  · exact word_at hW (good_of_word hg) h0
  · have hg' : goodWord w = false := by simpa using hg
    unfold pn_tk at hk
    rw [hg', Bool.false_or] at hk
    cases w <;> first | exact absurd hk Bool.false_ne_true | exact va_Nw.use rfl (va_Nw.warmF hW (va_Nw.of rfl h0)) | exact va_Nw.use rfl (va_Nw.warmM hW (va_Nw.of rfl h0)) | exact va_Nw.use rfl (va_Nw.warmC hW (va_Nw.of rfl h0)) | exact va_Nw.use rfl (va_Nw.warmD hW (va_Nw.of rfl h0))
/-- the texts: where they are named, what they are -/
def pn_str : List (String × Nat × String) := [("PanNights$Text", 84, "person needs thirst pride purse strange begins wrong feud with target rain watch fine ale night need spare pan if or and not wet who threshold borne"), ("PanNightsModel", 135, "person"), ("PanNightsModel", 109, "needs"), ("PanNightsModel", 114, "thirst"), ("PanNightsModel", 116, "pride"), ("PanNightsModel", 118, "purse"), ("PanNightsModel", 120, "strange"), ("PanNightsModel", 125, "begins"), ("PanNightsModel", 141, "wrong"), ("PanNightsModel", 146, "feud"), ("PanNightsModel", 133, "with"), ("PanNightsModel", 151, "target"), ("PanNightsModel", 156, "rain"), ("PanNightsModel", 158, "watch"), ("PanNightsModel", 160, "fine"), ("PanNightsModel", 162, "ale"), ("PanNightsModel", 164, "night"), ("PanNightsModel", 215, "need"), ("PanNightsModel", 217, "spare"), ("PanNightsModel", 219, "pan"), ("PanNightsModel", 221, "if"), ("PanNightsModel", 197, "not"), ("PanNightsModel", 189, "wet"), ("PanNightsModel", 169, "who"), ("PanNightsModel", 171, "threshold"), ("PanNightsModel", 173, "borne"), ("PanNightsModel", 208, "and"), ("PanNightsModel", 213, "or")]
def pn_sl : List Nat := [148, 6, 5, 6, 5, 5, 7, 6, 5, 4, 4, 6, 4, 5, 4, 3, 5, 4, 5, 3, 2, 3, 3, 3, 9, 5, 3, 2]
def pn_sb : List (List Int32) := [[112, 101, 114, 115, 111, 110, 32, 110, 101, 101, 100, 115, 32, 116, 104, 105, 114, 115, 116, 32, 112, 114, 105, 100, 101, 32, 112, 117, 114, 115, 101, 32, 115, 116, 114, 97, 110, 103, 101, 32, 98, 101, 103, 105, 110, 115, 32, 119, 114, 111, 110, 103, 32, 102, 101, 117, 100, 32, 119, 105, 116, 104, 32, 116, 97, 114, 103, 101, 116, 32, 114, 97, 105, 110, 32, 119, 97, 116, 99, 104, 32, 102, 105, 110, 101, 32, 97, 108, 101, 32, 110, 105, 103, 104, 116, 32, 110, 101, 101, 100, 32, 115, 112, 97, 114, 101, 32, 112, 97, 110, 32, 105, 102, 32, 111, 114, 32, 97, 110, 100, 32, 110, 111, 116, 32, 119, 101, 116, 32, 119, 104, 111, 32, 116, 104, 114, 101, 115, 104, 111, 108, 100, 32, 98, 111, 114, 110, 101], [112, 101, 114, 115, 111, 110], [110, 101, 101, 100, 115], [116, 104, 105, 114, 115, 116], [112, 114, 105, 100, 101], [112, 117, 114, 115, 101], [115, 116, 114, 97, 110, 103, 101], [98, 101, 103, 105, 110, 115], [119, 114, 111, 110, 103], [102, 101, 117, 100], [119, 105, 116, 104], [116, 97, 114, 103, 101, 116], [114, 97, 105, 110], [119, 97, 116, 99, 104], [102, 105, 110, 101], [97, 108, 101], [110, 105, 103, 104, 116], [110, 101, 101, 100], [115, 112, 97, 114, 101], [112, 97, 110], [105, 102], [110, 111, 116], [119, 101, 116], [119, 104, 111], [116, 104, 114, 101, 115, 104, 111, 108, 100], [98, 111, 114, 110, 101], [97, 110, 100], [111, 114]]
/-- exceptions that a row of a handlers' table with another name lets pass -/
def pn_nc : List (String × String) := [("java/lang/UnsupportedOperationException", "java/lang/IllegalArgumentException"), ("java/util/NoSuchElementException", "java/lang/IndexOutOfBoundsException"), ("java/lang/IllegalArgumentException", "java/lang/IndexOutOfBoundsException"), ("java/lang/IllegalStateException", "java/lang/IndexOutOfBoundsException")]
/-- what lies below the things and is never written -/
def pn_B (Γ : pn_G) (U : State) (H : Heap) : Prop :=
  vx_Zq Bundle.tN "UNASSIGNED_STACK" Bundle.steD (pn_A Γ) U H ∧ vx_Zq Bundle.tN "SUPPRESSED_SENTINEL" Bundle.listD (pn_A Γ) U H ∧ va_Z "java/lang/String" "COMPACT_STRINGS" "Z" (.int 1) (pn_A Γ) U H ∧ va_Z "jdk/internal/util/Preconditions" "SIOOBE_FORMATTER" "Ljava/util/function/BiFunction;" (va_rf (pn_fm Γ)) (pn_A Γ) U H ∧
  vk_S 28 pn_sl pn_sb (pn_ak Γ) (pn_av Γ) (pn_A Γ) U H ∧ (∀ (j : Nat) (q : String × Nat × String), pn_str[j]? = some q → vk_R q.1 q.2.1 q.2.2 (pn_ak Γ j) U) ∧ va_X (pn_sc Γ).1 (pn_sc Γ).2.1 (pn_sc Γ).2.2 U H ∧ (pn_sc Γ).1 < pn_b Γ ∧ ∀ q ∈ pn_nc, va_Nc q.1 q.2 U
theorem pn_B.moved {Γ : pn_G} {s U : State} {H : Heap} (hW : s.WarmedH U.vm) (h : pn_B Γ s H) : pn_B Γ U H := by
  obtain ⟨h1, h2, h3, h8, h4, h5, h6, h7⟩ := h
  exact ⟨h1.moved hW.alike, h2.moved hW.alike, h3.moved hW.alike, h8.moved hW.alike, h4.moved hW.alike, fun j q hj => (h5 j q hj).warm hW, h6.moved hW.alike, h7.1, fun q hq => va_Nc.moved hW.alike (h7.2 q hq)⟩
theorem pn_B.kept {Γ : pn_G} {U : State} {H H1 : Heap} (hq : ∀ a : Nat, a < H.size → ¬ pn_A Γ a → H1[a]? = H[a]?) (h : pn_B Γ U H) : pn_B Γ U H1 := by
  obtain ⟨h1, h2, h3, h8, h4, h5, h6, h7⟩ := h
  refine ⟨h1.kept hq, h2.kept hq, h3.kept hq, h8.kept hq, h4.kept hq, h5, h6.kept ?_, h7⟩
  obtain ⟨scr, hs, -⟩ := h6
  exact hq _ (Array.getElem?_eq_some_iff.mp hs).1 (by have := h7.1; unfold pn_A; omega)
