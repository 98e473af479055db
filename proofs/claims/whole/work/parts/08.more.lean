section PNM
variable {ρ : Type} {Γ : pn_G} {d d' : Nat} {M M' : pn_M} {φ : ρ → pn_O} {pc pc' idx i ci n : Nat} {ls ls' st st0 av : List Value} {σ : pn_S} {o : Option ρ} {r' : pn_O}
theorem pn_cat {av : List Value} (h : av.all (fun v => decide (v.category = 1)) = true) : ∀ v ∈ av, v.category = 1 := fun v hv => of_decide_eq_true (List.all_eq_true.mp h v hv)
theorem pn_le0 : pn_le [] [] := trivial
theorem pn_leN {a b : List Value} {y : Value} (h : pn_le a b) : pn_le (.null :: a) (y :: b) := h
theorem pn_leC {a b : List Value} {x y : Value} (e : x = y) (h : pn_le a b) : pn_le (x :: a) (y :: b) := by cases x <;> first | exact h | exact ⟨e, h⟩
/-- a village, a law, a row -/
def pn_isV (v : Nat) : Prop := (v < 97 ∧ pn_K v = 7) ∧ (v + 1 < 97 ∧ pn_K (v + 1) = 12 ∧ pn_L (v + 1) = 64) ∧ (v + 2 < 97 ∧ pn_K (v + 2) = 12 ∧ pn_L (v + 2) = 240)
def pn_isW (w : Nat) : Prop := (w < 97 ∧ pn_K w = 2) ∧ (w + 1 < 97 ∧ pn_K (w + 1) = 12 ∧ pn_L (w + 1) = 12) ∧ (w + 2 < 97 ∧ pn_K (w + 2) = 12 ∧ pn_L (w + 2) = 12) ∧ (w + 3 < 97 ∧ pn_K (w + 3) = 12 ∧ pn_L (w + 3) = 13) ∧ (w + 4 < 97 ∧ pn_K (w + 4) = 12 ∧ pn_L (w + 4) = 400) ∧ (w + 5 < 97 ∧ pn_K (w + 5) = 12 ∧ pn_L (w + 5) = 32) ∧ (w + 6 < 97 ∧ pn_K (w + 6) = 12 ∧ pn_L (w + 6) = 27)
def pn_isI (r n : Nat) : Prop := r < 97 ∧ pn_K r = 12 ∧ pn_L r = n
theorem pn_RVi {v k : Nat} (h : pn_K v = 7) (hk : 2 ≤ k) : pn_R v k = none := by unfold pn_R; rw [h]; exact if_neg (by omega)
theorem pn_RV0 {v : Nat} (h : pn_K v = 7) : pn_R v 0 = some (v + 1) := by unfold pn_R; rw [h]; rfl
theorem pn_RV1 {v : Nat} (h : pn_K v = 7) : pn_R v 1 = some (v + 2) := by unfold pn_R; rw [h]; rfl
theorem pn_RWi {v k : Nat} (h : pn_K v = 2) (hk : 6 ≤ k) : pn_R v k = none := by unfold pn_R; rw [h]; exact if_neg (by omega)
theorem pn_RW0 {v : Nat} (h : pn_K v = 2) : pn_R v 0 = some (v + 1) := by unfold pn_R; rw [h]; rfl
theorem pn_RW1 {v : Nat} (h : pn_K v = 2) : pn_R v 1 = some (v + 2) := by unfold pn_R; rw [h]; rfl
theorem pn_RW2 {v : Nat} (h : pn_K v = 2) : pn_R v 2 = some (v + 3) := by unfold pn_R; rw [h]; rfl
theorem pn_RW3 {v : Nat} (h : pn_K v = 2) : pn_R v 3 = some (v + 4) := by unfold pn_R; rw [h]; rfl
theorem pn_RW4 {v : Nat} (h : pn_K v = 2) : pn_R v 4 = some (v + 5) := by unfold pn_R; rw [h]; rfl
theorem pn_RW5 {v : Nat} (h : pn_K v = 2) : pn_R v 5 = some (v + 6) := by unfold pn_R; rw [h]; rfl
theorem pn_isV_p : ∀ j, j < 12 → pn_isV (43 + 3 * j) := by
  have h : ∀ j, j < 12 → ((43 + 3 * j < 97 ∧ pn_K (43 + 3 * j) = 7) ∧ (43 + 3 * j + 1 < 97 ∧ pn_K (43 + 3 * j + 1) = 12 ∧ pn_L (43 + 3 * j + 1) = 64) ∧ (43 + 3 * j + 2 < 97 ∧ pn_K (43 + 3 * j + 2) = 12 ∧ pn_L (43 + 3 * j + 2) = 240)) := by decide +kernel
  exact h
theorem pn_isV_past {x : Int32} (h : pn_ib x 12 = true) : pn_isV (43 + 3 * x.toNatClampNeg) := by
  obtain ⟨j, hj, rfl⟩ := vp_in_of (pn_ib_in h) (by decide)
  rw [nI_clamp (by omega)]
  exact pn_isV_p j hj
/-- switches -/
def pn_all : List Int32 → Int32 → Prop
  | [], _ => True
  | v :: r, x => ¬ x = v ∧ pn_all r x
theorem pn_a0 {x : Int32} : pn_all [] x := trivial
theorem pn_an {x v : Int32} {r : List Int32} (h : ¬ x = v) (k : pn_all r x) : pn_all (v :: r) x := ⟨h, k⟩
theorem pn_all_not {x : Int32} : ∀ {r : List Int32}, pn_all r x → x ∉ r
  | [], _, h => nomatch h
  | v :: r, k, h => (List.mem_cons.mp h).elim k.1 (pn_all_not k.2)
theorem pn_tabc {x v : Int32} {dflt lo hi off : Int} {offs : Array Int} {len tgt : Nat} {oa ob : Option ρ} (hd : decode M.2.1 pc = .ok (.tableswitch dflt lo hi offs, len)) (h1 : ¬ v.toInt < lo) (h2 : ¬ hi < v.toInt) (ho : offs[(v.toInt - lo).toNat]? = some off) (ht : (pc : Int) + off = (tgt : Int))
    (k1 : x = v → pn_W9 Γ d M φ tgt ls st σ oa) (k2 : ¬ x = v → pn_W9 Γ d M φ pc ls (.int x :: st) σ ob) : pn_W9 Γ d M φ pc ls (.int x :: st) σ (if x = v then oa else ob) := by
  by_cases h : x = v
  · rw [if_pos h]
    intro r hr p e R s m args below meth c H locs cells slots jls A9 hH hS hc hs hl
    have k9 := k1 h r hr p e R s m args below meth c H locs cells slots jls A9 hH hS hc hs hl
    subst h
    exact lv_tableIn A9.1 A9.2.1 hd h1 h2 ho ht k9
  · rw [if_neg h]; exact k2 h
theorem pn_tabd {x : Int32} {dflt lo hi : Int} {offs : Array Int} {len tgt : Nat} (vals : List Int32) (hd : decode M.2.1 pc = .ok (.tableswitch dflt lo hi offs, len)) (hz : (offs.size : Int) = hi - lo + 1) (hall : (List.range offs.size).all (fun k => decide (offs[k]? = some dflt ∨ (Int32.ofInt (lo + k) ∈ vals ∧ (Int32.ofInt (lo + k)).toInt = lo + k))) = true) (ht : (pc : Int) + dflt = (tgt : Int)) (hx : pn_all vals x)
    (kk : pn_W9 Γ d M φ tgt ls st σ o) : pn_W9 Γ d M φ pc ls (.int x :: st) σ o := by
  intro r hr p e R s m args below meth c H locs cells slots jls A9 hH hS hc hs hl
  have k9 := kk r hr p e R s m args below meth c H locs cells slots jls A9 hH hS hc hs hl
  by_cases hin : x.toInt < lo ∨ hi < x.toInt
  · exact lv_tableOut A9.1 A9.2.1 hd hin ht k9
  · have h1 : ¬ x.toInt < lo := fun h => hin (Or.inl h)
    have h2 : ¬ hi < x.toInt := fun h => hin (Or.inr h)
    have hk : (x.toInt - lo).toNat < offs.size := by omega
    have h3 := of_decide_eq_true (List.all_eq_true.mp hall _ (List.mem_range.mpr hk))
    rcases h3 with h3 | ⟨h3, h4⟩
    · exact lv_tableIn A9.1 A9.2.1 hd h1 h2 h3 ht k9
    · exfalso
      refine pn_all_not hx ?_
      have e9 : x = Int32.ofInt (lo + ((x.toInt - lo).toNat : Nat)) := Int32.toInt_inj.mp (by rw [h4]; omega)
      rw [e9]; exact h3
theorem pn_lokc {x v : Int32} {dflt : Int} {ps : Array (Int × Int)} {len tgt : Nat} {oa ob : Option ρ} (off : Int) (hd : decode M.2.1 pc = .ok (.lookupswitch dflt ps, len)) (hp : (ps.toList.zip (ps.toList.drop 1)).all (fun (a, next) => a.1 < next.1) = true) (ho : Op.lookupswitch.offset ps.toList dflt v.toInt = off) (ht : (pc : Int) + off = (tgt : Int))
    (k1 : x = v → pn_W9 Γ d M φ tgt ls st σ oa) (k2 : ¬ x = v → pn_W9 Γ d M φ pc ls (.int x :: st) σ ob) : pn_W9 Γ d M φ pc ls (.int x :: st) σ (if x = v then oa else ob) := by
  by_cases h : x = v
  · rw [if_pos h]
    intro r hr p e R s m args below meth c H locs cells slots jls A9 hH hS hc hs hl
    have k9 := k1 h r hr p e R s m args below meth c H locs cells slots jls A9 hH hS hc hs hl
    subst h
    exact lv_lookup A9.1 A9.2.1 hd hp ho ht k9
  · rw [if_neg h]; exact k2 h
theorem pn_lokd {x : Int32} {dflt off : Int} {ps : Array (Int × Int)} {len tgt : Nat} (hd : decode M.2.1 pc = .ok (.lookupswitch dflt ps, len)) (hp : (ps.toList.zip (ps.toList.drop 1)).all (fun (a, next) => a.1 < next.1) = true) (ho : Op.lookupswitch.offset ps.toList dflt x.toInt = off) (ht : (pc : Int) + off = (tgt : Int))
    (kk : pn_W9 Γ d M φ tgt ls st σ o) : pn_W9 Γ d M φ pc ls (.int x :: st) σ o := by
  intro r hr p e R s m args below meth c H locs cells slots jls A9 hH hS hc hs hl
  exact lv_lookup A9.1 A9.2.1 hd hp ho ht (kk r hr p e R s m args below meth c H locs cells slots jls A9 hH hS hc hs hl)
/-- a whole row of ints copied -/
def pn_AC (own : String) (idx : Nat) : Prop := Cond.methodLink own idx arraycopyName ∈ pn_T ∧ Cond.native arraycopyName ∈ lw_tbl ∧ Cond.static arraycopyName ∈ pn_T ∧ Cond.initialized "java/lang/System" ∈ pn_T
/-- texts -/
theorem pn_trs {j : Nat} (h : j < 28) : pn_tr Γ (.ref (6000 + j)) = .ref (pn_ak Γ j) := by
  have h1 : ¬ 6000 + j < 97 := by omega
  have h2 : ¬ 6000 + j = 5000 := by omega
  have h3 : 6000 + j < 7000 := by omega
  have h4 : 6000 + j - 6000 = j := by omega
  simp [pn_tr, pn_ad, h1, h2, h3, h4]
theorem pn_trb {j : Nat} (h : j < 28) : pn_tr Γ (.ref (7000 + j)) = .ref (pn_av Γ j) := by
  have h1 : ¬ 7000 + j < 97 := by omega
  have h2 : ¬ 7000 + j = 5000 := by omega
  have h3 : ¬ 7000 + j < 7000 := by omega
  have h4 : 7000 + j - 7000 = j := by omega
  simp [pn_tr, pn_ad, h1, h2, h3, h4]
theorem pn_ldcs {j : Nat} {tx : String} (hd : decode M.2.1 pc = .ok (.ldc idx, 2)) (hp : pc + 2 = pc') (hj : pn_str[j]? = some (M.1.cls, idx, tx)) (h28 : j < 28) (kk : pn_W9 Γ d M φ pc' ls (.ref (6000 + j) :: st) σ o) : pn_W9 Γ d M φ pc ls st σ o := by
  subst hp
  intro r hr p e R s m args below meth c H locs cells slots jls A9 hH hS hc hs hl
  have k9 := kk r hr p e R s m args below meth c H locs cells slots jls A9 hH hS hc hs hl
  rw [List.map_cons, pn_trs h28] at k9
  exact va_ldcS A9.1 A9.2.1 A9.2.2.2.2.1 (A9.2.2.2.2.2.2.2.2.2.1.2.2.2.2.2.1 j _ hj) hd k9
theorem pn_strv {j : Nat} (hd : decode M.2.1 pc = .ok (.getfield idx, 3)) (hp : pc + 3 = pc') (hw : Cond.fieldLink M.1.cls idx "java/lang/String" "value" "[B" ∈ pn_T) (h28 : j < 28) (kk : pn_W9 Γ d M φ pc' ls (.ref (7000 + j) :: st) σ o) : pn_W9 Γ d M φ pc ls (.ref (6000 + j) :: st) σ o := by
  subst hp
  intro r hr p e R s m args below meth c H locs cells slots jls A9 hH hS hc hs hl
  have k9 := kk r hr p e R s m args below meth c H locs cells slots jls A9 hH hS hc hs hl
  rw [List.map_cons, pn_trb h28] at k9
  rw [List.map_cons, pn_trs h28]
  exact vk_getf A9.1 A9.2.1 (A9.2.2.2.2.2.2.2.2.2.1.2.2.2.2.1.1 j h28).2.2.1 hS A9.2.2.2.2.1 (A9.2.2.2.2.2.1 _ hw) (fun x h => h) hd k9
theorem pn_strc {j : Nat} (hd : decode M.2.1 pc = .ok (.getfield idx, 3)) (hp : pc + 3 = pc') (hw : Cond.fieldLink M.1.cls idx "java/lang/String" "coder" "B" ∈ pn_T) (h28 : j < 28) (kk : pn_W9 Γ d M φ pc' ls (.int 0 :: st) σ o) : pn_W9 Γ d M φ pc ls (.ref (6000 + j) :: st) σ o := by
  subst hp
  intro r hr p e R s m args below meth c H locs cells slots jls A9 hH hS hc hs hl
  have k9 := kk r hr p e R s m args below meth c H locs cells slots jls A9 hH hS hc hs hl
  rw [List.map_cons, pn_trs h28]
  exact vk_getf A9.1 A9.2.1 (A9.2.2.2.2.2.2.2.2.2.1.2.2.2.2.1.1 j h28).2.1 hS A9.2.2.2.2.1 (A9.2.2.2.2.2.1 _ hw) (fun x h => h) hd k9
theorem pn_strb {j : Nat} {x : Int32} {oa : Option ρ} (hd : decode M.2.1 pc = .ok (.baload, 1)) (hp : pc + 1 = pc') (h28 : j < 28) (kk : pn_W9 Γ d M φ pc' ls (.int ((pn_sb.getD j []).getD x.toNatClampNeg 0) :: st) σ oa) : pn_W9 Γ d M φ pc ls (.int x :: .ref (7000 + j) :: st) σ (if pn_ib x (pn_sl.getD j 0) then oa else none) := by
  subst hp
  by_cases hib : pn_ib x (pn_sl.getD j 0) = true
  · rw [if_pos hib]
    intro r hr p e R s m args below meth c H locs cells slots jls A9 hH hS hc hs hl
    have k9 := kk r hr p e R s m args below meth c H locs cells slots jls A9 hH hS hc hs hl
    rw [List.map_cons, List.map_cons, pn_trb h28]
    exact va_tb A9.1 A9.2.1 (A9.2.2.2.2.2.2.2.2.2.1.2.2.2.2.1.1 j h28).2.2.2 hS (pn_ib_in hib) rfl hd k9
  · rw [if_neg hib]; exact pn_none
theorem pn_strl {j : Nat} (hd : decode M.2.1 pc = .ok (.arraylength, 1)) (hp : pc + 1 = pc') (h28 : j < 28) (kk : pn_W9 Γ d M φ pc' ls (.int (Int32.ofNat (pn_sl.getD j 0)) :: st) σ o) : pn_W9 Γ d M φ pc ls (.ref (7000 + j) :: st) σ o := by
  subst hp
  intro r hr p e R s m args below meth c H locs cells slots jls A9 hH hS hc hs hl
  have k9 := kk r hr p e R s m args below meth c H locs cells slots jls A9 hH hS hc hs hl
  rw [List.map_cons, pn_trb h28]
  exact va_tlen A9.1 A9.2.1 (A9.2.2.2.2.2.2.2.2.2.1.2.2.2.2.1.1 j h28).2.2.2 hS rfl hd k9
theorem pn_cs (hd : decode M.2.1 pc = .ok (.getstatic idx, 3)) (hp : pc + 3 = pc') (hw : Cond.fieldLink M.1.cls idx "java/lang/String" "COMPACT_STRINGS" "Z" ∈ pn_T) (kk : pn_W9 Γ d M φ pc' ls (.int 1 :: st) σ o) : pn_W9 Γ d M φ pc ls st σ o := by
  subst hp
  intro r hr p e R s m args below meth c H locs cells slots jls A9 hH hS hc hs hl
  exact va_gets A9.1 A9.2.1 A9.2.2.2.2.2.2.2.2.2.1.2.2.1 hS A9.2.2.2.2.1 (A9.2.2.2.2.2.1 _ hw) (fun x h => h) hd (kk r hr p e R s m args below meth c H locs cells slots jls A9 hH hS hc hs hl)
theorem pn_gsf (hd : decode M.2.1 pc = .ok (.getstatic idx, 3)) (hp : pc + 3 = pc') (hw : Cond.fieldLink M.1.cls idx "jdk/internal/util/Preconditions" "SIOOBE_FORMATTER" "Ljava/util/function/BiFunction;" ∈ pn_T) (kk : pn_W9 Γ d M φ pc' ls (.float 0 :: st) σ o) : pn_W9 Γ d M φ pc ls st σ o := by
  subst hp
  intro r hr p e R s m args below meth c H locs cells slots jls A9 hH hS hc hs hl
  exact va_gets A9.1 A9.2.1 A9.2.2.2.2.2.2.2.2.2.1.2.2.2.1 hS A9.2.2.2.2.1 (A9.2.2.2.2.2.1 _ hw) (fun x h => h) hd (kk r hr p e R s m args below meth c H locs cells slots jls A9 hH hS hc hs hl)
/-- a text's own method -/
def pn_LT (own : String) (idx : Nat) (M' : pn_M) (n : Nat) : Prop :=
  Cond.methodLink own idx M'.1 ∈ pn_T ∧ Cond.instanceMethod M'.1 ∈ pn_T ∧ Cond.selects M'.1.cls M'.1 M'.1 ∈ pn_T ∧ Cond.initialized M'.1.cls ∈ pn_T ∧ Cond.code M'.1 M'.2.1 M'.2.2.1 M'.2.2.2.1 ∈ pn_T ∧
  (M'.1.cls ≠ "java/lang/invoke/MethodHandle" ∧ M'.1.cls ≠ "java/lang/invoke/VarHandle") ∧ (parseMethodDescriptor M'.1.desc).map (fun q => q.parameters.length) = some n ∧ M'.1.cls = "java/lang/String" ∧ M'.2.2.1 ≤ 45
theorem pn_LKT {j : Nat} (hd : decode M.2.1 pc = .ok (.invokevirtual idx, 3)) (hL : pn_LT M.1.cls idx M' n) (hC : pn_C Γ d' M' (.ref (6000 + j) :: av) σ r') (hdd : d' < d) (h28 : j < 28) (hn : av.length = n) (hst : av.reverse ++ .ref (6000 + j) :: st = st0) (hw : (st.map fun v => v.category).sum ≤ 8) : pn_LK Γ d M pc ls st0 st σ r' := by
  intro p e R s m args below meth c H locs cells slots jls A9 hH hS hc hs hl
  obtain ⟨hx, hb, hr, hml, hown, hT, hK9, hlk, het, hB, hRf, hRl, htr⟩ := A9
  obtain ⟨h1, h2, h3, h4, h5, h6, h7, h8, h10⟩ := hL
  have ha : pn_tr Γ (.ref (6000 + j)) = .ref (pn_ak Γ j) := pn_trs h28
  have hB' : pn_B Γ s H := pn_B.kept (fun a h9 h8 => hS.2.1 a h9 h8) hB
  refine ⟨_, vx_runV (own := M.1.cls) (C := M'.1.cls) (index := idx) (b := pn_ak Γ j) (As := av.map (pn_tr Γ)) (bytes := M'.2.1) (maxL := M'.2.2.1) (ret := M'.2.2.2.1) (n := n) (cc := M.2.1) (nL := M.2.2.1) (Ts := pn_T) ⟨hx, hb, hml, hown, hT⟩ hC ?_ ⟨pn_P_blind, by rw [h8]; exact vk_recv hB.2.2.2.2.1 h28 hS, fun U hU hW => ⟨by rw [List.map_cons, ha], pn_pre hW hU hH hK9 hT hB' htr⟩⟩ rfl (by rw [List.length_map]; exact hn) hl.2.2.1 ?_ (lv_room (pn_wt hw)) hd ⟨hc, hs⟩⟩
  · refine ⟨⟨rfl, rfl, ?_, ?_, ?_, List.mem_cons_self, hT _ h5, hT _ h4, h6, pn_nsig h7, hT _ h1⟩, hT _ h2, hT _ h3⟩
    · show d' + 12 + 1 ≤ R.frames; omega
    · exact pn_loc hdd h10 hRl
    · intro w hw9 a' U hW
      rw [List.mem_singleton] at hw9
      rw [hw9]
      exact pn_T_moved hW hT _ h5
  · show st0.map (pn_tr Γ) = _
    rw [← hst, List.map_append, List.map_cons, ha, List.map_reverse]
end PNM
