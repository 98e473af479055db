section PNX
variable {ρ : Type} {Γ : pn_G} {d d' : Nat} {M M' : pn_M} {φ : ρ → pn_O} {pc pc' idx i n : Nat} {ls ls' st st0 av : List Value} {σ : pn_S} {o : Option ρ} {r' : pn_O}
/-- an end of one that catches: the value, the state, how many exceptions were made -/
def pn_w3 : Int32 × pn_S × Nat → pn_O := fun r => (.inl (some r.1), r.2.1, r.2.2)
/-- what comes behind a call whose exceptions are caught: h tells the answer by the exception -/
def pn_bc (o' : Option ((Int32 ⊕ String) × pn_S)) (k : Int32 → pn_S → Option (Int32 × pn_S × Nat)) (h : String → Option Int32) : Option (Int32 × pn_S × Nat) := match o' with
  | none => none
  | some (.inl v, σ) => k v σ
  | some (.inr E, σ) => match h E with
    | none => none
    | some c => some (c, σ, 1)
/-- the handlers' table takes E thrown at pc to a handler that drops it and answers c -/
def pn_HC (M : pn_M) (pc : Nat) (E : String) (c : Int32) : Prop :=
  ∃ (pre : List ExceptionTableEntry) (x : ExceptionTableEntry) (suf : List ExceptionTableEntry) (name : String) (i len : Nat) (n : Int), tableOf M.2.2.2.2 = pre ++ x :: suf ∧
    (∀ z ∈ pre, covers z pc = false ∨ (z.catchType ≠ 0 ∧ ∃ nm : String, Cond.classLink M.1.cls z.catchType nm ∈ pn_T ∧ (E, nm) ∈ pn_nc)) ∧ covers x pc = true ∧ x.catchType ≠ 0 ∧ Cond.classLink M.1.cls x.catchType name ∈ pn_T ∧ Cond.castable E name ∈ pn_T ∧
    i < M.2.2.1 ∧ (decode M.2.1 x.handlerPc = .ok (.astore i, 2) ∧ len = 2 ∨ ∃ k9 : Fin 4, (k9 : Nat) = i ∧ decode M.2.1 x.handlerPc = .ok (.astore_n k9, 1) ∧ len = 1) ∧ decode M.2.1 (x.handlerPc + len) = .ok (.iconst n, 1) ∧ Int32.ofInt n = c ∧ decode M.2.1 (x.handlerPc + len + 1) = .ok (.ireturn, 1) ∧ M.2.2.2.1 = some .int
theorem pn_cxc {o' : Option ((Int32 ⊕ String) × pn_S)} {k : Int32 → pn_S → Option (Int32 × pn_S × Nat)} {h : String → Option Int32} (hL : ∀ r', o' = some r' → pn_LK Γ d M pc ls st0 st σ (pn_xi r')) (hp : pc + 3 = pc')
    (hx : ∀ E c, h E = some c → pn_HC M pc E c) (kk : ∀ (v : Int32) (σ' : pn_S), pn_W9 Γ d M pn_w3 pc' ls (.int v :: st) σ' (k v σ')) : pn_W9 Γ d M pn_w3 pc ls st0 σ (pn_bc o' k h) := by
  subst hp
  intro r hr p e R s m args below meth c H locs cells slots jls A9 hH hS hc hs hl
  match o', hL, hr with
  | none, hL, hr => cases hr
  | some (.inl v, σ'), hL, hr =>
    have hr : k v σ' = some r := hr
    obtain ⟨a, hrun⟩ := hL _ rfl p e R s m args below meth c H locs cells slots jls A9 hH hS (Nat.le_trans (Nat.le_add_right _ _) hc) (Nat.le_trans (Nat.le_add_right _ _) hs) hl
    refine pn_back (r' := pn_xi (.inl v, σ')) hS hrun (fun v H1 locs1 hv hH1 hS1 => ?_) (fun E ce q H1 locs1 hE => by cases hE)
    cases hv
    exact kk _ _ r hr p e R s m args below meth c H1 locs1 cells slots jls A9 hH1 hS1 hc hs hl
  | some (.inr E, σ'), hL, hr =>
    have hr : (match h E with | none => none | some c => some (c, σ', 1)) = some r := hr
    cases hh : h E with
    | none => rw [hh] at hr; cases hr
    | some c9 =>
      rw [hh] at hr
      have hr : some (c9, σ', 1) = some r := hr
      cases hr
      obtain ⟨a, hrun⟩ := hL _ rfl p e R s m args below meth c H locs cells slots jls A9 hH hS hc hs hl
      refine pn_back (r' := pn_xi (.inr E, σ')) hS hrun (fun v H1 locs1 hv => by cases hv) (fun E' ce q H1 locs1 hE hH1 hS1 h1 h2 h3 => ?_)
      cases hE
      obtain ⟨hx9, hb, hr9, hml, hown, hT, hK9, hlk, het, hB, hRf, hRl, htr⟩ := A9
      obtain ⟨pre, x, suf, name, i, len, n, g1, g2, g3, g4, g5, g6, g7, g8, g9, g10, g11, g12⟩ := hx E c9 hh
      refine vx_catch hown pre x suf (by rw [het]; exact g1) (fun z hz => ?_) g3 g4 (hT _ g5) (hT _ g6) h1 h2 h3 ?_
      · rcases g2 z hz with h9 | ⟨h9, nm, h10, h11⟩
        · exact Or.inl h9
        · exact Or.inr ⟨h9, nm, hT _ h10, hB.2.2.2.2.2.2.2.2 _ h11⟩
      · have fin : ∀ jls' : Array Slot, W p (pn_l Γ) e R s m args below meth c H1 locs1 (cells + 1) (slots + 6 * 1) (vx_MQ below (pn_Q Γ (pn_w3 (c9, σ', 1))) (pn_X Γ (pn_w3 (c9, σ', 1))) args s (cells + 1) (slots + 6 * 1) (pn_A Γ)) (F0 m (x.handlerPc + len) jls' []) := by
          intro jls'
          refine lv_iconst hx9 hb g9 g10 ?_
          refine vx_ret ?_
          exact W.iret hx9 hb (by rw [hr9]; exact g12) (fun t ht hW => ⟨some c9, rfl, rfl, by rw [ht]; exact hH1, hS1.F ht⟩) hS1.2.2 g11 hlk
        rcases g8 with ⟨g8, rfl⟩ | ⟨k9, hk9, g8, rfl⟩
        · exact lv_astore hx9 hb g8 hl.2.2 g7 rfl (fun jls' _ => fin jls')
        · exact lv_astore_n hx9 hb g8 hk9 hl.2.2 g7 rfl (fun jls' _ => fin jls')
/-- contracts of methods with a handlers' table -/
def pn_CH (Γ : pn_G) (d : Nat) (M : pn_M) (av : List Value) (σ : pn_S) (r : pn_O) : Prop :=
  vx_Met (pn_l Γ) M.1 [Cond.codeWith M.1 M.2.1 M.2.2.1 M.2.2.2.1 M.2.2.2.2] (pn_rm d r.2.2) (pn_P Γ av σ) (pn_Q Γ r) (pn_X Γ r) r.2.2 (6 * r.2.2) (pn_A Γ)
/-- the same, of a method with a handlers' table -/
theorem pn_ofH {ρ : Type} {Γ : pn_G} {d : Nat} {M : pn_M} {φ : ρ → pn_O} {av ls : List Value} {σ : pn_S} {o : Option ρ} (hy : plainName M.1.cls = true) (hc : ∀ v ∈ av, v.category = 1) (hl : av ++ List.replicate (M.2.2.1 - av.length) Value.null = ls) (hn : av.length ≤ M.2.2.1)
    (k : pn_W9 Γ d M φ 0 ls [] σ o) : ∀ r, o = some r → pn_CH Γ d M av σ (φ r) := by
  intro r hr
  refine vx_ofWH (cc := M.2.1) (maxL := M.2.2.1) (ret := M.2.2.2.1) (hh := M.2.2.2.2) hy rfl ?_
  intro p e s m args below meth c s₁ B hml hP
  obtain ⟨rfl, hH, hK, hT, hB, hst⟩ := hP
  have hown : s.vm.findClass M.1.cls = some m.cls := findClass_of_methodNamed B.named
  have hT' : ∀ w ∈ pn_T, w.before (av.map (pn_tr Γ)).toArray s = true := pn_T_moved (State.WarmedH.refl s) hT
  have het : c.exceptionTable.toList = tableOf M.2.2.2.2 := vx_table (x := M.1) B (atoms_spec (ws := [Cond.codeWith M.1 M.2.1 M.2.2.1 M.2.2.2.1 M.2.2.2.2]) B.pre _ List.mem_cons_self)
  have hsl := pn_sl_len (Γ := Γ) av hc
  have hlv := lv_entry (av.map (pn_tr Γ)) (n := M.2.2.1) (by rw [hsl]; exact hn)
  rw [lg_entry_eq]
  generalize (lg_sl (av.map (pn_tr Γ)) ++ List.replicate (M.2.2.1 - (lg_sl (av.map (pn_tr Γ))).length) Slot.unset).toArray = jls at hlv ⊢
  have hjl : pn_ls Γ M.2.2.1 ls jls := by
    subst hl
    refine ⟨by simp; omega, fun v hv => ?_, hlv.1, hlv.2.1, fun q hq => ?_⟩
    · rcases List.mem_append.mp hv with h | h
      · exact hc v h
      · rw [(List.mem_replicate.mp h).2]; rfl
    · obtain ⟨v, h1, h2, h3⟩ := pn_lv_mem.mp hq
      refine hlv.2.2 q (pn_args av 0 hc q ⟨q.1, by omega, v, ?_, h3⟩)
      rw [List.getElem?_append] at h1
      by_cases hq1 : q.1 < av.length
      · rw [if_pos hq1] at h1; exact h1
      · rw [if_neg hq1, List.getElem?_replicate] at h1
        by_cases hq2 : q.1 - av.length < M.2.2.1 - av.length
        · rw [if_pos hq2] at h1
          cases h1
          cases h2
        · rw [if_neg hq2] at h1; cases h1
  have w := k r hr p e (headSpec [Cond.codeWith M.1 M.2.1 M.2.2.1 M.2.2.2.1 M.2.2.2.2] (pn_rm d (φ r).2.2)).room s m (av.map (pn_tr Γ)).toArray below meth c s.heap [] 0 0 jls
    ⟨B.exec, B.bytes, B.returns, hml, hown, hT', hK, B.notSynchronized, het, hB, Nat.le_refl _, Nat.le_refl _, hst⟩ hH va_S.rf (by rw [Nat.zero_add]; exact Nat.le_refl _) (by rw [Nat.zero_add]; exact Nat.le_refl _) hjl
  rw [Nat.zero_add, Nat.zero_add] at w
  exact w
/-- a static method with a handlers' table -/
def pn_LH (own : String) (idx : Nat) (M' : pn_M) (n : Nat) : Prop :=
  Cond.methodLink own idx M'.1 ∈ pn_T ∧ Cond.static M'.1 ∈ pn_T ∧ Cond.initialized M'.1.cls ∈ pn_T ∧ Cond.codeWith M'.1 M'.2.1 M'.2.2.1 M'.2.2.2.1 M'.2.2.2.2 ∈ pn_T ∧
  (M'.1.cls ≠ "java/lang/invoke/MethodHandle" ∧ M'.1.cls ≠ "java/lang/invoke/VarHandle") ∧ (parseMethodDescriptor M'.1.desc).map (fun q => q.parameters.length) = some n ∧ M'.2.2.1 ≤ 45
theorem pn_LKH (hd : decode M.2.1 pc = .ok (.invokestatic idx, 3)) (hL : pn_LH M.1.cls idx M' n) (hC : pn_CH Γ d' M' av σ r') (hdd : d' < d) (hn : av.length = n) (hst : av.reverse ++ st = st0) (hw : (st.map fun v => v.category).sum ≤ 8) : pn_LK Γ d M pc ls st0 st σ r' := by
  intro p e R s m args below meth c H locs cells slots jls A9 hH hS hc hs hl
  obtain ⟨hx, hb, hr, hml, hown, hT, hK9, hlk, het, hB, hRf, hRl, htr⟩ := A9
  obtain ⟨h1, h2, h4, h5, h6, h7, h10⟩ := hL
  have hB' : pn_B Γ s H := pn_B.kept (fun a h9 h8 => hS.2.1 a h9 h8) hB
  refine ⟨_, vx_runSX (own := M.1.cls) (index := idx) (As := av.map (pn_tr Γ)) (bytes := M'.2.1) (maxL := M'.2.2.1) (ret := M'.2.2.2.1) (hh := M'.2.2.2.2) (n := n) (cc := M.2.1) (nL := M.2.2.1) (Ts := pn_T) ⟨hx, hb, hml, hown, hT⟩ hC ?_ ⟨pn_P_blind, fun U hU hW => ⟨rfl, pn_pre hW hU hH hK9 hT hB' htr⟩⟩ rfl (by rw [List.length_map]; exact hn) hl.2.2.1 ?_ (lv_room (pn_wt hw)) hd ⟨hc, hs⟩⟩
  · refine ⟨⟨rfl, rfl, ?_, ?_, ?_, List.mem_cons_self⟩, hT _ h5, hT _ h4, h6, pn_nsig h7, hT _ h1, hT _ h2⟩
    · show d' + 12 + 1 ≤ R.frames; omega
    · exact pn_loc hdd h10 hRl
    · intro w hw9 a' U hW
      rw [List.mem_singleton] at hw9
      rw [hw9]
      exact pn_T_moved hW hT _ h5
  · show st0.map (pn_tr Γ) = _
    rw [← hst, List.map_append, List.map_reverse]
/-- what comes behind a call of one that catches -/
def pn_bw (o' : Option (Int32 × pn_S × Nat)) (k : Int32 → pn_S → Option (Int32 × pn_S × Nat)) : Option (Int32 × pn_S × Nat) := match o' with
  | none => none
  | some (v, σ, k1) => (k v σ).map (fun r => (r.1, r.2.1, r.2.2 + k1))
theorem pn_cw {o' : Option (Int32 × pn_S × Nat)} {k : Int32 → pn_S → Option (Int32 × pn_S × Nat)} (hL : ∀ r', o' = some r' → pn_LK Γ d M pc ls st0 st σ (pn_w3 r')) (hp : pc + 3 = pc') (kk : ∀ (v : Int32) (σ' : pn_S), pn_W9 Γ d M pn_w3 pc' ls (.int v :: st) σ' (k v σ')) : pn_W9 Γ d M pn_w3 pc ls st0 σ (pn_bw o' k) := by
  subst hp
  intro r hr p e R s m args below meth c H locs cells slots jls A9 hH hS hc hs hl
  match o', hL, hr with
  | none, hL, hr => cases hr
  | some (v, σ', k1), hL, hr =>
    have hr : (k v σ').map (fun r => (r.1, r.2.1, r.2.2 + k1)) = some r := hr
    cases hk : k v σ' with
    | none => rw [hk] at hr; cases hr
    | some r2 =>
      rw [hk] at hr
      cases hr
      have hc : cells + (r2.2.2 + k1) ≤ R.cells := hc
      have hs : slots + 6 * (r2.2.2 + k1) ≤ R.slots := hs
      obtain ⟨a, hrun⟩ := hL _ rfl p e R s m args below meth c H locs cells slots jls A9 hH hS (by show cells + k1 ≤ R.cells; omega) (by show slots + 6 * k1 ≤ R.slots; omega) hl
      refine pn_back (r' := pn_w3 (v, σ', k1)) hS hrun (fun v9 H1 locs1 hv hH1 hS1 => ?_) (fun E ce q H1 locs1 hE => by cases hE)
      cases hv
      have w := kk v σ' r2 hk p e R s m args below meth c H1 locs1 (cells + k1) (slots + 6 * k1) jls A9 hH1 hS1 (by show cells + k1 + r2.2.2 ≤ R.cells; omega) (by show slots + 6 * k1 + 6 * r2.2.2 ≤ R.slots; omega) hl
      have e1 : cells + k1 + (pn_w3 r2).2.2 = cells + (r2.2.2 + k1) := by show cells + k1 + r2.2.2 = _; omega
      have e2 : slots + 6 * k1 + 6 * (pn_w3 r2).2.2 = slots + 6 * (r2.2.2 + k1) := by show slots + 6 * k1 + 6 * r2.2.2 = _; omega
      rw [e1, e2] at w
      exact w
theorem pn_lcmp {x y : Int32} (hd : decode M.2.1 pc = .ok (.lcmp, 1)) (hp : pc + 1 = pc') (kk : pn_W9 Γ d M φ pc' ls (.int (lg_cmp x.toInt64 y.toInt64) :: st) σ o) : pn_W9 Γ d M φ pc ls (.long y.toInt64 :: .long x.toInt64 :: st) σ o := by
  subst hp
  intro r hr p e R s m args below meth c H locs cells slots jls A9 hH hS hc hs hl
  exact W.lcmp A9.1 A9.2.1 hd (kk r hr p e R s m args below meth c H locs cells slots jls A9 hH hS hc hs hl)
/-- the script -/
theorem pn_tsc : pn_tr Γ (.ref 5000) = .ref (pn_sc Γ).1 := by simp [pn_tr, pn_ad]
theorem pn_sld {x : Int32} {L : Nat} {xs : Nat → Int32} {oa : Option ρ} (hL : (pn_sc Γ).2.1 = L) (hX : (pn_sc Γ).2.2 = xs) (hd : decode M.2.1 pc = .ok (.iaload, 1)) (hp : pc + 1 = pc') (kk : pn_W9 Γ d M φ pc' ls (.int (xs x.toNatClampNeg) :: st) σ oa) : pn_W9 Γ d M φ pc ls (.int x :: .ref 5000 :: st) σ (if pn_ib x L then oa else none) := by
  subst hp; subst hL; subst hX
  by_cases hib : pn_ib x (pn_sc Γ).2.1 = true
  · rw [if_pos hib]
    intro r hr p e R s m args below meth c H locs cells slots jls A9 hH hS hc hs hl
    have k9 := kk r hr p e R s m args below meth c H locs cells slots jls A9 hH hS hc hs hl
    have hB := A9.2.2.2.2.2.2.2.2.2.1
    have hb : (pn_sc Γ).1 < s.heap.size := by obtain ⟨scr, h9, -⟩ := hB.2.2.2.2.2.2.1; exact (Array.getElem?_eq_some_iff.mp h9).1
    rw [List.map_cons, List.map_cons, pn_tsc]
    exact va_sld A9.1 A9.2.1 hB.2.2.2.2.2.2.1 hb (by have := hB.2.2.2.2.2.2.2.1; unfold pn_A; omega) hS (pn_ib_in hib) hd k9
  · rw [if_neg hib]; exact pn_none
theorem pn_slen {L : Nat} (hL : (pn_sc Γ).2.1 = L) (hd : decode M.2.1 pc = .ok (.arraylength, 1)) (hp : pc + 1 = pc') (kk : pn_W9 Γ d M φ pc' ls (.int (Int32.ofNat L) :: st) σ o) : pn_W9 Γ d M φ pc ls (.ref 5000 :: st) σ o := by
  subst hp; subst hL
  intro r hr p e R s m args below meth c H locs cells slots jls A9 hH hS hc hs hl
  have k9 := kk r hr p e R s m args below meth c H locs cells slots jls A9 hH hS hc hs hl
  have hB := A9.2.2.2.2.2.2.2.2.2.1
  have hb : (pn_sc Γ).1 < s.heap.size := by obtain ⟨scr, h9, -⟩ := hB.2.2.2.2.2.2.1; exact (Array.getElem?_eq_some_iff.mp h9).1
  rw [List.map_cons, pn_tsc]
  exact va_slen A9.1 A9.2.1 hB.2.2.2.2.2.2.1 hb (by have := hB.2.2.2.2.2.2.2.1; unfold pn_A; omega) hS hd k9
end PNX
