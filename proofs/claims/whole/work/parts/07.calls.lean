section PNC
variable {ρ : Type} {Γ : pn_G} {d d' : Nat} {M M' : pn_M} {φ : ρ → pn_O} {pc pc' idx i ci n : Nat} {ls ls' st st0 av : List Value} {σ : pn_S} {o : Option ρ} {r' : pn_O}
/-- a call is under way: it comes back with r', or throws it -/
def pn_LK (Γ : pn_G) (d : Nat) (M : pn_M) (pc : Nat) (ls st0 st : List Value) (σ : pn_S) (r' : pn_O) : Prop :=
  ∀ (p : Program) (e : Env) (R : Room) (s : State) (m : MethodId) (args : Array Value) (below : List Frame) (meth : Method) (c : Code) (H : Heap) (locs : List Loc) (cells slots : Nat) (jls : Array Slot),
    pn_A9 Γ d M p R s m args meth c → pn_H Γ σ H → va_S (pn_A Γ) s.heap H locs → cells + r'.2.2 ≤ R.cells → slots + 6 * r'.2.2 ≤ R.slots → pn_ls Γ M.2.2.1 ls jls →
    ∃ a : Array Value, vx_Run p (pn_l Γ) e R s m args below meth c H locs cells slots r'.2.2 (6 * r'.2.2) (F0 m pc jls (st0.map (pn_tr Γ))) (st.map (pn_tr Γ)) (pn_Q Γ r' a) (pn_X Γ r') (pn_A Γ)
/-- entry idx of own's file names the method M', which class ci's objects have as their own -/
def pn_LV (own : String) (idx : Nat) (M' : pn_M) (ci n : Nat) : Prop :=
  Cond.methodLink own idx M'.1 ∈ pn_T ∧ Cond.instanceMethod M'.1 ∈ pn_T ∧ Cond.selects M'.1.cls M'.1 M'.1 ∈ pn_T ∧ Cond.initialized M'.1.cls ∈ pn_T ∧ Cond.code M'.1 M'.2.1 M'.2.2.1 M'.2.2.2.1 ∈ pn_T ∧
  (M'.1.cls ≠ "java/lang/invoke/MethodHandle" ∧ M'.1.cls ≠ "java/lang/invoke/VarHandle") ∧ (parseMethodDescriptor M'.1.desc).map (fun q => q.parameters.length) = some n ∧ (∃ (T : u_T) (N : Nat), vwCl[ci]? = some (M'.1.cls, T, N)) ∧ ci ≤ 10 ∧ M'.2.2.1 ≤ 45
def pn_LS (own : String) (idx : Nat) (M' : pn_M) (n : Nat) : Prop :=
  Cond.methodLink own idx M'.1 ∈ pn_T ∧ Cond.static M'.1 ∈ pn_T ∧ Cond.initialized M'.1.cls ∈ pn_T ∧ Cond.code M'.1 M'.2.1 M'.2.2.1 M'.2.2.2.1 ∈ pn_T ∧
  (M'.1.cls ≠ "java/lang/invoke/MethodHandle" ∧ M'.1.cls ≠ "java/lang/invoke/VarHandle") ∧ (parseMethodDescriptor M'.1.desc).map (fun q => q.parameters.length) = some n ∧ M'.2.2.1 ≤ 45
theorem pn_wt {Γ : pn_G} {st : List Value} (h : (st.map fun v => v.category).sum ≤ 8) : ((st.map (pn_tr Γ)).map fun v => v.category).sum ≤ 8 := by
  rw [List.map_map]
  have e : ((fun v : Value => v.category) ∘ pn_tr Γ) = fun v => v.category := funext fun v => pn_tr_cat Γ v
  rw [e]; exact h
theorem pn_nsig {M' : pn_M} {n : Nat} (h : (parseMethodDescriptor M'.1.desc).map (fun q => q.parameters.length) = some n) : ∀ sig, parseMethodDescriptor M'.1.desc = some sig → n = sig.parameters.length := by
  intro sig hs
  rw [hs] at h
  exact (Option.some.inj h).symm
theorem pn_pre {s U : State} {H : Heap} {args : Array Value} (hW : s.WarmedH U.vm) (hU : U.heap = H) (hH : pn_H Γ σ H) (hK : va_K (pn_D Γ) vwCl (pn_ty Γ) s) (hT : ∀ w ∈ pn_T, w.before args s = true) (hB : pn_B Γ s H) (hst : (pn_l Γ).stackTraces = false) :
    pn_H Γ σ U.heap ∧ va_K (pn_D Γ) vwCl (pn_ty Γ) U ∧ (∀ w ∈ pn_T, w.before #[] U = true) ∧ pn_B Γ U U.heap ∧ (pn_l Γ).stackTraces = false := by
  subst hU
  exact ⟨hH, va_K.moved hW.alike hK, pn_T_moved hW hT, pn_B.moved hW hB, hst⟩
set_option maxRecDepth 8000 in
theorem pn_loc {d d' x y : Nat} (h1 : d' < d) (h2 : x ≤ 45) (h3 : 64 * d + 400 ≤ y) : 8 + (x + 11) + (64 * d' + 400) ≤ y := by omega
theorem pn_LKV (hd : decode M.2.1 pc = .ok (.invokevirtual idx, 3)) (hL : pn_LV M.1.cls idx M' ci n) (hC : pn_C Γ d' M' (.ref i :: av) σ r') (hdd : d' < d) (hi : i < 97) (hK : pn_K i = ci) (hn : av.length = n) (hst : av.reverse ++ .ref i :: st = st0) (hw : (st.map fun v => v.category).sum ≤ 8) : pn_LK Γ d M pc ls st0 st σ r' := by
  intro p e R s m args below meth c H locs cells slots jls A9 hH hS hc hs hl
  obtain ⟨hx, hb, hr, hml, hown, hT, hK9, hlk, het, hB, hRf, hRl, htr⟩ := A9
  obtain ⟨h1, h2, h3, h4, h5, h6, h7, ⟨T, N, h8⟩, h9, h10⟩ := hL
  have ha : pn_tr Γ (.ref i) = .ref (pn_b Γ + i) := by simp [pn_tr, pn_ad, hi]
  have he : (pn_w Γ σ)[i]? = some (pn_b Γ + i, .inr (ci, (List.range (pn_N ci)).map (pn_fv Γ σ i))) := by rw [pn_w_get Γ σ hi, pn_ent_obj hK h9]
  have hB' : pn_B Γ s H := pn_B.kept (fun a h9 h8 => hS.2.1 a h9 h8) hB
  refine ⟨_, vx_runV (own := M.1.cls) (C := M'.1.cls) (index := idx) (b := pn_b Γ + i) (As := av.map (pn_tr Γ)) (bytes := M'.2.1) (maxL := M'.2.2.1) (ret := M'.2.2.2.1) (n := n) (cc := M.2.1) (nL := M.2.2.1) (Ts := pn_T) ⟨hx, hb, hml, hown, hT⟩ hC ?_ ⟨pn_P_blind, va_recv hK9 hH h8 he, fun U hU hW => ⟨by rw [List.map_cons, ha], pn_pre hW hU hH hK9 hT hB' htr⟩⟩ rfl (by rw [List.length_map]; exact hn) hl.2.2.1 ?_ (lv_room (pn_wt hw)) hd ⟨hc, hs⟩⟩
  · refine ⟨⟨rfl, rfl, ?_, ?_, ?_, List.mem_cons_self, hT _ h5, hT _ h4, h6, pn_nsig h7, hT _ h1⟩, hT _ h2, hT _ h3⟩
    · show d' + 12 + 1 ≤ R.frames; omega
    · exact pn_loc hdd h10 hRl
    · intro w hw9 a' U hW
      rw [List.mem_singleton] at hw9
      rw [hw9]
      exact pn_T_moved hW hT _ h5
  · show st0.map (pn_tr Γ) = _
    rw [← hst, List.map_append, List.map_cons, ha, List.map_reverse]
theorem pn_LKS (hd : decode M.2.1 pc = .ok (.invokestatic idx, 3)) (hL : pn_LS M.1.cls idx M' n) (hC : pn_C Γ d' M' av σ r') (hdd : d' < d) (hn : av.length = n) (hst : av.reverse ++ st = st0) (hw : (st.map fun v => v.category).sum ≤ 8) : pn_LK Γ d M pc ls st0 st σ r' := by
  intro p e R s m args below meth c H locs cells slots jls A9 hH hS hc hs hl
  obtain ⟨hx, hb, hr, hml, hown, hT, hK9, hlk, het, hB, hRf, hRl, htr⟩ := A9
  obtain ⟨h1, h2, h4, h5, h6, h7, h10⟩ := hL
  have hB' : pn_B Γ s H := pn_B.kept (fun a h9 h8 => hS.2.1 a h9 h8) hB
  refine ⟨_, vx_runS (own := M.1.cls) (index := idx) (As := av.map (pn_tr Γ)) (bytes := M'.2.1) (maxL := M'.2.2.1) (ret := M'.2.2.2.1) (n := n) (cc := M.2.1) (nL := M.2.2.1) (Ts := pn_T) ⟨hx, hb, hml, hown, hT⟩ hC ?_ ⟨pn_P_blind, fun U hU hW => ⟨rfl, pn_pre hW hU hH hK9 hT hB' htr⟩⟩ rfl (by rw [List.length_map]; exact hn) hl.2.2.1 ?_ (lv_room (pn_wt hw)) hd ⟨hc, hs⟩⟩
  · refine ⟨⟨rfl, rfl, ?_, ?_, ?_, List.mem_cons_self, hT _ h5, hT _ h4, h6, pn_nsig h7, hT _ h1⟩, hT _ h2⟩
    · show d' + 12 + 1 ≤ R.frames; omega
    · exact pn_loc hdd h10 hRl
    · intro w hw9 a' U hW
      rw [List.mem_singleton] at hw9
      rw [hw9]
      exact pn_T_moved hW hT _ h5
  · show st0.map (pn_tr Γ) = _
    rw [← hst, List.map_append, List.map_reverse]
/-- what a method that returns promises, in the kit's own word -/
theorem pn_C_met {v : Option Int32} (hv : r'.1 = .inl v) (h : pn_C Γ d' M' av σ r') : Met (pn_l Γ) M'.1 [Cond.code M'.1 M'.2.1 M'.2.2.1 M'.2.2.2.1] (pn_rm d' r'.2.2) (pn_P Γ av σ) (pn_Q Γ r') r'.2.2 (6 * r'.2.2) (pn_A Γ) := by
  intro p e ha hc hk s m args below hf happ hP hK
  obtain ⟨n9, o9, h1, h2, h3, h4⟩ := h p e ha hc hk s m args below hf happ hP hK
  refine ⟨n9, o9, h1, h2, h3, ?_⟩
  rcases h4 with h4 | ⟨q, -, E, ce, L, hx, -⟩
  · exact h4
  · exact absurd (hv.symm.trans hx.1) (by intro h; cases h)
theorem pn_run_of {p : Program} {e : Env} {R : Room} {s : State} {m : MethodId} {args : Array Value} {below : List Frame} {meth : Method} {c : Code} {H : Heap} {locs : List Loc} {cells slots mc ms : Nat} {g : JFrame} {rest : List Value} {Qa : State → Outcome → State → Prop} {XC : String → State → State → Prop} {free : Addr → Prop} {l : Launch}
    (h : va_Run p l e R s m args below meth c H locs cells slots mc ms g rest Qa free) : vx_Run p l e R s m args below meth c H locs cells slots mc ms g rest Qa XC free := by
  intro T hT X
  obtain ⟨v, st₀, t, T', L, h0, X', hL, e1, e2, hq, st⟩ := h T hT X
  exact Or.inl ⟨v, st₀, t, T', L, h0, X', hL, e1, e2, hq, st⟩
/-- a static method of a nest mate -/
def pn_LN (own : String) (idx : Nat) (M' : pn_M) (n : Nat) : Prop :=
  (∃ host : String, Cond.methodLinkNest own idx M'.1 host ∈ pn_T) ∧ Cond.static M'.1 ∈ pn_T ∧ Cond.initialized M'.1.cls ∈ pn_T ∧ Cond.code M'.1 M'.2.1 M'.2.2.1 M'.2.2.2.1 ∈ pn_T ∧
  (M'.1.cls ≠ "java/lang/invoke/MethodHandle" ∧ M'.1.cls ≠ "java/lang/invoke/VarHandle") ∧ (parseMethodDescriptor M'.1.desc).map (fun q => q.parameters.length) = some n ∧ M'.2.2.1 ≤ 45
theorem pn_LKN {v : Option Int32} (hd : decode M.2.1 pc = .ok (.invokestatic idx, 3)) (hL : pn_LN M.1.cls idx M' n) (hv : r'.1 = .inl v) (hC : pn_C Γ d' M' av σ r') (hdd : d' < d) (hn : av.length = n) (hst : av.reverse ++ st = st0) (hw : (st.map fun v => v.category).sum ≤ 8) : pn_LK Γ d M pc ls st0 st σ r' := by
  intro p e R s m args below meth c H locs cells slots jls A9 hH hS hc hs hl
  obtain ⟨hx, hb, hr, hml, hown, hT, hK9, hlk, het, hB, hRf, hRl, htr⟩ := A9
  obtain ⟨⟨host, h1⟩, h2, h4, h5, h6, h7, h10⟩ := hL
  have hB' : pn_B Γ s H := pn_B.kept (fun a h9 h8 => hS.2.1 a h9 h8) hB
  refine ⟨_, pn_run_of (va_runSN (own := M.1.cls) (host := host) (index := idx) (As := av.map (pn_tr Γ)) (bytes := M'.2.1) (maxL := M'.2.2.1) (ret := M'.2.2.2.1) (n := n) (cc := M.2.1) (nL := M.2.2.1) (Ts := pn_T) ⟨hx, hb, hml, hown, hT⟩ (pn_C_met hv hC) ?_ ⟨pn_P_blind, fun U hU hW => ⟨rfl, pn_pre hW hU hH hK9 hT hB' htr⟩⟩ rfl (by rw [List.length_map]; exact hn) hl.2.2.1 ?_ (lv_room (pn_wt hw)) hd ⟨hc, hs⟩)⟩
  · refine ⟨⟨⟨rfl, rfl, ?_, ?_, ?_, List.mem_cons_self⟩, hT _ h5, hT _ h4, h6, pn_nsig h7, hT _ h1⟩, hT _ h2, trivial⟩
    · show d' + 12 + 1 ≤ R.frames; omega
    · exact pn_loc hdd h10 hRl
    · intro w hw9 a' U hW
      rw [List.mem_singleton] at hw9
      rw [hw9]
      exact pn_T_moved hW hT _ h5
  · show st0.map (pn_tr Γ) = _
    rw [← hst, List.map_append, List.map_reverse]
/-- what a call leaves: the way back -/
theorem pn_back {p : Program} {e : Env} {R : Room} {s : State} {m : MethodId} {args : Array Value} {below : List Frame} {meth : Method} {c : Code} {H : Heap} {locs : List Loc} {cells slots : Nat} {jls : Array Slot} {Q : State → Prop} {a : Array Value} {rest : List Value} {gst : List Value}
    (hS : va_S (pn_A Γ) s.heap H locs) (hr : vx_Run p (pn_l Γ) e R s m args below meth c H locs cells slots r'.2.2 (6 * r'.2.2) (F0 m pc jls gst) rest (pn_Q Γ r' a) (pn_X Γ r') (pn_A Γ))
    (kk : ∀ (v : Option Int32) (H1 : Heap) (locs1 : List Loc), r'.1 = .inl v → pn_H Γ r'.2.1 H1 → va_S (pn_A Γ) s.heap H1 locs1 → W p (pn_l Γ) e R s m args below meth c H1 locs1 (cells + r'.2.2) (slots + 6 * r'.2.2) Q (F0 m (pc + 3) jls ((v.map Value.int).toList ++ rest)))
    (kx : ∀ (E : String) (ce : Cell) (q : Addr) (H1 : Heap) (locs1 : List Loc), r'.1 = .inr E → pn_H Γ r'.2.1 H1 → va_S (pn_A Γ) s.heap H1 locs1 → H1[q]? = some ce → ce.vm = .none → s.vm.findClass E = some ce.cls → vx_W p (pn_l Γ) e R s m args below meth c H1 locs1 (cells + r'.2.2) (slots + 6 * r'.2.2) Q (F0 m pc jls rest) q) :
    W p (pn_l Γ) e R s m args below meth c H locs cells slots Q (F0 m pc jls gst) := by
  intro T hT X
  rcases hr T hT X with ⟨v, st₀, t, T', L, h0, X', hL, e1, e2, ⟨v9, hv9, ho9, hH9, hF⟩, st⟩ | ⟨q, st₀, t, T', L, E, ce, h0, X', hL, e1, e2, ⟨hE, hH9, hF⟩, hce, hcv, hcl, st⟩
  · cases ho9
    obtain ⟨-, -, k3⟩ := vx_keep h0 e1 hS (fun q _ h => h) (fun q h => h) hL hF
    obtain ⟨t2, a1, b1⟩ := kk v9 T'.heap (locs ++ L) hv9 (by rw [e1]; exact hH9) k3 T' rfl X'
    exact ⟨t2, st t2 a1, b1⟩
  · obtain ⟨-, -, k3⟩ := vx_keep h0 e1 hS (fun q _ h => h) (fun q h => h) hL hF
    obtain ⟨t2, a1, b1⟩ := kx E ce q T'.heap (locs ++ L) hE (by rw [e1]; exact hH9) k3 (by rw [e1]; exact hce) hcv hcl T' rfl X'
    exact ⟨t2, st.trans a1, b1⟩
def pn_bi {α : Type} (o' : Option (Int32 × pn_S)) (k : Int32 → pn_S → Option α) : Option α := match o' with
  | none => none
  | some (v, σ) => k v σ
/-- a call that returns an int -/
theorem pn_ci {o' : Option (Int32 × pn_S)} {k : Int32 → pn_S → Option ρ} (hL : ∀ r', o' = some r' → pn_LK Γ d M pc ls st0 st σ (pn_i r')) (hp : pc + 3 = pc') (kk : ∀ (v : Int32) (σ' : pn_S), pn_W9 Γ d M φ pc' ls (.int v :: st) σ' (k v σ')) : pn_W9 Γ d M φ pc ls st0 σ (pn_bi o' k) := by
  subst hp
  intro r hr p e R s m args below meth c H locs cells slots jls A9 hH hS hc hs hl
  cases ho : o' with
  | none => rw [ho] at hr; cases hr
  | some r' =>
    rw [ho] at hr
    have hr : k r'.1 r'.2 = some r := hr
    obtain ⟨a, hrun⟩ := hL r' ho p e R s m args below meth c H locs cells slots jls A9 hH hS (Nat.le_trans (Nat.le_add_right _ _) hc) (Nat.le_trans (Nat.le_add_right _ _) hs) hl
    refine pn_back (r' := pn_i r') hS hrun (fun v H1 locs1 hv hH1 hS1 => ?_) (fun E ce q H1 locs1 hE => by cases hE)
    cases hv
    exact kk r'.1 r'.2 r hr p e R s m args below meth c H1 locs1 cells slots jls A9 hH1 hS1 hc hs hl
/-- a call of a pure method -/
theorem pn_cp {o' : Option Int32} {k : Int32 → Option ρ} (hL : ∀ r', o' = some r' → pn_LK Γ d M pc ls st0 st σ (pn_p σ r')) (hp : pc + 3 = pc') (kk : ∀ (v : Int32), pn_W9 Γ d M φ pc' ls (.int v :: st) σ (k v)) : pn_W9 Γ d M φ pc ls st0 σ (o'.bind k) := by
  subst hp
  intro r hr p e R s m args below meth c H locs cells slots jls A9 hH hS hc hs hl
  cases ho : o' with
  | none => rw [ho] at hr; cases hr
  | some r' =>
    rw [ho, Option.bind_some] at hr
    obtain ⟨a, hrun⟩ := hL r' ho p e R s m args below meth c H locs cells slots jls A9 hH hS (Nat.le_trans (Nat.le_add_right _ _) hc) (Nat.le_trans (Nat.le_add_right _ _) hs) hl
    refine pn_back (r' := pn_p σ r') hS hrun (fun v H1 locs1 hv hH1 hS1 => ?_) (fun E ce q H1 locs1 hE => by cases hE)
    cases hv
    exact kk r' r hr p e R s m args below meth c H1 locs1 cells slots jls A9 hH1 hS1 hc hs hl
/-- a call of a pure method that returns nothing -/
theorem pn_cpv {o' : Option Unit} {k : Unit → Option ρ} (hL : ∀ r', o' = some r' → pn_LK Γ d M pc ls st0 st σ (pn_pv σ r')) (hp : pc + 3 = pc') (kk : pn_W9 Γ d M φ pc' ls st σ (k ())) : pn_W9 Γ d M φ pc ls st0 σ (o'.bind k) := by
  subst hp
  intro r hr p e R s m args below meth c H locs cells slots jls A9 hH hS hc hs hl
  cases ho : o' with
  | none => rw [ho] at hr; cases hr
  | some r' =>
    rw [ho, Option.bind_some] at hr
    obtain ⟨a, hrun⟩ := hL r' ho p e R s m args below meth c H locs cells slots jls A9 hH hS (Nat.le_trans (Nat.le_add_right _ _) hc) (Nat.le_trans (Nat.le_add_right _ _) hs) hl
    refine pn_back (r' := pn_pv σ r') hS hrun (fun v H1 locs1 hv hH1 hS1 => ?_) (fun E ce q H1 locs1 hE => by cases hE)
    cases hv
    exact kk r hr p e R s m args below meth c H1 locs1 cells slots jls A9 hH1 hS1 hc hs hl
/-- a call that returns nothing -/
theorem pn_cv {o' : Option pn_S} {k : pn_S → Option ρ} (hL : ∀ r', o' = some r' → pn_LK Γ d M pc ls st0 st σ (pn_v r')) (hp : pc + 3 = pc') (kk : ∀ (σ' : pn_S), pn_W9 Γ d M φ pc' ls st σ' (k σ')) : pn_W9 Γ d M φ pc ls st0 σ (o'.bind k) := by
  subst hp
  intro r hr p e R s m args below meth c H locs cells slots jls A9 hH hS hc hs hl
  cases ho : o' with
  | none => rw [ho] at hr; cases hr
  | some r' =>
    rw [ho, Option.bind_some] at hr
    obtain ⟨a, hrun⟩ := hL r' ho p e R s m args below meth c H locs cells slots jls A9 hH hS (Nat.le_trans (Nat.le_add_right _ _) hc) (Nat.le_trans (Nat.le_add_right _ _) hs) hl
    refine pn_back (r' := pn_v r') hS hrun (fun v H1 locs1 hv hH1 hS1 => ?_) (fun E ce q H1 locs1 hE => by cases hE)
    cases hv
    exact kk r' r hr p e R s m args below meth c H1 locs1 cells slots jls A9 hH1 hS1 hc hs hl
/-- what comes behind a call that may throw -/
def pn_bx {α β : Type} (o' : Option ((α ⊕ String) × pn_S)) (k : α → pn_S → Option ((β ⊕ String) × pn_S)) : Option ((β ⊕ String) × pn_S) := match o' with
  | none => none
  | some (.inl a, σ) => k a σ
  | some (.inr E, σ) => some (.inr E, σ)
theorem pn_out {α : Type} {φ : (α ⊕ String) × pn_S → pn_O} {E : String} {p : Program} {e : Env} {R : Room} {s : State} {m : MethodId} {args : Array Value} {below : List Frame} {meth : Method} {c : Code} {H1 : Heap} {locs1 : List Loc} {cells slots : Nat} {jls : Array Slot} {rest : List Value} {ce : Cell} {q : Addr}
    (hφ : ∀ (E : String) (σ : pn_S), φ (.inr E, σ) = (.inr E, σ, 1)) (hh : M.2.2.2.2 = []) (A9 : pn_A9 Γ d M p R s m args meth c) (hH : pn_H Γ σ H1) (hS : va_S (pn_A Γ) s.heap H1 locs1) (h1 : H1[q]? = some ce) (h2 : ce.vm = .none) (h3 : s.vm.findClass E = some ce.cls) :
    vx_W p (pn_l Γ) e R s m args below meth c H1 locs1 (cells + 1) (slots + 6 * 1) (vx_MQ below (pn_Q Γ (φ (.inr E, σ))) (pn_X Γ (φ (.inr E, σ))) args s (cells + (φ (.inr E, σ)).2.2) (slots + 6 * (φ (.inr E, σ)).2.2) (pn_A Γ)) (F0 m pc jls rest) q := by
  rw [hφ]
  exact vx_out (fun x hx => by rw [A9.2.2.2.2.2.2.2.2.1, hh] at hx; cases hx) A9.2.2.2.2.2.2.2.1 h1 h2 h3 (fun t ht _ => ⟨rfl, by rw [ht]; exact hH, hS.F ht⟩) hS.2.2 (Nat.le_refl _) (Nat.le_refl _)
theorem pn_cxi {α : Type} {φ : (α ⊕ String) × pn_S → pn_O} {o' : Option ((Int32 ⊕ String) × pn_S)} {k : Int32 → pn_S → Option ((α ⊕ String) × pn_S)} (hφ : ∀ (E : String) (σ : pn_S), φ (.inr E, σ) = (.inr E, σ, 1)) (hh : M.2.2.2.2 = []) (hL : ∀ r', o' = some r' → pn_LK Γ d M pc ls st0 st σ (pn_xi r')) (hp : pc + 3 = pc')
    (kk : ∀ (v : Int32) (σ' : pn_S), pn_W9 Γ d M φ pc' ls (.int v :: st) σ' (k v σ')) : pn_W9 Γ d M φ pc ls st0 σ (pn_bx o' k) := by
  subst hp
  intro r hr p e R s m args below meth c H locs cells slots jls A9 hH hS hc hs hl
  match o', hL, hr with
  | none, hL, hr => cases hr
  | some (.inl v, σ'), hL, hr =>
    have hr : k v σ' = some r := hr
    obtain ⟨a, hrun⟩ := hL _ rfl p e R s m args below meth c H locs cells slots jls A9 hH hS (Nat.le_trans (Nat.le_add_right _ _) hc) (Nat.le_trans (Nat.le_add_right _ _) hs) hl
    refine pn_back (r' := pn_xi (.inl v, σ')) hS hrun (fun v H1 locs1 hv hH1 hS1 => ?_) (fun E ce q H1 locs1 hE => by cases hE)
    cases hv
    exact kk _ _ r hr p e R s m args below meth c H1 locs1 cells slots jls A9 hH1 hS1 hc hs hl
  | some (.inr E, σ'), hL, hr =>
    cases hr
    have hc9 := hc
    have hs9 := hs
    rw [hφ] at hc9 hs9
    obtain ⟨a, hrun⟩ := hL _ rfl p e R s m args below meth c H locs cells slots jls A9 hH hS hc9 hs9 hl
    refine pn_back (r' := pn_xi (.inr E, σ')) hS hrun (fun v H1 locs1 hv => by cases hv) (fun E' ce q H1 locs1 hE hH1 hS1 h1 h2 h3 => ?_)
    cases hE
    exact pn_out hφ hh A9 hH1 hS1 h1 h2 h3
theorem pn_cxv {α : Type} {φ : (α ⊕ String) × pn_S → pn_O} {o' : Option ((Unit ⊕ String) × pn_S)} {k : Unit → pn_S → Option ((α ⊕ String) × pn_S)} (hφ : ∀ (E : String) (σ : pn_S), φ (.inr E, σ) = (.inr E, σ, 1)) (hh : M.2.2.2.2 = []) (hL : ∀ r', o' = some r' → pn_LK Γ d M pc ls st0 st σ (pn_xv r')) (hp : pc + 3 = pc')
    (kk : ∀ (σ' : pn_S), pn_W9 Γ d M φ pc' ls st σ' (k () σ')) : pn_W9 Γ d M φ pc ls st0 σ (pn_bx o' k) := by
  subst hp
  intro r hr p e R s m args below meth c H locs cells slots jls A9 hH hS hc hs hl
  match o', hL, hr with
  | none, hL, hr => cases hr
  | some (.inl (), σ'), hL, hr =>
    have hr : k () σ' = some r := hr
    obtain ⟨a, hrun⟩ := hL _ rfl p e R s m args below meth c H locs cells slots jls A9 hH hS (Nat.le_trans (Nat.le_add_right _ _) hc) (Nat.le_trans (Nat.le_add_right _ _) hs) hl
    refine pn_back (r' := pn_xv (.inl (), σ')) hS hrun (fun v H1 locs1 hv hH1 hS1 => ?_) (fun E ce q H1 locs1 hE => by cases hE)
    cases hv
    exact kk _ r hr p e R s m args below meth c H1 locs1 cells slots jls A9 hH1 hS1 hc hs hl
  | some (.inr E, σ'), hL, hr =>
    cases hr
    have hc9 := hc
    have hs9 := hs
    rw [hφ] at hc9 hs9
    obtain ⟨a, hrun⟩ := hL _ rfl p e R s m args below meth c H locs cells slots jls A9 hH hS hc9 hs9 hl
    refine pn_back (r' := pn_xv (.inr E, σ')) hS hrun (fun v H1 locs1 hv => by cases hv) (fun E' ce q H1 locs1 hE hH1 hS1 h1 h2 h3 => ?_)
    cases hE
    exact pn_out hφ hh A9 hH1 hS1 h1 h2 h3
/-- throw new E() -/
def pn_TH (own : String) (ik ic : Nat) (E : String) : Prop :=
  Bundle.fit E = true ∧ Cond.classLink own ik E ∈ pn_T ∧ Cond.initialized E ∈ pn_T ∧ (∀ w ∈ vx_at0 own ic E ["java/lang/RuntimeException", "java/lang/Exception"], w ∈ pn_T) ∧ (∀ w ∈ Cond.classLink own ik E :: Cond.initialized E :: vx_at0 own ic E ["java/lang/RuntimeException", "java/lang/Exception"], vx_ot w = true)
theorem pn_throw {α : Type} {φ : (α ⊕ String) × pn_S → pn_O} {E : String} {ik ic : Nat} (hφ : ∀ (E : String) (σ : pn_S), φ (.inr E, σ) = (.inr E, σ, 1)) (hh : M.2.2.2.2 = []) (hE : pn_TH M.1.cls ik ic E) (d0 : decode M.2.1 pc = .ok (.new ik, 3)) (d3 : decode M.2.1 (pc + 3) = .ok (.dup, 1)) (d4 : decode M.2.1 (pc + 4) = .ok (.invokespecial ic, 3)) (d7 : decode M.2.1 (pc + 7) = .ok (.athrow, 1)) :
    pn_W9 Γ d M φ pc ls [] σ (some (.inr E, σ)) := by
  intro r hr p e R s m args below meth c H locs cells slots jls A9 hH hS hc hs hl
  cases hr
  rw [hφ] at hc hs ⊢
  obtain ⟨hx, hb, hr, hml, hown, hT, hK9, hlk, het, hB, hRf, hRl, htr⟩ := A9
  obtain ⟨h1, h2, h3, h4, h5⟩ := hE
  have hc : cells + 1 ≤ R.cells := hc
  have hs : slots + 6 ≤ R.slots := hs
  refine vx_throw0 (own := M.1.cls) (names := ["java/lang/RuntimeException", "java/lang/Exception"]) hx hb htr hown h1 (by decide +kernel) (hT _ h2) (hT _ h3) (fun w hw => hT _ (h4 w hw)) h5 hB.1 hB.2.1 hS (by rw [hml]; exact hl.2.2.1) d0 d3 d4 d7 (fun x hx9 => by rw [het, hh] at hx9; cases hx9) ?_ ?_ hc hs hlk (fun t hvm hz hq => ⟨rfl, ?_, ?_⟩) hS.2.2 (Nat.le_refl _) (Nat.le_refl _)
  · show 2 + 3 < R.frames; omega
  · show 0 + (13 * (2 + 1) + 42) ≤ R.locals; omega
  · exact va_P.kept hH (fun k q hk => hq _ ((hH k q hk).lt))
  · exact ⟨Nat.le_trans hS.1 hz, fun q h1 h2 => by rw [hq q (Nat.lt_of_lt_of_le h1 hS.1)]; exact hS.2.1 q h1 h2⟩
end PNC
