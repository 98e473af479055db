/-! A METHOD'S BODY, STEP BY STEP, over a state of ints. 'pn_W9 Γ d M φ pc ls st σ o': from there the method M comes to the end that o tells (nothing is said where o is none). -/
abbrev pn_M : Type := MethodName × ByteArray × Nat × Option FieldType × List (Nat × Nat × Nat × Nat)
/-- an end: a value, or the exception's class; the state; how many exceptions were made -/
abbrev pn_O : Type := (Option Int32 ⊕ String) × pn_S × Nat
def pn_A9 (Γ : pn_G) (d : Nat) (M : pn_M) (p : Program) (R : Room) (s : State) (m : MethodId) (args : Array Value) (meth : Method) (c : Code) : Prop :=
  p.tables.exec = Jvm.exec ∧ c.code = M.2.1 ∧ meth.sig.returnType = M.2.2.2.1 ∧ c.maxLocals = M.2.2.1 ∧ s.vm.findClass M.1.cls = some m.cls ∧ (∀ w ∈ pn_T, w.before args s = true) ∧ va_K (pn_D Γ) vwCl (pn_ty Γ) s ∧ meth.locks = false ∧ c.exceptionTable.toList = tableOf M.2.2.2.2 ∧ pn_B Γ s s.heap ∧ d + 12 ≤ R.frames ∧ 64 * d + 400 ≤ R.locals ∧ (pn_l Γ).stackTraces = false
def pn_nn : Value → Bool
  | .null => false
  | _ => true
def pn_lv (Γ : pn_G) (ls : List Value) : List (Nat × Value) := ls.zipIdx.filterMap (fun q => if pn_nn q.1 = true then some (q.2, pn_tr Γ q.1) else none)
theorem pn_lv_mem {Γ : pn_G} {ls : List Value} {q : Nat × Value} : q ∈ pn_lv Γ ls ↔ ∃ v, ls[q.1]? = some v ∧ pn_nn v = true ∧ q.2 = pn_tr Γ v := by
  unfold pn_lv
  rw [List.mem_filterMap]
  constructor
  · rintro ⟨⟨v, i⟩, h1, h2⟩
    have h3 := List.mem_zipIdx_iff_getElem?.mp h1
    by_cases hn : pn_nn v = true
    · rw [if_pos hn] at h2
      cases h2
      exact ⟨v, h3, hn, rfl⟩
    · rw [if_neg hn] at h2
      cases h2
  · rintro ⟨v, h1, h2, h3⟩
    refine ⟨(v, q.1), List.mem_zipIdx_iff_getElem?.mpr h1, ?_⟩
    rw [if_pos h2, ← h3]
def pn_ls (Γ : pn_G) (nL : Nat) (ls : List Value) (jls : Array Slot) : Prop := ls.length = nL ∧ (∀ v ∈ ls, v.category = 1) ∧ lv_has jls nL (pn_lv Γ ls)
theorem pn_ls_get {Γ : pn_G} {nL i : Nat} {ls : List Value} {jls : Array Slot} {v : Value} (h : pn_ls Γ nL ls jls) (hi : ls[i]? = some v) (hn : pn_nn v = true) : jls[i]? = some (.val (pn_tr Γ v)) :=
  h.2.2.2.2 (i, pn_tr Γ v) (pn_lv_mem.mpr ⟨v, hi, hn, rfl⟩)
theorem pn_tr_cat (Γ : pn_G) (v : Value) : (pn_tr Γ v).category = v.category := by
  cases v <;> first | rfl | (show (va_rf (pn_fm Γ)).category = 1; cases pn_fm Γ <;> rfl)
theorem pn_ls_set {Γ : pn_G} {nL i : Nat} {ls : List Value} {jls jls' : Array Slot} {v w : Value} (h : pn_ls Γ nL ls jls) (hi : i < ls.length) (hc : v.category = 1) (hw : v = .null ∨ pn_tr Γ v = w)
    (h' : lv_has jls' nL ((i, w) :: (pn_lv Γ ls).filter (fun q => !(q.1 == i) && !(q.1 + 1 == i && q.2.category == 2)))) : pn_ls Γ nL (ls.set i v) jls' := by
  refine ⟨by rw [List.length_set]; exact h.1, fun x hx => ?_, h'.1, h'.2.1, fun q hq => ?_⟩
  · rcases List.mem_or_eq_of_mem_set hx with hx | rfl
    · exact h.2.1 x hx
    · exact hc
  · obtain ⟨x, h1, h2, h3⟩ := pn_lv_mem.mp hq
    rw [List.getElem?_set] at h1
    by_cases hqi : i = q.1
    · rw [if_pos hqi, if_pos hi] at h1
      cases h1
      rcases hw with rfl | hw
      · cases h2
      · refine h'.2.2 q (List.mem_cons.mpr (Or.inl ?_))
        rw [hw] at h3
        exact Prod.ext hqi.symm h3
    · rw [if_neg hqi] at h1
      refine h'.2.2 q (List.mem_cons_of_mem _ (List.mem_filter.mpr ⟨pn_lv_mem.mpr ⟨x, h1, h2, h3⟩, ?_⟩))
      have hcx : q.2.category = 1 := by rw [h3, pn_tr_cat]; exact h.2.1 x (List.mem_of_getElem? h1)
      have : ¬ q.1 = i := fun e => hqi e.symm
      simp [this, hcx]
def pn_Q (Γ : pn_G) (r : pn_O) : Array Value → State → Outcome → State → Prop := fun _ st o t => ∃ v, r.1 = .inl v ∧ o = .returned (v.map Value.int) ∧ pn_H Γ r.2.1 t.heap ∧ va_F (pn_A Γ) st t
def pn_X (Γ : pn_G) (r : pn_O) : String → State → State → Prop := fun E st t => r.1 = .inr E ∧ pn_H Γ r.2.1 t.heap ∧ va_F (pn_A Γ) st t
def pn_W9 {ρ : Type} (Γ : pn_G) (d : Nat) (M : pn_M) (φ : ρ → pn_O) (pc : Nat) (ls st : List Value) (σ : pn_S) (o : Option ρ) : Prop :=
  ∀ r, o = some r → ∀ (p : Program) (e : Env) (R : Room) (s : State) (m : MethodId) (args : Array Value) (below : List Frame) (meth : Method) (c : Code) (H : Heap) (locs : List Loc) (cells slots : Nat) (jls : Array Slot),
    pn_A9 Γ d M p R s m args meth c → pn_H Γ σ H → va_S (pn_A Γ) s.heap H locs → cells + (φ r).2.2 ≤ R.cells → slots + 6 * (φ r).2.2 ≤ R.slots → pn_ls Γ M.2.2.1 ls jls →
    W p (pn_l Γ) e R s m args below meth c H locs cells slots (vx_MQ below (pn_Q Γ (φ r)) (pn_X Γ (φ r)) args s (cells + (φ r).2.2) (slots + 6 * (φ r).2.2) (pn_A Γ)) (F0 m pc jls (st.map (pn_tr Γ)))
/-- the room of a call that goes d deep and makes k exceptions -/
def pn_rm (d k : Nat) : Room := { frames := d + 12, cells := k, slots := 6 * k, locals := 64 * d + 400 }
def pn_P (Γ : pn_G) (av : List Value) (σ : pn_S) : Array Value → State → Prop := va_Pc (av.map (pn_tr Γ)) (fun U => pn_H Γ σ U.heap ∧ va_K (pn_D Γ) vwCl (pn_ty Γ) U ∧ (∀ w ∈ pn_T, w.before #[] U = true) ∧ pn_B Γ U U.heap ∧ (pn_l Γ).stackTraces = false)
/-- A METHOD'S CONTRACT: at these arguments and this state it comes to the end r -/
def pn_C (Γ : pn_G) (d : Nat) (M : pn_M) (av : List Value) (σ : pn_S) (r : pn_O) : Prop :=
  vx_Met (pn_l Γ) M.1 [Cond.code M.1 M.2.1 M.2.2.1 M.2.2.2.1] (pn_rm d r.2.2) (pn_P Γ av σ) (pn_Q Γ r) (pn_X Γ r) r.2.2 (6 * r.2.2) (pn_A Γ)
theorem pn_P_blind {Γ : pn_G} {av : List Value} {σ : pn_S} : FrameBlind (pn_P Γ av σ) := by
  intro a U g mk h
  obtain ⟨h0, h1, h2, h3, h4, h5⟩ := h
  have hW : U.WarmedH (U.calling g mk a).vm := State.WarmedH.refl U
  exact ⟨h0, h1, va_K.moved (u := U) (U := U.calling g mk a) (Vm.Alike.refl U.vm) h2, pn_T_moved hW h3, pn_B.moved (U := U.calling g mk a) hW h4, h5⟩
theorem pn_args {Γ : pn_G} : ∀ (av : List Value) (i : Nat), (∀ v ∈ av, v.category = 1) → ∀ (q : Nat × Value), (∃ j, q.1 = i + j ∧ ∃ v, av[j]? = some v ∧ q.2 = pn_tr Γ v) → q ∈ lv_args i (av.map (pn_tr Γ)) := by
  intro av
  induction av with
  | nil => rintro i - q ⟨j, -, v, h, -⟩; simp at h
  | cons a av ih =>
    rintro i hc q ⟨j, h1, v, h2, h3⟩
    rw [List.map_cons, lv_args, if_neg (by rw [pn_tr_cat, hc a List.mem_cons_self]; decide)]
    match j, h1, h2 with
    | 0, h1, h2 =>
      rw [List.getElem?_cons_zero] at h2
      cases h2
      exact List.mem_cons.mpr (Or.inl (Prod.ext h1 h3))
    | j + 1, h1, h2 =>
      rw [List.getElem?_cons_succ] at h2
      exact List.mem_cons_of_mem _ (ih (i + 1) (fun v hv => hc v (List.mem_cons_of_mem _ hv)) q ⟨j, by omega, v, h2, h3⟩)
theorem pn_sl_len {Γ : pn_G} : ∀ (av : List Value), (∀ v ∈ av, v.category = 1) → (lg_sl (av.map (pn_tr Γ))).length = av.length := by
  intro av
  induction av with
  | nil => intro _; rfl
  | cons a av ih =>
    intro hc
    have h1 : (pn_tr Γ a).category = 1 := by rw [pn_tr_cat]; exact hc a List.mem_cons_self
    have h2 := ih (fun v hv => hc v (List.mem_cons_of_mem _ hv))
    unfold lg_sl at h2 ⊢
    rw [List.map_cons, List.flatMap_cons, if_neg (by rw [h1]; decide), List.length_append, h2]
    simp; omega
/-- a contract out of the body -/
theorem pn_of {ρ : Type} {Γ : pn_G} {d : Nat} {M : pn_M} {φ : ρ → pn_O} {av ls : List Value} {σ : pn_S} {o : Option ρ} (hy : plainName M.1.cls = true) (hh : M.2.2.2.2 = []) (hc : ∀ v ∈ av, v.category = 1) (hl : av ++ List.replicate (M.2.2.1 - av.length) Value.null = ls) (hn : av.length ≤ M.2.2.1)
    (k : pn_W9 Γ d M φ 0 ls [] σ o) : ∀ r, o = some r → pn_C Γ d M av σ (φ r) := by
  intro r hr
  refine vx_ofW (cc := M.2.1) (maxL := M.2.2.1) (ret := M.2.2.2.1) hy rfl ?_
  intro p e s m args below meth c s₁ B hml ht hP
  obtain ⟨rfl, hH, hK, hT, hB, hst⟩ := hP
  have hown : s.vm.findClass M.1.cls = some m.cls := findClass_of_methodNamed B.named
  have hT' : ∀ w ∈ pn_T, w.before (av.map (pn_tr Γ)).toArray s = true := pn_T_moved (State.WarmedH.refl s) hT
  have het : c.exceptionTable.toList = tableOf M.2.2.2.2 := by
    rw [hh]
    cases hE : c.exceptionTable.toList with
    | nil => rfl
    | cons x xs => exact absurd (by rw [hE]; exact List.mem_cons_self) (ht x)
  have hsl := pn_sl_len (Γ := Γ) av hc
  have hlv := lv_entry (av.map (pn_tr Γ)) (n := M.2.2.1) (by rw [hsl]; exact hn)
  rw [lg_entry_eq]
  generalize (lg_sl (av.map (pn_tr Γ)) ++ List.replicate (M.2.2.1 - (lg_sl (av.map (pn_tr Γ))).length) Slot.unset).toArray = jls at hlv ⊢
  have hjl : pn_ls Γ M.2.2.1 ls jls := by
    subst hl
    refine ⟨by simp; omega, fun v hv => ?_, hlv.1, hlv.2.1, fun q hq => ?_⟩
    · rcases List.mem_append.mp hv with h | h
      · exact hc v h
      · rw [(List.mem_replicate.mp h).2]; rfl
    · obtain ⟨v, h1, h2, h3⟩ := pn_lv_mem.mp hq
      refine hlv.2.2 q (pn_args av 0 hc q ⟨q.1, by omega, v, ?_, h3⟩)
      rw [List.getElem?_append] at h1
      by_cases hq1 : q.1 < av.length
      · rw [if_pos hq1] at h1; exact h1
      · rw [if_neg hq1, List.getElem?_replicate] at h1
        by_cases hq2 : q.1 - av.length < M.2.2.1 - av.length
        · rw [if_pos hq2] at h1
          cases h1
          cases h2
        · rw [if_neg hq2] at h1; cases h1
  have w := k r hr p e (headSpec [Cond.code M.1 M.2.1 M.2.2.1 M.2.2.2.1] (pn_rm d (φ r).2.2)).room s m (av.map (pn_tr Γ)).toArray below meth c s.heap [] 0 0 jls
    ⟨B.exec, B.bytes, B.returns, hml, hown, hT', hK, B.notSynchronized, het, hB, Nat.le_refl _, Nat.le_refl _, hst⟩ hH va_S.rf (by rw [Nat.zero_add]; exact Nat.le_refl _) (by rw [Nat.zero_add]; exact Nat.le_refl _) hjl
  rw [Nat.zero_add, Nat.zero_add] at w
  exact w
section PN
variable {ρ : Type} {Γ : pn_G} {d : Nat} {M : pn_M} {φ : ρ → pn_O} {pc pc' : Nat} {ls ls' st : List Value} {σ : pn_S} {o : Option ρ}
theorem pn_none : pn_W9 Γ d M φ pc ls st σ none := fun r hr => nomatch hr
theorem pn_iconst {n : Int} {v : Int32} (hd : decode M.2.1 pc = .ok (.iconst n, 1)) (hp : pc + 1 = pc') (hv : Int32.ofInt n = v) (k : pn_W9 Γ d M φ pc' ls (.int v :: st) σ o) : pn_W9 Γ d M φ pc ls (st) σ o := by
  subst hp
  intro r hr p e R s m args below meth c H locs cells slots jls A9 hH hS hc hs hl
  exact lv_iconst A9.1 A9.2.1 hd hv (k r hr p e R s m args below meth c H locs cells slots jls A9 hH hS hc hs hl)
theorem pn_bipush {n : Int} {v : Int32} (hd : decode M.2.1 pc = .ok (.bipush n, 2)) (hp : pc + 2 = pc') (hv : (Int8.ofInt n).toInt32 = v) (k : pn_W9 Γ d M φ pc' ls (.int v :: st) σ o) : pn_W9 Γ d M φ pc ls (st) σ o := by
  subst hp
  intro r hr p e R s m args below meth c H locs cells slots jls A9 hH hS hc hs hl
  exact lv_bipush A9.1 A9.2.1 hd hv (k r hr p e R s m args below meth c H locs cells slots jls A9 hH hS hc hs hl)
theorem pn_sipush {n : Int} {v : Int32} (hd : decode M.2.1 pc = .ok (.sipush n, 3)) (hp : pc + 3 = pc') (hv : (Int16.ofInt n).toInt32 = v) (k : pn_W9 Γ d M φ pc' ls (.int v :: st) σ o) : pn_W9 Γ d M φ pc ls (st) σ o := by
  subst hp
  intro r hr p e R s m args below meth c H locs cells slots jls A9 hH hS hc hs hl
  exact lv_sipush A9.1 A9.2.1 hd hv (k r hr p e R s m args below meth c H locs cells slots jls A9 hH hS hc hs hl)
theorem pn_iload_n {k9 : Fin 4} {i : Nat} {x : Int32} (hd : decode M.2.1 pc = .ok (.iload_n k9, 1)) (hp : pc + 1 = pc') (hi : (k9 : Nat) = i) (hg : ls[i]? = some (.int x)) (k : pn_W9 Γ d M φ pc' ls (.int x :: st) σ o) : pn_W9 Γ d M φ pc ls (st) σ o := by
  subst hp
  intro r hr p e R s m args below meth c H locs cells slots jls A9 hH hS hc hs hl
  exact lv_iload_n A9.1 A9.2.1 hd hi (pn_ls_get hl hg rfl) (k r hr p e R s m args below meth c H locs cells slots jls A9 hH hS hc hs hl)
theorem pn_iload {i : Nat} {x : Int32} (hd : decode M.2.1 pc = .ok (.iload i, 2)) (hp : pc + 2 = pc') (hg : ls[i]? = some (.int x)) (k : pn_W9 Γ d M φ pc' ls (.int x :: st) σ o) : pn_W9 Γ d M φ pc ls (st) σ o := by
  subst hp
  intro r hr p e R s m args below meth c H locs cells slots jls A9 hH hS hc hs hl
  exact lv_iload A9.1 A9.2.1 hd (pn_ls_get hl hg rfl) (k r hr p e R s m args below meth c H locs cells slots jls A9 hH hS hc hs hl)
theorem pn_aload_n {k9 : Fin 4} {i : Nat} {x : Nat} (hd : decode M.2.1 pc = .ok (.aload_n k9, 1)) (hp : pc + 1 = pc') (hi : (k9 : Nat) = i) (hg : ls[i]? = some (.ref x)) (k : pn_W9 Γ d M φ pc' ls (.ref x :: st) σ o) : pn_W9 Γ d M φ pc ls (st) σ o := by
  subst hp
  intro r hr p e R s m args below meth c H locs cells slots jls A9 hH hS hc hs hl
  exact lv_aload_n A9.1 A9.2.1 hd hi (pn_ls_get hl hg rfl) (k r hr p e R s m args below meth c H locs cells slots jls A9 hH hS hc hs hl)
theorem pn_aload {i : Nat} {x : Nat} (hd : decode M.2.1 pc = .ok (.aload i, 2)) (hp : pc + 2 = pc') (hg : ls[i]? = some (.ref x)) (k : pn_W9 Γ d M φ pc' ls (.ref x :: st) σ o) : pn_W9 Γ d M φ pc ls (st) σ o := by
  subst hp
  intro r hr p e R s m args below meth c H locs cells slots jls A9 hH hS hc hs hl
  exact lv_aload A9.1 A9.2.1 hd (pn_ls_get hl hg rfl) (k r hr p e R s m args below meth c H locs cells slots jls A9 hH hS hc hs hl)
theorem pn_istore_n {k9 : Fin 4} {i : Nat} {x : Int32} (hd : decode M.2.1 pc = .ok (.istore_n k9, 1)) (hp : pc + 1 = pc') (hi : (k9 : Nat) = i) (hn : i < ls.length) (hls : ls.set i (.int x) = ls') (k : pn_W9 Γ d M φ pc' ls' st σ o) : pn_W9 Γ d M φ pc ls (.int x :: st) σ o := by
  subst hp
  subst hls
  intro r hr p e R s m args below meth c H locs cells slots jls A9 hH hS hc hs hl
  exact lv_istore_n A9.1 A9.2.1 hd hi hl.2.2 (by rw [← hl.1]; exact hn) rfl (fun jls' h' => k r hr p e R s m args below meth c H locs cells slots jls' A9 hH hS hc hs (pn_ls_set hl hn rfl (Or.inr rfl) h'))
theorem pn_istore {i : Nat} {x : Int32} (hd : decode M.2.1 pc = .ok (.istore i, 2)) (hp : pc + 2 = pc') (hn : i < ls.length) (hls : ls.set i (.int x) = ls') (k : pn_W9 Γ d M φ pc' ls' st σ o) : pn_W9 Γ d M φ pc ls (.int x :: st) σ o := by
  subst hp
  subst hls
  intro r hr p e R s m args below meth c H locs cells slots jls A9 hH hS hc hs hl
  exact lv_istore A9.1 A9.2.1 hd hl.2.2 (by rw [← hl.1]; exact hn) rfl (fun jls' h' => k r hr p e R s m args below meth c H locs cells slots jls' A9 hH hS hc hs (pn_ls_set hl hn rfl (Or.inr rfl) h'))
theorem pn_astore_n {k9 : Fin 4} {i : Nat} {x : Nat} (hd : decode M.2.1 pc = .ok (.astore_n k9, 1)) (hp : pc + 1 = pc') (hi : (k9 : Nat) = i) (hn : i < ls.length) (hls : ls.set i (.ref x) = ls') (k : pn_W9 Γ d M φ pc' ls' st σ o) : pn_W9 Γ d M φ pc ls (.ref x :: st) σ o := by
  subst hp
  subst hls
  intro r hr p e R s m args below meth c H locs cells slots jls A9 hH hS hc hs hl
  exact lv_astore_n A9.1 A9.2.1 hd hi hl.2.2 (by rw [← hl.1]; exact hn) rfl (fun jls' h' => k r hr p e R s m args below meth c H locs cells slots jls' A9 hH hS hc hs (pn_ls_set hl hn rfl (Or.inr rfl) h'))
theorem pn_astore {i : Nat} {x : Nat} (hd : decode M.2.1 pc = .ok (.astore i, 2)) (hp : pc + 2 = pc') (hn : i < ls.length) (hls : ls.set i (.ref x) = ls') (k : pn_W9 Γ d M φ pc' ls' st σ o) : pn_W9 Γ d M φ pc ls (.ref x :: st) σ o := by
  subst hp
  subst hls
  intro r hr p e R s m args below meth c H locs cells slots jls A9 hH hS hc hs hl
  exact lv_astore A9.1 A9.2.1 hd hl.2.2 (by rw [← hl.1]; exact hn) rfl (fun jls' h' => k r hr p e R s m args below meth c H locs cells slots jls' A9 hH hS hc hs (pn_ls_set hl hn rfl (Or.inr rfl) h'))
theorem pn_iinc {i : Nat} {n : Int} {x v : Int32} (hd : decode M.2.1 pc = .ok (.iinc i n, 3)) (hp : pc + 3 = pc') (hn : i < ls.length) (hg : ls[i]? = some (.int x)) (hv : x + Int32.ofInt n = v) (hls : ls.set i (.int v) = ls') (k : pn_W9 Γ d M φ pc' ls' st σ o) : pn_W9 Γ d M φ pc ls st σ o := by
  subst hp
  subst hls
  intro r hr p e R s m args below meth c H locs cells slots jls A9 hH hS hc hs hl
  obtain ⟨k9, hk9⟩ := List.mem_iff_getElem?.mp (pn_lv_mem (Γ := Γ) (q := (i, .int x)) |>.mpr ⟨.int x, hg, rfl, rfl⟩)
  exact lv_iinc A9.1 A9.2.1 hd hl.2.2 hk9 hv (by rw [← hl.1]; exact hn) rfl (fun jls' h' => k r hr p e R s m args below meth c H locs cells slots jls' A9 hH hS hc hs (pn_ls_set hl hn rfl (Or.inr rfl) h'))
theorem pn_iadd {x y : Int32} (hd : decode M.2.1 pc = .ok (.iadd, 1)) (hp : pc + 1 = pc') (k : pn_W9 Γ d M φ pc' ls (.int (x + y) :: st) σ o) : pn_W9 Γ d M φ pc ls (.int y :: .int x :: st) σ o := by
  subst hp
  intro r hr p e R s m args below meth c H locs cells slots jls A9 hH hS hc hs hl
  exact lv_iadd A9.1 A9.2.1 hd (k r hr p e R s m args below meth c H locs cells slots jls A9 hH hS hc hs hl)
theorem pn_isub {x y : Int32} (hd : decode M.2.1 pc = .ok (.isub, 1)) (hp : pc + 1 = pc') (k : pn_W9 Γ d M φ pc' ls (.int (x - y) :: st) σ o) : pn_W9 Γ d M φ pc ls (.int y :: .int x :: st) σ o := by
  subst hp
  intro r hr p e R s m args below meth c H locs cells slots jls A9 hH hS hc hs hl
  exact lv_isub A9.1 A9.2.1 hd (k r hr p e R s m args below meth c H locs cells slots jls A9 hH hS hc hs hl)
theorem pn_imul {x y : Int32} (hd : decode M.2.1 pc = .ok (.imul, 1)) (hp : pc + 1 = pc') (k : pn_W9 Γ d M φ pc' ls (.int (x * y) :: st) σ o) : pn_W9 Γ d M φ pc ls (.int y :: .int x :: st) σ o := by
  subst hp
  intro r hr p e R s m args below meth c H locs cells slots jls A9 hH hS hc hs hl
  exact lv_imul A9.1 A9.2.1 hd (k r hr p e R s m args below meth c H locs cells slots jls A9 hH hS hc hs hl)
theorem pn_iand {x y : Int32} (hd : decode M.2.1 pc = .ok (.iand, 1)) (hp : pc + 1 = pc') (k : pn_W9 Γ d M φ pc' ls (.int (x &&& y) :: st) σ o) : pn_W9 Γ d M φ pc ls (.int y :: .int x :: st) σ o := by
  subst hp
  intro r hr p e R s m args below meth c H locs cells slots jls A9 hH hS hc hs hl
  exact lv_iand A9.1 A9.2.1 hd (k r hr p e R s m args below meth c H locs cells slots jls A9 hH hS hc hs hl)
theorem pn_ior {x y : Int32} (hd : decode M.2.1 pc = .ok (.ior, 1)) (hp : pc + 1 = pc') (k : pn_W9 Γ d M φ pc' ls (.int (x ||| y) :: st) σ o) : pn_W9 Γ d M φ pc ls (.int y :: .int x :: st) σ o := by
  subst hp
  intro r hr p e R s m args below meth c H locs cells slots jls A9 hH hS hc hs hl
  exact lv_ior A9.1 A9.2.1 hd (k r hr p e R s m args below meth c H locs cells slots jls A9 hH hS hc hs hl)
theorem pn_ixor {x y : Int32} (hd : decode M.2.1 pc = .ok (.ixor, 1)) (hp : pc + 1 = pc') (k : pn_W9 Γ d M φ pc' ls (.int (x ^^^ y) :: st) σ o) : pn_W9 Γ d M φ pc ls (.int y :: .int x :: st) σ o := by
  subst hp
  intro r hr p e R s m args below meth c H locs cells slots jls A9 hH hS hc hs hl
  exact lv_ixor A9.1 A9.2.1 hd (k r hr p e R s m args below meth c H locs cells slots jls A9 hH hS hc hs hl)
theorem pn_ishl {x y : Int32} (hd : decode M.2.1 pc = .ok (.ishl, 1)) (hp : pc + 1 = pc') (k : pn_W9 Γ d M φ pc' ls (.int (x <<< (y &&& 31)) :: st) σ o) : pn_W9 Γ d M φ pc ls (.int y :: .int x :: st) σ o := by
  subst hp
  intro r hr p e R s m args below meth c H locs cells slots jls A9 hH hS hc hs hl
  exact lv_ishl A9.1 A9.2.1 hd (k r hr p e R s m args below meth c H locs cells slots jls A9 hH hS hc hs hl)
theorem pn_ishr {x y : Int32} (hd : decode M.2.1 pc = .ok (.ishr, 1)) (hp : pc + 1 = pc') (k : pn_W9 Γ d M φ pc' ls (.int (x >>> (y &&& 31)) :: st) σ o) : pn_W9 Γ d M φ pc ls (.int y :: .int x :: st) σ o := by
  subst hp
  intro r hr p e R s m args below meth c H locs cells slots jls A9 hH hS hc hs hl
  exact lv_ishr A9.1 A9.2.1 hd (k r hr p e R s m args below meth c H locs cells slots jls A9 hH hS hc hs hl)
theorem pn_iushr {x y : Int32} (hd : decode M.2.1 pc = .ok (.iushr, 1)) (hp : pc + 1 = pc') (k : pn_W9 Γ d M φ pc' ls (.int ((x.toUInt32 >>> (y.toUInt32 &&& Int32.toUInt32 31)).toInt32) :: st) σ o) : pn_W9 Γ d M φ pc ls (.int y :: .int x :: st) σ o := by
  subst hp
  intro r hr p e R s m args below meth c H locs cells slots jls A9 hH hS hc hs hl
  exact lv_iushr A9.1 A9.2.1 hd rfl (k r hr p e R s m args below meth c H locs cells slots jls A9 hH hS hc hs hl)
theorem pn_ineg {x : Int32} (hd : decode M.2.1 pc = .ok (.ineg, 1)) (hp : pc + 1 = pc') (k : pn_W9 Γ d M φ pc' ls (.int (-x) :: st) σ o) : pn_W9 Γ d M φ pc ls (.int x :: st) σ o := by
  subst hp
  intro r hr p e R s m args below meth c H locs cells slots jls A9 hH hS hc hs hl
  exact lv_ineg A9.1 A9.2.1 hd (k r hr p e R s m args below meth c H locs cells slots jls A9 hH hS hc hs hl)
theorem pn_idiv {x y : Int32} {o1 : Option ρ} (hd : decode M.2.1 pc = .ok (.idiv, 1)) (hp : pc + 1 = pc') (k : pn_W9 Γ d M φ pc' ls (.int (x / y) :: st) σ o1) : pn_W9 Γ d M φ pc ls (.int y :: .int x :: st) σ (if y = 0 then none else o1) := by
  by_cases hy : y = 0
  · rw [if_pos hy]; exact pn_none
  rw [if_neg hy]
  subst hp
  intro r hr p e R s m args below meth c H locs cells slots jls A9 hH hS hc hs hl
  exact lv_idiv A9.1 A9.2.1 hd hy (k r hr p e R s m args below meth c H locs cells slots jls A9 hH hS hc hs hl)
theorem pn_idivc {x y : Int32} (hd : decode M.2.1 pc = .ok (.idiv, 1)) (hp : pc + 1 = pc') (hy : ¬ y = 0) (k : pn_W9 Γ d M φ pc' ls (.int (x / y) :: st) σ o) : pn_W9 Γ d M φ pc ls (.int y :: .int x :: st) σ o := by
  subst hp
  intro r hr p e R s m args below meth c H locs cells slots jls A9 hH hS hc hs hl
  exact lv_idiv A9.1 A9.2.1 hd hy (k r hr p e R s m args below meth c H locs cells slots jls A9 hH hS hc hs hl)
theorem pn_irem {x y : Int32} {o1 : Option ρ} (hd : decode M.2.1 pc = .ok (.irem, 1)) (hp : pc + 1 = pc') (k : pn_W9 Γ d M φ pc' ls (.int (x - x / y * y) :: st) σ o1) : pn_W9 Γ d M φ pc ls (.int y :: .int x :: st) σ (if y = 0 then none else o1) := by
  by_cases hy : y = 0
  · rw [if_pos hy]; exact pn_none
  rw [if_neg hy]
  subst hp
  intro r hr p e R s m args below meth c H locs cells slots jls A9 hH hS hc hs hl
  exact lv_irem A9.1 A9.2.1 hd hy (k r hr p e R s m args below meth c H locs cells slots jls A9 hH hS hc hs hl)
theorem pn_iremc {x y : Int32} (hd : decode M.2.1 pc = .ok (.irem, 1)) (hp : pc + 1 = pc') (hy : ¬ y = 0) (k : pn_W9 Γ d M φ pc' ls (.int (x - x / y * y) :: st) σ o) : pn_W9 Γ d M φ pc ls (.int y :: .int x :: st) σ o := by
  subst hp
  intro r hr p e R s m args below meth c H locs cells slots jls A9 hH hS hc hs hl
  exact lv_irem A9.1 A9.2.1 hd hy (k r hr p e R s m args below meth c H locs cells slots jls A9 hH hS hc hs hl)
theorem pn_i2b {x : Int32} (hd : decode M.2.1 pc = .ok (.i2b, 1)) (hp : pc + 1 = pc') (k : pn_W9 Γ d M φ pc' ls (.int x.toInt8.toInt32 :: st) σ o) : pn_W9 Γ d M φ pc ls (.int x :: st) σ o := by
  subst hp
  intro r hr p e R s m args below meth c H locs cells slots jls A9 hH hS hc hs hl
  exact lv_i2b A9.1 A9.2.1 hd rfl (k r hr p e R s m args below meth c H locs cells slots jls A9 hH hS hc hs hl)
theorem pn_i2c {x : Int32} (hd : decode M.2.1 pc = .ok (.i2c, 1)) (hp : pc + 1 = pc') (k : pn_W9 Γ d M φ pc' ls (.int (x.toUInt32 % 65536).toInt32 :: st) σ o) : pn_W9 Γ d M φ pc ls (.int x :: st) σ o := by
  subst hp
  intro r hr p e R s m args below meth c H locs cells slots jls A9 hH hS hc hs hl
  exact lv_i2c A9.1 A9.2.1 hd rfl (k r hr p e R s m args below meth c H locs cells slots jls A9 hH hS hc hs hl)
theorem pn_i2l {x : Int32} (hd : decode M.2.1 pc = .ok (.i2l, 1)) (hp : pc + 1 = pc') (k : pn_W9 Γ d M φ pc' ls (.long x.toInt64 :: st) σ o) : pn_W9 Γ d M φ pc ls (.int x :: st) σ o := by
  subst hp
  intro r hr p e R s m args below meth c H locs cells slots jls A9 hH hS hc hs hl
  exact lv_i2l A9.1 A9.2.1 hd rfl (k r hr p e R s m args below meth c H locs cells slots jls A9 hH hS hc hs hl)
theorem pn_lconst {n : Fin 2} {x : Int32} (hd : decode M.2.1 pc = .ok (.lconst n, 1)) (hp : pc + 1 = pc') (hv : Int64.ofNat (n : Nat) = x.toInt64) (k : pn_W9 Γ d M φ pc' ls (.long x.toInt64 :: st) σ o) : pn_W9 Γ d M φ pc ls (st) σ o := by
  subst hp
  intro r hr p e R s m args below meth c H locs cells slots jls A9 hH hS hc hs hl
  exact lv_lconst A9.1 A9.2.1 hd hv (k r hr p e R s m args below meth c H locs cells slots jls A9 hH hS hc hs hl)
theorem pn_dupi {x : Int32} (hd : decode M.2.1 pc = .ok (.dup, 1)) (hp : pc + 1 = pc') (k : pn_W9 Γ d M φ pc' ls (.int x :: .int x :: st) σ o) : pn_W9 Γ d M φ pc ls (.int x :: st) σ o := by
  subst hp
  intro r hr p e R s m args below meth c H locs cells slots jls A9 hH hS hc hs hl
  exact lv_dup A9.1 A9.2.1 hd rfl (k r hr p e R s m args below meth c H locs cells slots jls A9 hH hS hc hs hl)
theorem pn_dupa {x : Nat} (hd : decode M.2.1 pc = .ok (.dup, 1)) (hp : pc + 1 = pc') (k : pn_W9 Γ d M φ pc' ls (.ref x :: .ref x :: st) σ o) : pn_W9 Γ d M φ pc ls (.ref x :: st) σ o := by
  subst hp
  intro r hr p e R s m args below meth c H locs cells slots jls A9 hH hS hc hs hl
  exact lv_dup A9.1 A9.2.1 hd rfl (k r hr p e R s m args below meth c H locs cells slots jls A9 hH hS hc hs hl)
theorem pn_dup2 {x : Nat} {y : Int32} (hd : decode M.2.1 pc = .ok (.dup2, 1)) (hp : pc + 1 = pc') (k : pn_W9 Γ d M φ pc' ls (.int y :: .ref x :: .int y :: .ref x :: st) σ o) : pn_W9 Γ d M φ pc ls (.int y :: .ref x :: st) σ o := by
  subst hp
  intro r hr p e R s m args below meth c H locs cells slots jls A9 hH hS hc hs hl
  exact lv_dup2_11 A9.1 A9.2.1 hd rfl rfl (k r hr p e R s m args below meth c H locs cells slots jls A9 hH hS hc hs hl)
theorem pn_popi {x : Int32} (hd : decode M.2.1 pc = .ok (.pop, 1)) (hp : pc + 1 = pc') (k : pn_W9 Γ d M φ pc' ls (st) σ o) : pn_W9 Γ d M φ pc ls (.int x :: st) σ o := by
  subst hp
  intro r hr p e R s m args below meth c H locs cells slots jls A9 hH hS hc hs hl
  exact lv_pop A9.1 A9.2.1 hd rfl (k r hr p e R s m args below meth c H locs cells slots jls A9 hH hS hc hs hl)
theorem pn_goto {off : Int} (hd : decode M.2.1 pc = .ok (.goto off, 3)) (ht : (pc : Int) + off = (pc' : Int)) (k : pn_W9 Γ d M φ pc' ls st σ o) : pn_W9 Γ d M φ pc ls st σ o := by
  intro r hr p e R s m args below meth c H locs cells slots jls A9 hH hS hc hs hl
  exact lv_goto A9.1 A9.2.1 hd ht (k r hr p e R s m args below meth c H locs cells slots jls A9 hH hS hc hs hl)
theorem pn_icmp_eq {x y : Int32} {off : Int} {tgt : Nat} {oa ob : Option ρ} (hd : decode M.2.1 pc = .ok (.if_icmp .eq off, 3)) (ht : (pc : Int) + off = (tgt : Int)) (hp : pc + 3 = pc') (k1 : x = y → pn_W9 Γ d M φ tgt ls st σ oa) (k2 : ¬ x = y → pn_W9 Γ d M φ pc' ls st σ ob) : pn_W9 Γ d M φ pc ls (.int y :: .int x :: st) σ (if x = y then oa else ob) := by
  subst hp
  intro r hr p e R s m args below meth c H locs cells slots jls A9 hH hS hc hs hl
  by_cases h : x = y
  · rw [if_pos h] at hr
    exact lv_icmp_eq A9.1 A9.2.1 hd ht (fun h9 => k1 h r hr p e R s m args below meth c H locs cells slots jls A9 hH hS hc hs hl) (fun h9 => absurd h h9)
  · rw [if_neg h] at hr
    exact lv_icmp_eq A9.1 A9.2.1 hd ht (fun h9 => absurd h9 h) (fun h9 => k2 h r hr p e R s m args below meth c H locs cells slots jls A9 hH hS hc hs hl)
theorem pn_if_eq {x : Int32} {off : Int} {tgt : Nat} {oa ob : Option ρ} (hd : decode M.2.1 pc = .ok (.ifCond .eq off, 3)) (ht : (pc : Int) + off = (tgt : Int)) (hp : pc + 3 = pc') (k1 : x = 0 → pn_W9 Γ d M φ tgt ls st σ oa) (k2 : ¬ x = 0 → pn_W9 Γ d M φ pc' ls st σ ob) : pn_W9 Γ d M φ pc ls (.int x :: st) σ (if x = 0 then oa else ob) := by
  subst hp
  intro r hr p e R s m args below meth c H locs cells slots jls A9 hH hS hc hs hl
  by_cases h : x = 0
  · rw [if_pos h] at hr
    exact lv_if_eq A9.1 A9.2.1 hd ht (fun h9 => k1 h r hr p e R s m args below meth c H locs cells slots jls A9 hH hS hc hs hl) (fun h9 => absurd h h9)
  · rw [if_neg h] at hr
    exact lv_if_eq A9.1 A9.2.1 hd ht (fun h9 => absurd h9 h) (fun h9 => k2 h r hr p e R s m args below meth c H locs cells slots jls A9 hH hS hc hs hl)
theorem pn_icmp_ne {x y : Int32} {off : Int} {tgt : Nat} {oa ob : Option ρ} (hd : decode M.2.1 pc = .ok (.if_icmp .ne off, 3)) (ht : (pc : Int) + off = (tgt : Int)) (hp : pc + 3 = pc') (k1 : x = y → pn_W9 Γ d M φ pc' ls st σ oa) (k2 : ¬ x = y → pn_W9 Γ d M φ tgt ls st σ ob) : pn_W9 Γ d M φ pc ls (.int y :: .int x :: st) σ (if x = y then oa else ob) := by
  subst hp
  intro r hr p e R s m args below meth c H locs cells slots jls A9 hH hS hc hs hl
  by_cases h : x = y
  · rw [if_pos h] at hr
    exact lv_icmp_ne A9.1 A9.2.1 hd ht (fun h9 => absurd h h9) (fun h9 => k1 h r hr p e R s m args below meth c H locs cells slots jls A9 hH hS hc hs hl)
  · rw [if_neg h] at hr
    exact lv_icmp_ne A9.1 A9.2.1 hd ht (fun h9 => k2 h r hr p e R s m args below meth c H locs cells slots jls A9 hH hS hc hs hl) (fun h9 => absurd h9 h)
theorem pn_if_ne {x : Int32} {off : Int} {tgt : Nat} {oa ob : Option ρ} (hd : decode M.2.1 pc = .ok (.ifCond .ne off, 3)) (ht : (pc : Int) + off = (tgt : Int)) (hp : pc + 3 = pc') (k1 : x = 0 → pn_W9 Γ d M φ pc' ls st σ oa) (k2 : ¬ x = 0 → pn_W9 Γ d M φ tgt ls st σ ob) : pn_W9 Γ d M φ pc ls (.int x :: st) σ (if x = 0 then oa else ob) := by
  subst hp
  intro r hr p e R s m args below meth c H locs cells slots jls A9 hH hS hc hs hl
  by_cases h : x = 0
  · rw [if_pos h] at hr
    exact lv_if_ne A9.1 A9.2.1 hd ht (fun h9 => absurd h h9) (fun h9 => k1 h r hr p e R s m args below meth c H locs cells slots jls A9 hH hS hc hs hl)
  · rw [if_neg h] at hr
    exact lv_if_ne A9.1 A9.2.1 hd ht (fun h9 => k2 h r hr p e R s m args below meth c H locs cells slots jls A9 hH hS hc hs hl) (fun h9 => absurd h9 h)
theorem pn_icmp_lt {x y : Int32} {off : Int} {tgt : Nat} {oa ob : Option ρ} (hd : decode M.2.1 pc = .ok (.if_icmp .lt off, 3)) (ht : (pc : Int) + off = (tgt : Int)) (hp : pc + 3 = pc') (k1 : x < y → pn_W9 Γ d M φ tgt ls st σ oa) (k2 : ¬ x < y → pn_W9 Γ d M φ pc' ls st σ ob) : pn_W9 Γ d M φ pc ls (.int y :: .int x :: st) σ (if x < y then oa else ob) := by
  subst hp
  intro r hr p e R s m args below meth c H locs cells slots jls A9 hH hS hc hs hl
  by_cases h : x < y
  · rw [if_pos h] at hr
    exact lv_icmp_lt A9.1 A9.2.1 hd ht (fun h9 => k1 h r hr p e R s m args below meth c H locs cells slots jls A9 hH hS hc hs hl) (fun h9 => absurd h h9)
  · rw [if_neg h] at hr
    exact lv_icmp_lt A9.1 A9.2.1 hd ht (fun h9 => absurd h9 h) (fun h9 => k2 h r hr p e R s m args below meth c H locs cells slots jls A9 hH hS hc hs hl)
theorem pn_if_lt {x : Int32} {off : Int} {tgt : Nat} {oa ob : Option ρ} (hd : decode M.2.1 pc = .ok (.ifCond .lt off, 3)) (ht : (pc : Int) + off = (tgt : Int)) (hp : pc + 3 = pc') (k1 : x < 0 → pn_W9 Γ d M φ tgt ls st σ oa) (k2 : ¬ x < 0 → pn_W9 Γ d M φ pc' ls st σ ob) : pn_W9 Γ d M φ pc ls (.int x :: st) σ (if x < 0 then oa else ob) := by
  subst hp
  intro r hr p e R s m args below meth c H locs cells slots jls A9 hH hS hc hs hl
  by_cases h : x < 0
  · rw [if_pos h] at hr
    exact lv_if_lt A9.1 A9.2.1 hd ht (fun h9 => k1 h r hr p e R s m args below meth c H locs cells slots jls A9 hH hS hc hs hl) (fun h9 => absurd h h9)
  · rw [if_neg h] at hr
    exact lv_if_lt A9.1 A9.2.1 hd ht (fun h9 => absurd h9 h) (fun h9 => k2 h r hr p e R s m args below meth c H locs cells slots jls A9 hH hS hc hs hl)
theorem pn_icmp_ge {x y : Int32} {off : Int} {tgt : Nat} {oa ob : Option ρ} (hd : decode M.2.1 pc = .ok (.if_icmp .ge off, 3)) (ht : (pc : Int) + off = (tgt : Int)) (hp : pc + 3 = pc') (k1 : y ≤ x → pn_W9 Γ d M φ tgt ls st σ oa) (k2 : ¬ y ≤ x → pn_W9 Γ d M φ pc' ls st σ ob) : pn_W9 Γ d M φ pc ls (.int y :: .int x :: st) σ (if y ≤ x then oa else ob) := by
  subst hp
  intro r hr p e R s m args below meth c H locs cells slots jls A9 hH hS hc hs hl
  by_cases h : y ≤ x
  · rw [if_pos h] at hr
    exact lv_icmp_ge A9.1 A9.2.1 hd ht (fun h9 => k1 h r hr p e R s m args below meth c H locs cells slots jls A9 hH hS hc hs hl) (fun h9 => absurd h h9)
  · rw [if_neg h] at hr
    exact lv_icmp_ge A9.1 A9.2.1 hd ht (fun h9 => absurd h9 h) (fun h9 => k2 h r hr p e R s m args below meth c H locs cells slots jls A9 hH hS hc hs hl)
theorem pn_if_ge {x : Int32} {off : Int} {tgt : Nat} {oa ob : Option ρ} (hd : decode M.2.1 pc = .ok (.ifCond .ge off, 3)) (ht : (pc : Int) + off = (tgt : Int)) (hp : pc + 3 = pc') (k1 : 0 ≤ x → pn_W9 Γ d M φ tgt ls st σ oa) (k2 : ¬ 0 ≤ x → pn_W9 Γ d M φ pc' ls st σ ob) : pn_W9 Γ d M φ pc ls (.int x :: st) σ (if 0 ≤ x then oa else ob) := by
  subst hp
  intro r hr p e R s m args below meth c H locs cells slots jls A9 hH hS hc hs hl
  by_cases h : 0 ≤ x
  · rw [if_pos h] at hr
    exact lv_if_ge A9.1 A9.2.1 hd ht (fun h9 => k1 h r hr p e R s m args below meth c H locs cells slots jls A9 hH hS hc hs hl) (fun h9 => absurd h h9)
  · rw [if_neg h] at hr
    exact lv_if_ge A9.1 A9.2.1 hd ht (fun h9 => absurd h9 h) (fun h9 => k2 h r hr p e R s m args below meth c H locs cells slots jls A9 hH hS hc hs hl)
theorem pn_icmp_gt {x y : Int32} {off : Int} {tgt : Nat} {oa ob : Option ρ} (hd : decode M.2.1 pc = .ok (.if_icmp .gt off, 3)) (ht : (pc : Int) + off = (tgt : Int)) (hp : pc + 3 = pc') (k1 : y < x → pn_W9 Γ d M φ tgt ls st σ oa) (k2 : ¬ y < x → pn_W9 Γ d M φ pc' ls st σ ob) : pn_W9 Γ d M φ pc ls (.int y :: .int x :: st) σ (if y < x then oa else ob) := by
  subst hp
  intro r hr p e R s m args below meth c H locs cells slots jls A9 hH hS hc hs hl
  by_cases h : y < x
  · rw [if_pos h] at hr
    exact lv_icmp_gt A9.1 A9.2.1 hd ht (fun h9 => k1 h r hr p e R s m args below meth c H locs cells slots jls A9 hH hS hc hs hl) (fun h9 => absurd h h9)
  · rw [if_neg h] at hr
    exact lv_icmp_gt A9.1 A9.2.1 hd ht (fun h9 => absurd h9 h) (fun h9 => k2 h r hr p e R s m args below meth c H locs cells slots jls A9 hH hS hc hs hl)
theorem pn_if_gt {x : Int32} {off : Int} {tgt : Nat} {oa ob : Option ρ} (hd : decode M.2.1 pc = .ok (.ifCond .gt off, 3)) (ht : (pc : Int) + off = (tgt : Int)) (hp : pc + 3 = pc') (k1 : 0 < x → pn_W9 Γ d M φ tgt ls st σ oa) (k2 : ¬ 0 < x → pn_W9 Γ d M φ pc' ls st σ ob) : pn_W9 Γ d M φ pc ls (.int x :: st) σ (if 0 < x then oa else ob) := by
  subst hp
  intro r hr p e R s m args below meth c H locs cells slots jls A9 hH hS hc hs hl
  by_cases h : 0 < x
  · rw [if_pos h] at hr
    exact lv_if_gt A9.1 A9.2.1 hd ht (fun h9 => k1 h r hr p e R s m args below meth c H locs cells slots jls A9 hH hS hc hs hl) (fun h9 => absurd h h9)
  · rw [if_neg h] at hr
    exact lv_if_gt A9.1 A9.2.1 hd ht (fun h9 => absurd h9 h) (fun h9 => k2 h r hr p e R s m args below meth c H locs cells slots jls A9 hH hS hc hs hl)
theorem pn_icmp_le {x y : Int32} {off : Int} {tgt : Nat} {oa ob : Option ρ} (hd : decode M.2.1 pc = .ok (.if_icmp .le off, 3)) (ht : (pc : Int) + off = (tgt : Int)) (hp : pc + 3 = pc') (k1 : x ≤ y → pn_W9 Γ d M φ tgt ls st σ oa) (k2 : ¬ x ≤ y → pn_W9 Γ d M φ pc' ls st σ ob) : pn_W9 Γ d M φ pc ls (.int y :: .int x :: st) σ (if x ≤ y then oa else ob) := by
  subst hp
  intro r hr p e R s m args below meth c H locs cells slots jls A9 hH hS hc hs hl
  by_cases h : x ≤ y
  · rw [if_pos h] at hr
    exact lv_icmp_le A9.1 A9.2.1 hd ht (fun h9 => k1 h r hr p e R s m args below meth c H locs cells slots jls A9 hH hS hc hs hl) (fun h9 => absurd h h9)
  · rw [if_neg h] at hr
    exact lv_icmp_le A9.1 A9.2.1 hd ht (fun h9 => absurd h9 h) (fun h9 => k2 h r hr p e R s m args below meth c H locs cells slots jls A9 hH hS hc hs hl)
theorem pn_if_le {x : Int32} {off : Int} {tgt : Nat} {oa ob : Option ρ} (hd : decode M.2.1 pc = .ok (.ifCond .le off, 3)) (ht : (pc : Int) + off = (tgt : Int)) (hp : pc + 3 = pc') (k1 : x ≤ 0 → pn_W9 Γ d M φ tgt ls st σ oa) (k2 : ¬ x ≤ 0 → pn_W9 Γ d M φ pc' ls st σ ob) : pn_W9 Γ d M φ pc ls (.int x :: st) σ (if x ≤ 0 then oa else ob) := by
  subst hp
  intro r hr p e R s m args below meth c H locs cells slots jls A9 hH hS hc hs hl
  by_cases h : x ≤ 0
  · rw [if_pos h] at hr
    exact lv_if_le A9.1 A9.2.1 hd ht (fun h9 => k1 h r hr p e R s m args below meth c H locs cells slots jls A9 hH hS hc hs hl) (fun h9 => absurd h h9)
  · rw [if_neg h] at hr
    exact lv_if_le A9.1 A9.2.1 hd ht (fun h9 => absurd h9 h) (fun h9 => k2 h r hr p e R s m args below meth c H locs cells slots jls A9 hH hS hc hs hl)
theorem pn_ifnonnull {x : Nat} {off : Int} (hd : decode M.2.1 pc = .ok (.ifnonnull off, 3)) (ht : (pc : Int) + off = (pc' : Int)) (k : pn_W9 Γ d M φ pc' ls st σ o) : pn_W9 Γ d M φ pc ls (.ref x :: st) σ o := by
  intro r hr p e R s m args below meth c H locs cells slots jls A9 hH hS hc hs hl
  exact lv_ifnonnull A9.1 A9.2.1 hd ht (k r hr p e R s m args below meth c H locs cells slots jls A9 hH hS hc hs hl)
end PN
