/-- 'vx_ofW' with the method's own word for plain -/
theorem pn_vxF {l : Launch} {y : MethodName} {ws ws' : List Cond} {rm : Room} {Pc : Array Value → State → Prop} {Qc : Array Value → State → Outcome → State → Prop} {XC : String → State → State → Prop} {mc ms : Nat} {free : Addr → Prop} {cc : ByteArray} {maxL : Nat} {ret : Option FieldType}
    (hy : plainFor y = true) (hw : ws = Cond.code y cc maxL ret :: ws')
    (body : ∀ p e s m args below meth c s₁, BodyLoose p l y (headSpec ws rm) cc maxL ret e s m args below meth c s₁ → c.maxLocals = maxL → (∀ x ∈ c.exceptionTable.toList, False) → Pc args s →
      W p l e (headSpec ws rm).room s m args below meth c s.heap [] 0 0 (vx_MQ below Qc XC args s mc ms free) (entryFrame m args maxL)) : vx_Met l y ws rm Pc Qc XC mc ms free := by
  have hcw : ∀ {args : Array Value} {s : State}, (headSpec ws rm).pre.before args s = true → (Cond.code y cc maxL ret).before args s = true := fun h => atoms_spec (ws := ws) h _ (by rw [hw]; exact List.mem_cons_self)
  refine MetFree.of_bodySF (code := cc) (maxLocals := maxL) (ret := ret) hy (fun args s m h hn => ?_) (fun p e s m args below meth c s₁ B hml hP _ => ?_)
  · obtain ⟨meth, c, h1, h2, h3, h4, h5, h6, -, -⟩ := Cond.code_spec hn (hcw h)
    exact ⟨meth, c, h1, h2, h3, h4, h5, h6⟩
  · have hno : ∀ x ∈ c.exceptionTable.toList, False := fun x hx => by
      have h7 := B.noHandlers (hcw B.pre)
      rw [Array.isEmpty_iff.mp h7] at hx
      cases hx
    obtain ⟨t, a1, o, b1, b2, b3⟩ := body p e s m args below meth c s₁ B hml hno hP s₁ (by rw [B.state]; rfl) (Stand.of_body B)
    exact ⟨t, o, a1, b1, b2, b3⟩
/-- the same, of a class of which the machine has some methods itself -/
theorem pn_ofF {ρ : Type} {Γ : pn_G} {d : Nat} {M : pn_M} {φ : ρ → pn_O} {av ls : List Value} {σ : pn_S} {o : Option ρ} (hy : plainFor M.1 = true) (hh : M.2.2.2.2 = []) (hc : ∀ v ∈ av, v.category = 1) (hl : av ++ List.replicate (M.2.2.1 - av.length) Value.null = ls) (hn : av.length ≤ M.2.2.1)
    (k : pn_W9 Γ d M φ 0 ls [] σ o) : ∀ r, o = some r → pn_C Γ d M av σ (φ r) := by
  intro r hr
  refine pn_vxF (cc := M.2.1) (maxL := M.2.2.1) (ret := M.2.2.2.1) hy rfl ?_
  intro p e s m args below meth c s₁ B hml ht hP
  obtain ⟨rfl, hH, hK, hT, hB, hst⟩ := hP
  have hown : s.vm.findClass M.1.cls = some m.cls := findClass_of_methodNamed B.named
  have hT' : ∀ w ∈ pn_T, w.before (av.map (pn_tr Γ)).toArray s = true := pn_T_moved (State.WarmedH.refl s) hT
  have het : c.exceptionTable.toList = tableOf M.2.2.2.2 := by
    rw [hh]
    cases hE : c.exceptionTable.toList with
    | nil => rfl
    | cons x xs => exact absurd (by rw [hE]; exact List.mem_cons_self) (ht x)
  have hsl := pn_sl_len (Γ := Γ) av hc
  have hlv := lv_entry (av.map (pn_tr Γ)) (n := M.2.2.1) (by rw [hsl]; exact hn)
  rw [lg_entry_eq]
  generalize (lg_sl (av.map (pn_tr Γ)) ++ List.replicate (M.2.2.1 - (lg_sl (av.map (pn_tr Γ))).length) Slot.unset).toArray = jls at hlv ⊢
  have hjl : pn_ls Γ M.2.2.1 ls jls := by
    subst hl
    refine ⟨by simp; omega, fun v hv => ?_, hlv.1, hlv.2.1, fun q hq => ?_⟩
    · rcases List.mem_append.mp hv with h | h
      · exact hc v h
      · rw [(List.mem_replicate.mp h).2]; rfl
    · obtain ⟨v, h1, h2, h3⟩ := pn_lv_mem.mp hq
      refine hlv.2.2 q (pn_args av 0 hc q ⟨q.1, by omega, v, ?_, h3⟩)
      rw [List.getElem?_append] at h1
      by_cases hq1 : q.1 < av.length
      · rw [if_pos hq1] at h1; exact h1
      · rw [if_neg hq1, List.getElem?_replicate] at h1
        by_cases hq2 : q.1 - av.length < M.2.2.1 - av.length
        · rw [if_pos hq2] at h1
          cases h1
          cases h2
        · rw [if_neg hq2] at h1; cases h1
  have w := k r hr p e (headSpec [Cond.code M.1 M.2.1 M.2.2.1 M.2.2.2.1] (pn_rm d (φ r).2.2)).room s m (av.map (pn_tr Γ)).toArray below meth c s.heap [] 0 0 jls
    ⟨B.exec, B.bytes, B.returns, hml, hown, hT', hK, B.notSynchronized, het, hB, Nat.le_refl _, Nat.le_refl _, hst⟩ hH va_S.rf (by rw [Nat.zero_add]; exact Nat.le_refl _) (by rw [Nat.zero_add]; exact Nat.le_refl _) hjl
  rw [Nat.zero_add, Nat.zero_add] at w
  exact w
section PNU
variable {ρ : Type} {Γ : pn_G} {d d' : Nat} {M M' : pn_M} {φ : ρ → pn_O} {pc pc' idx i ci n : Nat} {ls ls' st st0 av : List Value} {σ : pn_S} {o : Option ρ} {r' : pn_O}
/-- System.arraycopy of a whole row of ints into one as long -/
theorem pn_copy {a b : Nat} (hd : decode M.2.1 pc = .ok (.invokestatic idx, 3)) (hp : pc + 3 = pc') (hA : Cond.methodLink M.1.cls idx arraycopyName ∈ pn_T ∧ Cond.native arraycopyName ∈ pn_T ∧ Cond.static arraycopyName ∈ pn_T ∧ Cond.initialized "java/lang/System" ∈ pn_T)
    (ha1 : a < 97) (ha2 : pn_K a = 12) (ha3 : pn_L a = n) (hb1 : b < 97) (hb2 : pn_K b = 12) (hb3 : pn_L b = n) (hn : n < 2 ^ 31) (hw : (st.map fun v => v.category).sum ≤ 8) (kk : pn_W9 Γ d M φ pc' ls st (pn_ua σ b (va_cpy (σ a) (σ b) 0 0 n)) o) :
    pn_W9 Γ d M φ pc ls (.int (Int32.ofNat n) :: .int 0 :: .ref b :: .int 0 :: .ref a :: st) σ o := by
  subst hp
  intro r hr p e R s m args below meth c H locs cells slots jls A9 hH hS hc hs hl
  have k9 := fun H1 locs1 hH1 hS1 => kk r hr p e R s m args below meth c H1 locs1 cells slots jls A9 hH1 hS1 hc hs hl
  obtain ⟨hx, hb, hr9, hml, hown, hT, hK9, hlk, het, hB, hRf, hRl, htr⟩ := A9
  have ta : pn_tr Γ (.ref a) = .ref (pn_b Γ + a) := by simp [pn_tr, pn_ad, ha1]
  have tb : pn_tr Γ (.ref b) = .ref (pn_b Γ + b) := by simp [pn_tr, pn_ad, hb1]
  rw [List.map_cons, List.map_cons, List.map_cons, List.map_cons, List.map_cons, ta, tb]
  have hcl : (Int32.ofNat n).toNatClampNeg = n := nI_clamp hn
  have h0 : (0 : Int32).toNatClampNeg = 0 := rfl
  have hw9 := pn_wt (Γ := Γ) hw
  refine va_copyi (sp := 0) (dp := 0) (n := Int32.ofNat n) hx hb (by rw [hml]; exact hl.2.2.1.symm) hown (hT _ hA.1) (hT _ hA.2.1) (hT _ hA.2.2.1) (hT _ hA.2.2.2) hK9 hH (pn_w_D Γ σ) hS a b 1 1 (by rw [pn_w_get Γ σ ha1, pn_ent_int ha2]) (by rw [pn_w_get Γ σ hb1, pn_ent_int hb2]) rfl rfl rfl (by decide) (by decide) (nI_pos hn) (by rw [hcl, h0, ha3]; omega) (by rw [hcl, h0, hb3]; omega) (fun i _ => rfl) (by omega) ?_ hd (fun H1 locs1 q1 _ q3 => ?_)
  · have : nativeFrameWords "java/lang/System" "arraycopy" 5 = 7 := by decide
    rw [this]; omega
  · refine k9 H1 locs1 ?_ q3
    have q1 : va_P (pn_D Γ) vwCl ((pn_w Γ σ).set b (pn_b Γ + b, .inl (pn_cy Γ 12, pn_L b, .inl (va_cpy (σ a) (σ b) (0 : Int32).toNatClampNeg (0 : Int32).toNatClampNeg (Int32.ofNat n).toNatClampNeg)))) H1 := q1
    rw [hcl, h0, pn_w_row hb2] at q1
    exact q1
/-- a method that the reference names in another class than the one that has it -/
def pn_LU (own : String) (idx : Nat) (M' : pn_M) (ci n : Nat) : Prop :=
  ∃ (x : MethodName) (owner C : String), Cond.methodLink own idx x ∈ pn_T ∧ Cond.sameMethod x.cls owner x.name x.desc ∈ pn_T ∧ Cond.declares ⟨owner, x.name, x.desc⟩ ∈ pn_T ∧ Cond.selects C x M'.1 ∈ pn_T ∧ Cond.instanceMethod M'.1 ∈ pn_T ∧ Cond.initialized M'.1.cls ∈ pn_T ∧ Cond.code M'.1 M'.2.1 M'.2.2.1 M'.2.2.2.1 ∈ pn_T ∧
  (owner ≠ "java/lang/invoke/MethodHandle" ∧ owner ≠ "java/lang/invoke/VarHandle") ∧ (parseMethodDescriptor x.desc).map (fun q => q.parameters.length) = some n ∧ (∃ (T : u_T) (N : Nat), vwCl[ci]? = some (C, T, N)) ∧ ci ≤ 10 ∧ M'.2.2.1 ≤ 45
theorem pn_LKU {v : Option Int32} (hd : decode M.2.1 pc = .ok (.invokevirtual idx, 3)) (hL : pn_LU M.1.cls idx M' ci n) (hv : r'.1 = .inl v) (hC : pn_C Γ d' M' (.ref i :: av) σ r') (hdd : d' < d) (hi : i < 97) (hK : pn_K i = ci) (hn : av.length = n) (hst : av.reverse ++ .ref i :: st = st0) (hw : (st.map fun v => v.category).sum ≤ 8) : pn_LK Γ d M pc ls st0 st σ r' := by
  intro p e R s m args below meth c H locs cells slots jls A9 hH hS hc hs hl
  obtain ⟨hx, hb, hr, hml, hown, hT, hK9, hlk, het, hB, hRf, hRl, htr⟩ := A9
  obtain ⟨x, owner, C, h1, h2, h3, h4, h5, h6, h7, h8, h9, ⟨T, N, h10⟩, h11, h12⟩ := hL
  have ha : pn_tr Γ (.ref i) = .ref (pn_b Γ + i) := by simp [pn_tr, pn_ad, hi]
  have he : (pn_w Γ σ)[i]? = some (pn_b Γ + i, .inr (ci, (List.range (pn_N ci)).map (pn_fv Γ σ i))) := by rw [pn_w_get Γ σ hi, pn_ent_obj hK h11]
  have hB' : pn_B Γ s H := pn_B.kept (fun a h9 h8 => hS.2.1 a h9 h8) hB
  refine ⟨_, pn_run_of (va_runU (own := M.1.cls) (C := C) (owner := owner) (x := x) (index := idx) (b := pn_b Γ + i) (As := av.map (pn_tr Γ)) (bytes := M'.2.1) (maxL := M'.2.2.1) (ret := M'.2.2.2.1) (n := n) (cc := M.2.1) (nL := M.2.2.1) (Ts := pn_T) ⟨hx, hb, hml, hown, hT⟩ (pn_C_met hv hC) ?_ ⟨pn_P_blind, va_recv hK9 hH h10 he, fun U hU hW => ⟨by rw [List.map_cons, ha], pn_pre hW hU hH hK9 hT hB' htr⟩⟩ rfl (by rw [List.length_map]; exact hn) hl.2.2.1 ?_ (lv_room (pn_wt hw)) hd ⟨hc, hs⟩)⟩
  · refine ⟨⟨rfl, rfl, ?_, ?_, ?_, List.mem_cons_self⟩, hT _ h7, hT _ h6, h8, ?_, hT _ h1, hT _ h2, va_Decl.abs (va_Nw.of rfl (hT _ h3)), hT _ h4, hT _ h5⟩
    · show d' + 12 + 1 ≤ R.frames; omega
    · exact pn_loc hdd h12 hRl
    · intro w hw9 a' U hW
      rw [List.mem_singleton] at hw9
      rw [hw9]
      exact pn_T_moved hW hT _ h7
    · intro sig hs9
      rw [hs9] at h9
      exact (Option.some.inj h9).symm
  · show st0.map (pn_tr Γ) = _
    rw [← hst, List.map_append, List.map_cons, ha, List.map_reverse]
end PNU
