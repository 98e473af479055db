/-! A PURE METHOD THAT ANSWERS A THING (a village of the past): its contract, how it is called, how it is proved. -/
section PNR
variable {ρ : Type} {Γ : pn_G} {d d' : Nat} {M M' : pn_M} {φ : ρ → pn_O} {pc pc' idx i ci n k : Nat} {ls st st0 av : List Value} {σ : pn_S} {o : Option ρ}
variable {p : Program} {e : Env} {R : Room} {s : State} {m : MethodId} {args : Array Value} {below : List Frame} {meth : Method} {c : Code} {H : Heap} {locs : List Loc} {cells slots : Nat} {jls : Array Slot} {Q : State → Prop} {rest : List Value}
def pn_QR (Γ : pn_G) (σ : pn_S) (t : Nat) : Array Value → State → Outcome → State → Prop := fun _ st o u => o = .returned (some (.ref (pn_b Γ + t))) ∧ pn_H Γ σ u.heap ∧ va_F (pn_A Γ) st u
def pn_XR : String → State → State → Prop := fun _ _ _ => False
/-- at these arguments and this state it answers the thing t, and nothing changes -/
def pn_CR (Γ : pn_G) (d : Nat) (M : pn_M) (av : List Value) (σ : pn_S) (t : Nat) : Prop :=
  vx_Met (pn_l Γ) M.1 [Cond.code M.1 M.2.1 M.2.2.1 M.2.2.2.1] (pn_rm d 0) (pn_P Γ av σ) (pn_QR Γ σ t) pn_XR 0 0 (pn_A Γ)
def pn_WR (Γ : pn_G) (d : Nat) (M : pn_M) (ls : List Value) (σ : pn_S) (t : Nat) : Prop :=
  ∀ (p : Program) (e : Env) (R : Room) (s : State) (m : MethodId) (args : Array Value) (below : List Frame) (meth : Method) (c : Code) (H : Heap) (locs : List Loc) (cells slots : Nat) (jls : Array Slot),
    pn_A9 Γ d M p R s m args meth c → pn_H Γ σ H → va_S (pn_A Γ) s.heap H locs → pn_ls Γ M.2.2.1 ls jls →
    W p (pn_l Γ) e R s m args below meth c H locs cells slots (vx_MQ below (pn_QR Γ σ t) pn_XR args s cells slots (pn_A Γ)) (F0 m 0 jls [])
theorem pn_ofR {t : Nat} (hy : plainName M.1.cls = true) (hh : M.2.2.2.2 = []) (hc : ∀ v ∈ av, v.category = 1) (hl : av ++ List.replicate (M.2.2.1 - av.length) Value.null = ls) (hn : av.length ≤ M.2.2.1)
    (k : pn_WR Γ d M ls σ t) : pn_CR Γ d M av σ t := by
  refine vx_ofW (cc := M.2.1) (maxL := M.2.2.1) (ret := M.2.2.2.1) hy rfl ?_
  intro p e s m args below meth c s₁ B hml ht hP
  obtain ⟨rfl, hH, hK, hT, hB, hst⟩ := hP
  have hown : s.vm.findClass M.1.cls = some m.cls := findClass_of_methodNamed B.named
  have hT' : ∀ w ∈ pn_T, w.before (av.map (pn_tr Γ)).toArray s = true := pn_T_moved (State.WarmedH.refl s) hT
  have het : c.exceptionTable.toList = tableOf M.2.2.2.2 := by
    rw [hh]
    cases hE : c.exceptionTable.toList with
    | nil => rfl
    | cons x xs => exact absurd (by rw [hE]; exact List.mem_cons_self) (ht x)
  have hsl := pn_sl_len (Γ := Γ) av hc
  have hlv := lv_entry (av.map (pn_tr Γ)) (n := M.2.2.1) (by rw [hsl]; exact hn)
  rw [lg_entry_eq]
  generalize (lg_sl (av.map (pn_tr Γ)) ++ List.replicate (M.2.2.1 - (lg_sl (av.map (pn_tr Γ))).length) Slot.unset).toArray = jls at hlv ⊢
  have hjl : pn_ls Γ M.2.2.1 ls jls := by
    subst hl
    refine ⟨by simp; omega, fun v hv => ?_, hlv.1, hlv.2.1, fun q hq => ?_⟩
    · rcases List.mem_append.mp hv with h | h
      · exact hc v h
      · rw [(List.mem_replicate.mp h).2]; rfl
    · obtain ⟨v, h1, h2, h3⟩ := pn_lv_mem.mp hq
      refine hlv.2.2 q (pn_args av 0 hc q ⟨q.1, by omega, v, ?_, h3⟩)
      rw [List.getElem?_append] at h1
      by_cases hq1 : q.1 < av.length
      · rw [if_pos hq1] at h1; exact h1
      · rw [if_neg hq1, List.getElem?_replicate] at h1
        by_cases hq2 : q.1 - av.length < M.2.2.1 - av.length
        · rw [if_pos hq2] at h1
          cases h1
          cases h2
        · rw [if_neg hq2] at h1; cases h1
  exact k p e (headSpec [Cond.code M.1 M.2.1 M.2.2.1 M.2.2.2.1] (pn_rm d 0)).room s m (av.map (pn_tr Γ)).toArray below meth c s.heap [] 0 0 jls
    ⟨B.exec, B.bytes, B.returns, hml, hown, hT', hK, B.notSynchronized, het, hB, Nat.le_refl _, Nat.le_refl _, hst⟩ hH va_S.rf hjl
/-- a field, whatever is asked behind it -/
theorem pn_getW {v : Value} (A9 : pn_A9 Γ d M p R s m args meth c) (hH : pn_H Γ σ H) (hd : decode M.2.1 pc = .ok (.getfield idx, 3)) (hF : pn_FA M.1.cls idx ci k) (hi : i < 97) (hK : pn_K i = ci) (hv : pn_fv Γ σ i k = v)
    (k9 : W p (pn_l Γ) e R s m args below meth c H locs cells slots Q (F0 m (pc + 3) jls (v :: rest))) : W p (pn_l Γ) e R s m args below meth c H locs cells slots Q (F0 m pc jls (.ref (pn_b Γ + i) :: rest)) := by
  obtain ⟨hx, hb, -, -, hown, hT, hK9, -⟩ := A9
  obtain ⟨C, T, ty0, N, h1, h2, h3, h4, h5, -, -, ref, h6, h7⟩ := hF
  have he : (pn_w Γ σ)[i]? = some (pn_b Γ + i, .inr (ci, (List.range N).map (pn_fv Γ σ i))) := by rw [pn_w_get Γ σ hi, pn_ent_obj hK h4, h3]
  rw [← hv] at k9
  rcases h7 with h7 | ⟨host, h7⟩
  · exact va_get hx hb hT h5 hown hK9 hH i he h1 k h2 (hT _ h7) (pn_hsame hT h6) (pn_fs_get h2) hd k9
  · exact va_getN hx hb hT h5 hown hK9 hH i he h1 k h2 (hT _ h7) (pn_hsame hT h6) (pn_fs_get h2) hd k9
/-- how long the row of villages is -/
theorem pn_alenW {v : Int32} (A9 : pn_A9 Γ d M p R s m args meth c) (hH : pn_H Γ σ H) (hd : decode M.2.1 pc = .ok (.arraylength, 1)) (hi : i < 97) (hK : pn_K i = 13) (hv : Int32.ofNat (pn_L i) = v)
    (k9 : W p (pn_l Γ) e R s m args below meth c H locs cells slots Q (F0 m (pc + 1) jls (.int v :: rest))) : W p (pn_l Γ) e R s m args below meth c H locs cells slots Q (F0 m pc jls (.ref (pn_b Γ + i) :: rest)) :=
  va_alen (x := (pn_L i, .inr (.inr (.inr (.inr (fun j => some (pn_b Γ + (43 + 3 * j)))))))) A9.1 A9.2.1 A9.2.2.2.2.2.2.1 hH i 2 (by rw [pn_w_get Γ σ hi, pn_ent_ref hK]) rfl hv hd k9
theorem pn_aaldW {x : Int32} (A9 : pn_A9 Γ d M p R s m args meth c) (hH : pn_H Γ σ H) (hd : decode M.2.1 pc = .ok (.aaload, 1)) (hi : i < 97) (hK : pn_K i = 13) (hL : pn_L i = 12) (hib : pn_ib x 12 = true)
    (k9 : W p (pn_l Γ) e R s m args below meth c H locs cells slots Q (F0 m (pc + 1) jls (.ref (pn_b Γ + (43 + 3 * x.toNatClampNeg)) :: rest))) : W p (pn_l Γ) e R s m args below meth c H locs cells slots Q (F0 m pc jls (.int x :: .ref (pn_b Γ + i) :: rest)) :=
  va_aldq A9.1 A9.2.1 A9.2.2.2.2.2.2.1 hH i 2 (f := fun j => some (pn_b Γ + (43 + 3 * j))) (by rw [pn_w_get Γ σ hi, pn_ent_ref hK]) rfl (by rw [hL]; exact pn_ib_in hib) hd k9
/-- a call of such a method: nothing is said where b is false -/
theorem pn_cr {t : Nat} {b : Bool} {oa : Option ρ} (hd : decode M.2.1 pc = .ok (.invokevirtual idx, 3)) (hL : pn_LV M.1.cls idx M' ci n) (hC : b = true → pn_CR Γ d' M' (.ref i :: av) σ t) (hdd : d' < d) (hi : i < 97) (hK : pn_K i = ci) (hn : av.length = n) (hst : av.reverse ++ .ref i :: st = st0) (hw : (st.map fun v => v.category).sum ≤ 8) (hp : pc + 3 = pc') (ht : b = true → t < 97)
    (kk : b = true → pn_W9 Γ d M φ pc' ls (.ref t :: st) σ oa) : pn_W9 Γ d M φ pc ls st0 σ (if b then oa else none) := by
  subst hp
  by_cases hb9 : b = true
  · rw [if_pos hb9]
    intro r hr p e R s m args below meth c H locs cells slots jls A9 hH hS hc hs hl
    have k9 := fun H1 locs1 hH1 hS1 => kk hb9 r hr p e R s m args below meth c H1 locs1 cells slots jls A9 hH1 hS1 hc hs hl
    have hrun : ∃ a : Array Value, vx_Run p (pn_l Γ) e R s m args below meth c H locs cells slots 0 0 (F0 m pc jls (st0.map (pn_tr Γ))) (st.map (pn_tr Γ)) (pn_QR Γ σ t a) pn_XR (pn_A Γ) := by
      obtain ⟨hx, hb, hr9, hml, hown, hT, hK9, hlk, het, hB, hRf, hRl, htr⟩ := A9
      obtain ⟨h1, h2, h3, h4, h5, h6, h7, ⟨T, N, h8⟩, h9, h10⟩ := hL
      have ha : pn_tr Γ (.ref i) = .ref (pn_b Γ + i) := by simp [pn_tr, pn_ad, hi]
      have he : (pn_w Γ σ)[i]? = some (pn_b Γ + i, .inr (ci, (List.range (pn_N ci)).map (pn_fv Γ σ i))) := by rw [pn_w_get Γ σ hi, pn_ent_obj hK h9]
      have hB' : pn_B Γ s H := pn_B.kept (fun a h9 h8 => hS.2.1 a h9 h8) hB
      refine ⟨_, vx_runV (own := M.1.cls) (C := M'.1.cls) (index := idx) (b := pn_b Γ + i) (As := av.map (pn_tr Γ)) (bytes := M'.2.1) (maxL := M'.2.2.1) (ret := M'.2.2.2.1) (n := n) (cc := M.2.1) (nL := M.2.2.1) (Ts := pn_T) ⟨hx, hb, hml, hown, hT⟩ (hC hb9) ?_ ⟨pn_P_blind, va_recv hK9 hH h8 he, fun U hU hW => ⟨by rw [List.map_cons, ha], pn_pre hW hU hH hK9 hT hB' htr⟩⟩ rfl (by rw [List.length_map]; exact hn) hl.2.2.1 ?_ (lv_room (pn_wt hw)) hd ⟨Nat.le_trans (Nat.le_add_right _ _) hc, Nat.le_trans (Nat.le_add_right _ _) hs⟩⟩
      · refine ⟨⟨rfl, rfl, ?_, ?_, ?_, List.mem_cons_self, hT _ h5, hT _ h4, h6, pn_nsig h7, hT _ h1⟩, hT _ h2, hT _ h3⟩
        · show d' + 12 + 1 ≤ R.frames; omega
        · exact pn_loc hdd h10 hRl
        · intro w hw9 a' U hW
          rw [List.mem_singleton] at hw9
          rw [hw9]
          exact pn_T_moved hW hT _ h5
      · show st0.map (pn_tr Γ) = _
        rw [← hst, List.map_append, List.map_cons, ha, List.map_reverse]
    obtain ⟨a, hrun⟩ := hrun
    have ha9 : pn_tr Γ (.ref t) = .ref (pn_b Γ + t) := by simp [pn_tr, pn_ad, ht hb9]
    rw [List.map_cons, ha9] at k9
    intro T hT9 X
    rcases hrun T hT9 X with ⟨v, st₀, t9, T', L, h0, X', hL9, e1, e2, ⟨ho9, hH9, hF⟩, stp⟩ | ⟨q, st₀, t9, T', L, E, ce, h0, X', hL9, e1, e2, hE, hce, hcv, hcl, stp⟩
    · cases ho9
      obtain ⟨-, -, k3⟩ := vx_keep h0 e1 hS (fun q _ h => h) (fun q h => h) hL9 hF
      obtain ⟨t2, a1, b1⟩ := k9 T'.heap (locs ++ L) (by rw [e1]; exact hH9) k3 T' rfl X'
      exact ⟨t2, stp t2 a1, b1⟩
    · exact hE.elim
  · rw [if_neg hb9]; exact pn_none
end PNR
