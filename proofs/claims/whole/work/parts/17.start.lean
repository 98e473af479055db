/-! FROM THE LAW'S ENTRY TO ITS LOOP -/
set_option maxRecDepth 20000
/-- the ints behind the constructors -/
def pn_s0 : pn_S := pk_Yend.2.2
theorem pk_end_n : pk_Yend.1 = 97 := by decide +kernel
theorem pk_end_F : ∀ i, i < 97 → ∀ k, k < pn_N (pn_K i) → (pn_R i k).isSome = true → pk_Yend.2.1 i k = true := by decide +kernel
theorem pk_end_V : ∀ j, j < 12 → pk_Yend.2.1 42 j = true := by decide +kernel
theorem pk_end_13 : ∀ i, i < 97 → pn_K i = 13 → i = 42 ∧ pn_L i = 12 := by decide +kernel
theorem pk_arrV {cI : ClassId} {n : Nat} {f g : Nat → Value} (h : ∀ j, j < n → f j = g j) : arrV cI n f = arrV cI n g := by
  unfold arrV
  congr 1
  apply Array.ext
  · simp
  · intro j h1 h2
    simp only [Array.getElem_ofFn]
    exact h j (by simpa using h1)
theorem pk_end {Γ : pn_G} {H : Heap} (h : pk_H Γ pk_Yend H) : pn_H Γ pn_s0 H := by
  intro i q hq
  obtain ⟨hi, rfl⟩ := pn_w_at hq
  have h1 := h i _ (pk_w_get Γ pk_Yend (by rw [pk_end_n]; exact hi))
  by_cases hK : pn_K i ≤ 10
  · have e : pk_ent Γ pk_Yend i = pn_ent Γ pn_s0 i := by
      rw [pk_ent_obj rfl hK, pn_ent_obj rfl hK]
      refine congrArg (fun z => (Sum.inr (pn_K i, z) : va_E)) (List.map_congr_left fun k hk => ?_)
      have hk : k < pn_N (pn_K i) := List.mem_range.mp hk
      unfold pk_fv pn_fv
      cases hR : pn_R i k with
      | some t => rw [pk_end_F i hi k hk (by rw [hR]; rfl)]; rfl
      | none => rfl
    rw [← e]; exact h1
  · by_cases h13 : pn_K i = 13
    · obtain ⟨e42, hL⟩ := pk_end_13 i hi h13
      rw [pk_ent_vs h13] at h1
      rw [pn_ent_ref h13]
      have h1 : H[pn_b Γ + i]? = some (vp_cell _ _) := h1
      show H[pn_b Γ + i]? = some (vp_cell _ _)
      rw [h1, vp_cell_q, vp_cell_q]
      refine congrArg some (pk_arrV fun j hj => ?_)
      rw [hL] at hj
      rw [e42, pk_end_V j hj]
      rfl
    · have e : pk_ent Γ pk_Yend i = pn_ent Γ pn_s0 i := by
        unfold pk_ent pn_ent pn_s0
        rw [if_neg hK, if_neg hK, if_neg h13, if_neg h13]
      rw [← e]; exact h1
/-- the classes -/
theorem pn_kn {s : State} {args : Array Value} (hts : ∀ w ∈ pn_T, w.before args s = true) : ∃ D : va_G, ∀ (c : Nat) (q : vw_C), vwCl[c]? = some q → u_Kn s q.1 q.2.1 q.2.2 (D.1 c) (D.2 c) := by
  have key : ∀ c : Nat, ∃ D : ClassId × (Nat → Nat), ∀ q : vw_C, vwCl[c]? = some q → u_Kn s q.1 q.2.1 q.2.2 D.1 D.2 := by
    intro c
    match c with
    | 0 => obtain ⟨cC, iS, h⟩ := u_known (C := RX0) (T := TX0) (N := 8) (n := 8) hts qi_0 (hts _ (pn_mt 225 (by decide +kernel) (by decide +kernel))); exact ⟨(cC, iS), fun q hq => by cases hq; exact h⟩
    | 1 => obtain ⟨cC, iS, h⟩ := u_known (C := RX1) (T := TX1) (N := 2) (n := 2) hts qi_1 (hts _ (pn_mt 299 (by decide +kernel) (by decide +kernel))); exact ⟨(cC, iS), fun q hq => by cases hq; exact h⟩
    | 2 => obtain ⟨cC, iS, h⟩ := u_known (C := RX2) (T := TX2) (N := 11) (n := 11) hts qi_2 (hts _ (pn_mt 149 (by decide +kernel) (by decide +kernel))); exact ⟨(cC, iS), fun q hq => by cases hq; exact h⟩
    | 3 => obtain ⟨cC, iS, h⟩ := u_known (C := RX3) (T := TX3) (N := 2) (n := 2) hts qi_3 (hts _ (pn_mt 214 (by decide +kernel) (by decide +kernel))); exact ⟨(cC, iS), fun q hq => by cases hq; exact h⟩
    | 4 => obtain ⟨cC, iS, h⟩ := u_known (C := RX5) (T := TX5) (N := 3) (n := 3) hts qi_4 (hts _ (pn_mt 261 (by decide +kernel) (by decide +kernel))); exact ⟨(cC, iS), fun q hq => by cases hq; exact h⟩
    | 5 => obtain ⟨cC, iS, h⟩ := u_known (C := RX6) (T := TX6) (N := 3) (n := 3) hts qi_5 (hts _ (pn_mt 281 (by decide +kernel) (by decide +kernel))); exact ⟨(cC, iS), fun q hq => by cases hq; exact h⟩
    | 6 => obtain ⟨cC, iS, h⟩ := u_known (C := RX7) (T := TX7) (N := 8) (n := 8) hts qi_6 (hts _ (pn_mt 38 (by decide +kernel) (by decide +kernel))); exact ⟨(cC, iS), fun q hq => by cases hq; exact h⟩
    | 7 => obtain ⟨cC, iS, h⟩ := u_known (C := RX8) (T := TX8) (N := 15) (n := 15) hts qi_7 (hts _ (pn_mt 74 (by decide +kernel) (by decide +kernel))); exact ⟨(cC, iS), fun q hq => by cases hq; exact h⟩
    | 8 => obtain ⟨cC, iS, h⟩ := u_known (C := RX9) (T := TX9) (N := 2) (n := 2) hts qi_8 (hts _ (pn_mt 194 (by decide +kernel) (by decide +kernel))); exact ⟨(cC, iS), fun q hq => by cases hq; exact h⟩
    | 9 => obtain ⟨cC, iS, h⟩ := u_known (C := RX10) (T := TX10) (N := 16) (n := 16) hts qi_9 (hts _ (pn_mt 30 (by decide +kernel) (by decide +kernel))); exact ⟨(cC, iS), fun q hq => by cases hq; exact h⟩
    | 10 => obtain ⟨cC, iS, h⟩ := u_known (C := RX11) (T := TX11) (N := 21) (n := 21) hts qi_10 (hts _ (pn_mt 1283 (by decide +kernel) (by decide +kernel))); exact ⟨(cC, iS), fun q hq => by cases hq; exact h⟩
    | n + 11 => exact ⟨(0, fun _ => 0), fun q hq => nomatch hq⟩
  obtain ⟨D, hD⟩ := Classical.axiomOfChoice key
  exact ⟨(fun c => (D c).1, fun c => (D c).2), fun c q hq => hD c q hq⟩
theorem pn_ac {s : State} {args : Array Value} {ty : FieldType} (h : (Cond.arrayClass ty).before args s = true) (hty : ∀ C, ty ≠ .object C) : ∃ cA : ClassId, ArrOfT s cA ty ∧ va_RA s cA ty := by
  obtain ⟨c, k, comp, h1, h2, h3⟩ := Cond.arrayClass_spec h
  refine ⟨c, fun n z => ⟨fun q hq => (by cases hq), k, h2, comp, h3⟩, ?_⟩
  unfold va_RA
  split
  · rename_i C; exact absurd rfl (hty C)
  · exact h1
theorem pn_ao {s : State} {args : Array Value} {C : String} (h : (Cond.arrayOver (.object C)).before args s = true) : ∃ cA : ClassId, ArrOfT s cA (.object C) ∧ va_RA s cA (.object C) := by
  obtain ⟨comp, c, k, h1, h2, h3, h4, h5⟩ := Cond.arrayOver_spec h
  exact ⟨c, fun n z => ⟨fun q hq => (by cases hq), k, h3, comp, h4⟩, k, comp, h3, h4, h1, h5⟩
/-- the texts -/
def pn_tm (i : Nat) : Term := match pn_str[i]? with
  | some q => .string q.1 q.2.1
  | none => .string "" 0
def pn_fl : List Cond := flatC (Cond.and given_1 narrow_1)
def pn_fs (i : Nat) : List Cond := [Cond.exactly (pn_tm i) "java/lang/String", Cond.eq (.field (pn_tm i) "java/lang/String" "coder" "B") (.int 0), Cond.arrayOf (.field (pn_tm i) "java/lang/String" "value" "[B") .byte, Cond.eq (.length (.field (pn_tm i) "java/lang/String" "value" "[B")) (.int (Int32.ofNat (pn_sl.getD i 0)))] ++ (List.range (pn_sl.getD i 0)).map (fun j => Cond.eq (.elem (.field (pn_tm i) "java/lang/String" "value" "[B") (.int (Int32.ofNat j))) (.int ((pn_sb.getD i []).getD j 0)))
theorem pn_fl_drop : pn_fl.drop 86 = (List.range 28).flatMap pn_fs := by decide +kernel
theorem pn_fs_in {i : Nat} (hi : i < 28) {c : Cond} (h : c ∈ pn_fs i) : c ∈ pn_fl := by
  refine List.mem_of_mem_drop (i := 86) ?_
  rw [pn_fl_drop]
  exact List.mem_flatMap.mpr ⟨i, List.mem_range.mpr hi, h⟩
theorem pn_str_ex (i : Nat) (hi : i < 28) : Cond.exactly (pn_tm i) "java/lang/String" ∈ pn_fl := pn_fs_in hi (List.mem_append_left _ (List.mem_of_getElem? (i := 0) rfl))
theorem pn_str_co (i : Nat) (hi : i < 28) : Cond.eq (.field (pn_tm i) "java/lang/String" "coder" "B") (.int 0) ∈ pn_fl := pn_fs_in hi (List.mem_append_left _ (List.mem_of_getElem? (i := 1) rfl))
theorem pn_str_ar (i : Nat) (hi : i < 28) : Cond.arrayOf (.field (pn_tm i) "java/lang/String" "value" "[B") .byte ∈ pn_fl := pn_fs_in hi (List.mem_append_left _ (List.mem_of_getElem? (i := 2) rfl))
theorem pn_str_le (i : Nat) (hi : i < 28) : Cond.eq (.length (.field (pn_tm i) "java/lang/String" "value" "[B")) (.int (Int32.ofNat (pn_sl.getD i 0))) ∈ pn_fl := pn_fs_in hi (List.mem_append_left _ (List.mem_of_getElem? (i := 3) rfl))
theorem pn_str_el (i : Nat) (hi : i < 28) (j : Nat) (hj : j < pn_sl.getD i 0) : Cond.eq (.elem (.field (pn_tm i) "java/lang/String" "value" "[B") (.int (Int32.ofNat j))) (.int ((pn_sb.getD i []).getD j 0)) ∈ pn_fl := pn_fs_in hi (List.mem_append_right _ (List.mem_map.mpr ⟨j, List.mem_range.mpr hj, rfl⟩))
theorem pn_str_rf : ∀ i, i < 28 → ∀ q, pn_str[i]? = some q → Cond.stringRef q.1 q.2.1 q.2.2 ∈ lw_tbl := by
  have h : ∀ i, i < 28 → (match pn_str[i]? with | some q => decide (Cond.stringRef q.1 q.2.1 q.2.2 ∈ lw_tbl) | none => true) = true := by decide +kernel
  intro i hi q hq
  have := h i hi
  rw [hq] at this
  exact of_decide_eq_true this
theorem pn_sl_lt : ∀ i, i < 28 → pn_sl.getD i 0 < 2 ^ 31 := by decide +kernel
/-- two of the texts are the same nowhere -/
theorem pn_str_apart : ∀ i, i < 28 → ∀ j, j < 28 → i ≠ j → pn_sl.getD i 0 ≠ pn_sl.getD j 0 ∨ ∃ k, k < pn_sl.getD i 0 ∧ (pn_sb.getD i []).getD k 0 ≠ (pn_sb.getD j []).getD k 0 := by
  have h : ∀ i, i < 28 → ∀ j, j < 28 → (i == j || pn_sl.getD i 0 != pn_sl.getD j 0 || (List.range (pn_sl.getD i 0)).any (fun k => (pn_sb.getD i []).getD k 0 != (pn_sb.getD j []).getD k 0)) = true := by decide +kernel
  intro i hi j hj hij
  have h1 := h i hi j hj
  simp only [Bool.or_eq_true, beq_iff_eq, bne_iff_ne, List.any_eq_true, List.mem_range] at h1
  rcases h1 with (h1 | h1) | ⟨k, h1, h2⟩
  · exact absurd h1 hij
  · exact Or.inl h1
  · exact Or.inr ⟨k, h1, h2⟩
theorem pn_strs {s : State} {args : Array Value} {A : Nat → Prop} (hf : ∀ w ∈ pn_fl, w.before args s = true) (hA : ∀ a : Nat, a < s.heap.size → ¬ A a) : ∃ adK adV : Nat → Nat, vk_S 28 pn_sl pn_sb adK adV A s s.heap ∧ ∀ i : Nat, i < 28 → (pn_tm i).eval args s none [] s = some (.ref (adK i)) := by
  have h0 : ∀ i : Nat, ∃ q : Nat × Nat, i < 28 → (pn_tm i).eval args s none [] s = some (.ref q.1) ∧ va_O "java/lang/String" q.1 A s s.heap ∧ va_OF "java/lang/String" "coder" "B" (.int 0) q.1 A s s.heap ∧ va_OF "java/lang/String" "value" "[B" (.ref q.2) q.1 A s s.heap ∧ va_T .byte q.2 (pn_sl.getD i 0) (fun j => .int ((pn_sb.getD i []).getD j 0)) A s s.heap := by
    intro i
    by_cases hi : i < 28
    · obtain ⟨a, c, cA, kA, q1, q2, q3, q4, q5, q6, -⟩ := Cond.exactly_spec (args := args) (first := s) (o := none) (s := s) (idx := []) (t := pn_tm i) (cls := "java/lang/String") (hf _ (pn_str_ex i hi))
      obtain ⟨t, ht, hT⟩ := va_Tof (f := fun j => .int ((pn_sb.getD i []).getD j 0)) (A := A) (pn_sl_lt i hi) (hf _ (pn_str_ar i hi)) (va_eqt (hf _ (pn_str_le i hi))) (fun j hj => va_eqt (hf _ (pn_str_el i hi j hj))) hA
      exact ⟨(a, t), fun _ => ⟨q1, ⟨cA, q3, q5, by rw [q6]; exact q2, hA a (Array.getElem?_eq_some_iff.mp q3).1⟩, vk_OFof q1 (va_eqt (hf _ (pn_str_co i hi))) hA, vk_OFof q1 ht hA, hT⟩⟩
    · exact ⟨(0, 0), fun h => absurd h hi⟩
  obtain ⟨ad, had⟩ := Classical.axiomOfChoice h0
  refine ⟨fun i => (ad i).1, fun i => (ad i).2, ⟨fun i hi => (had i hi).2, fun i j hi hj e => ?_⟩, fun i hi => (had i hi).1⟩
  by_cases hij : i = j
  · exact hij
  exfalso
  obtain ⟨cf, k, f1, f, cell, a1, a2, a3, a4, a5, -⟩ := (had i hi).2.2.2.1
  obtain ⟨cf', k', f1', f', cell', b1, b2, b3, b4, b5, -⟩ := (had j hj).2.2.2.1
  have e : (ad i).1 = (ad j).1 := e
  rw [e] at a3
  cases a3.symm.trans b3
  cases a1.symm.trans b1
  have h5 := a5.symm.trans b5
  injection h5 with h5
  injection h5 with hv
  obtain ⟨c1, d1, d2, d3, d4, d5, d6, -⟩ := (had i hi).2.2.2.2
  obtain ⟨c2, e1, e2, e3, e4, e5, e6, -⟩ := (had j hj).2.2.2.2
  rw [hv] at d1
  cases d1.symm.trans e1
  have hlen : pn_sl.getD i 0 = pn_sl.getD j 0 := by
    have h1 := d5.symm.trans e5
    have h2 := pn_sl_lt i hi
    have h3 := pn_sl_lt j hj
    have h4 : (Int32.ofNat (pn_sl.getD i 0)).toInt = (Int32.ofNat (pn_sl.getD j 0)).toInt := by rw [h1]
    rw [Int32.toInt_ofNat_of_lt h2, Int32.toInt_ofNat_of_lt h3] at h4
    omega
  rcases pn_str_apart i hi j hj hij with h | ⟨k9, hk, hne⟩
  · exact h hlen
  · have h1 := d6 k9 hk
    have h2 := e6 k9 (by rw [← hlen]; exact hk)
    rw [h1] at h2
    injection h2 with h2
    injection h2 with h2
    exact hne h2
theorem pn_nc_in : ∀ q ∈ pn_nc, Cond.not (.castable q.1 q.2) ∈ pn_fl := by decide +kernel
/-- what lies below, at the law's entry -/
theorem pn_B_start {s : State} {b L : Nat} {xs : Nat → Int32} {A : Nat → Prop} (hA : ∀ a : Nat, a < s.heap.size → ¬ A a) (hts : ∀ w ∈ lw_tbl, w.before #[Value.ref b] s = true) (hf : ∀ w ∈ pn_fl, w.before #[Value.ref b] s = true) (hX : va_X b L xs s s.heap) (hb : b < s.heap.size) :
    ∃ (adK adV : Nat → Nat) (fm : Option Nat), ∀ Γ : pn_G, (pn_A Γ = A) → pn_b Γ = s.heap.size → pn_sc Γ = (b, L, xs) → pn_ak Γ = adK → pn_av Γ = adV → pn_fm Γ = fm → pn_B Γ s s.heap := by
  obtain ⟨adK, adV, hS, hE⟩ := pn_strs hf hA
  have hq := va_Zqof (hts (.laysStatic "jdk/internal/util/Preconditions" "SIOOBE_FORMATTER" "Ljava/util/function/BiFunction;") (by decide +kernel)) (hts (.initialized "jdk/internal/util/Preconditions") (by decide +kernel)) (hf (.isRef (.static "jdk/internal/util/Preconditions" "SIOOBE_FORMATTER" "Ljava/util/function/BiFunction;")) (by decide +kernel)) hA
  have hfm : ∃ fm : Option Nat, va_Z "jdk/internal/util/Preconditions" "SIOOBE_FORMATTER" "Ljava/util/function/BiFunction;" (va_rf fm) A s s.heap := by
    rcases hq with h | ⟨t, h⟩
    · exact ⟨none, h⟩
    · exact ⟨some t, h⟩
  obtain ⟨fm, hfm⟩ := hfm
  refine ⟨adK, adV, fm, fun Γ g1 g2 g3 g4 g5 g6 => ?_⟩
  unfold pn_B
  rw [g1, g2, g3, g4, g5, g6]
  refine ⟨?_, ?_, ?_, hfm, hS, fun j q hj => ?_, hX, hb, fun q hq => va_Nc.of (hf _ (pn_nc_in q hq))⟩
  · exact vx_Zqof (hts (.laysStatic Bundle.tN "UNASSIGNED_STACK" Bundle.steD) (by decide +kernel)) (hts (.initialized Bundle.tN) (by decide +kernel)) (hf (.isRef (.static Bundle.tN "UNASSIGNED_STACK" Bundle.steD)) (by decide +kernel)) hA
  · exact vx_Zqof (hts (.laysStatic Bundle.tN "SUPPRESSED_SENTINEL" Bundle.listD) (by decide +kernel)) (hts (.initialized Bundle.tN) (by decide +kernel)) (hf (.isRef (.static Bundle.tN "SUPPRESSED_SENTINEL" Bundle.listD)) (by decide +kernel)) hA
  · exact va_Zof (hts (.laysStatic "java/lang/String" "COMPACT_STRINGS" "Z") (by decide +kernel)) (hts (.initialized "java/lang/String") (by decide +kernel)) (va_eqi (hf (.eq (.static "java/lang/String" "COMPACT_STRINGS" "Z") (.int 1)) (by decide +kernel))) hA
  · have hj28 : j < 28 := (List.getElem?_eq_some_iff.mp hj).1
    have he := hE j hj28
    unfold pn_tm at he
    rw [hj] at he
    exact vk_R.of (hts _ (pn_str_rf j hj28 q hj)) he
/-! THE CLAIM OUT OF ONE WALK OF THE LAW'S BODY -/
def R_law : String := "PanNightsLaw"
def lw_P (b : Addr) (xs : List Int32) (args : Array Value) (s : State) : Prop := args = #[.ref b] ∧ s.IntsAt b xs ∧ xs.length ≤ 3072 ∧ (Jvm.Cond.and given_1 narrow_1).before args s = true
def lw_Q (_ : Array Value) (s : State) (o : Outcome) (t : State) : Prop := o = .returned (some (.int 1)) ∧ Framed s o t [] 601024 7293034
def lw_Z (below : List Frame) (a : Array Value) (s : State) : State → Prop := fun t => ∃ o, t.status = .running ∧ Ended t below o ∧ lw_Q a s o t
/-- what holds at the law's entry -/
def lw_At (p : Program) (s : State) (m : MethodId) (meth : Method) (c : Code) (b L : Nat) (xs : Nat → Int32) : Prop :=
  p.tables.exec = Jvm.exec ∧ c.code = code ∧ meth.sig.returnType = ret ∧ c.maxLocals = 7 ∧ s.vm.findClass R_law = some m.cls ∧ (∀ w ∈ lw_tbl, w.before #[Value.ref b] s = true) ∧ va_X b L xs s s.heap ∧ b < s.heap.size ∧ meth.locks = false ∧ (Jvm.Cond.and given_1 narrow_1).before #[Value.ref b] s = true ∧ (∀ x ∈ c.exceptionTable.toList, False) ∧ meth.name = "law"
/-- nothing that was there is written: what was written is new -/
theorem pn_drop {s t : State} {L : List Loc} {k n k' n' : Nat} (h : s.sameButNew t L k n) (hL : ∀ q ∈ L, s.heap.size ≤ q.base) (hk : k ≤ k') (hn : n ≤ n') : s.sameButNew t [] k' n' := by
  refine State.sameButNew.mono ?_ hk hn
  obtain ⟨h1, h2, h3, h4, h5, h6⟩ := h
  refine ⟨h1, h2, h3, h4, h5, fun a c hc => ?_⟩
  obtain ⟨c', g1, g2, g3, g4⟩ := h6 a c hc
  refine ⟨c', g1, g2, g3, fun i _ => g4 i fun hm => ?_⟩
  have h7 : s.heap.size ≤ a := hL _ hm
  exact absurd (Array.getElem?_eq_some_iff.mp hc).1 (Nat.not_lt.mpr h7)
/-- the law's run, out of what its function says -/
theorem lw_run {p : Program} {e : Env} {s : State} {m : MethodId} {below : List Frame} {meth : Method} {c : Code} (l : Launch) (hst : l.stackTraces = false) {b L : Nat} {xs : Nat → Int32} (C0 : lw_At p s m meth c b L xs) {σ' : pn_S} {k : Nat} (hr : fL_law__23 L xs 5000 0 pn_s0 = some (1, σ', k)) (hk : k ≤ 90000) :
    W p l e room_1 s m #[Value.ref b] below meth c s.heap [] 0 0 (lw_Z below #[Value.ref b] s) (entryFrame m ([Value.ref b] : List Value).toArray 7) := by
  obtain ⟨hx, hb, hret, hml, hown, hts, hX, hbl, hlk, hgv, het, hnm⟩ := C0
  have hf : ∀ w ∈ pn_fl, w.before #[Value.ref b] s = true := flat_of_before _ hgv
  have hT : ∀ w ∈ pn_T, w.before #[Value.ref b] s = true := fun w hw => hts w (List.mem_filter.mp hw).1
  obtain ⟨D, hD⟩ := pn_kn hT
  obtain ⟨cB, b1, b2⟩ := pn_ac (hT _ ac_11) (fun C h => by cases h)
  obtain ⟨cI, i1, i2⟩ := pn_ac (hT _ ac_12) (fun C h => by cases h)
  obtain ⟨cL, l1, l2⟩ := pn_ac (hT _ ac_14) (fun C h => by cases h)
  have hao : (Cond.arrayOver (.object "PanNights$Village")).before #[Value.ref b] s = true := hts _ (by decide +kernel)
  obtain ⟨cV, v1, v2⟩ := pn_ao hao
  have hA : ∀ a : Nat, a < s.heap.size → ¬ (fun q : Nat => s.heap.size ≤ q) a := fun a h1 h2 => by have h2 : s.heap.size ≤ a := h2; omega
  obtain ⟨adK, adV, fm, hB⟩ := pn_B_start hA hts hf hX hbl
  have hB := hB (l, s.heap.size, D, (fun k => if k = 11 then cB else if k = 12 then cI else if k = 13 then cV else cL), (b, L, xs), adK, adV, fm) rfl rfl rfl rfl rfl rfl
  generalize hΓ : ((l, s.heap.size, D, (fun k => if k = 11 then cB else if k = 12 then cI else if k = 13 then cV else cL), (b, L, xs), adK, adV, fm) : pn_G) = Γ at hB
  have e1 : pn_l Γ = l := by rw [← hΓ]; rfl
  have e2 : pn_b Γ = s.heap.size := by rw [← hΓ]; rfl
  have e3 : pn_sc Γ = (b, L, xs) := by rw [← hΓ]; rfl
  have hK : va_K (pn_D Γ) vwCl (pn_ty Γ) s := by
    rw [← hΓ]
    refine ⟨fun c q hq => hD c q hq, fun k q hk9 => ?_⟩
    match k, hk9 with
    | 0, hk9 => cases hk9; exact ⟨b1, b2⟩
    | 1, hk9 => cases hk9; exact ⟨i1, i2⟩
    | 2, hk9 => cases hk9; exact ⟨v1, v2⟩
    | 3, hk9 => cases hk9; exact ⟨l1, l2⟩
    | n + 4, hk9 => exact nomatch hk9
  have A : pk_A9 Γ mL_law_ p s m #[Value.ref b] meth c := ⟨hx, hb, hret, hml, hown, hT, hK, hlk, va_AO.of hao, hnm⟩
  have hlv := lv_entry ([Value.ref b]) (n := 7) (Nat.le_of_ble_eq_true rfl)
  rw [lg_entry_eq]
  generalize (lg_sl ([Value.ref b]) ++ List.replicate (7 - (lg_sl ([Value.ref b])).length) Slot.unset).toArray = jls at hlv ⊢
  have hlv : lv_has jls 7 [(0, .ref (pn_sc Γ).1)] := by rw [e3]; exact hlv
  rw [← e1]
  refine pk_law0 A e2 (by decide) (by decide) (by decide) (by decide) hlv ?_
  intro H1 locs1 ls1 hH1 hS1 hl1
  have het' : c.exceptionTable.toList = tableOf mL_law_.2.2.2.2 := by
    cases hE : c.exceptionTable.toList with
    | nil => rfl
    | cons x xs => exact absurd (by rw [hE]; exact List.mem_cons_self) (het x)
  have hjl : pn_ls Γ 7 [.ref 5000, .ref 0, .ref 85, .ref 96, .int 0, .null, .null] ls1 := by
    refine ⟨rfl, fun v hv => ?_, hl1.1, hl1.2.1, fun q hq => ?_⟩
    · simp only [List.mem_cons, List.not_mem_nil, or_false] at hv
      rcases hv with rfl | rfl | rfl | rfl | rfl | rfl | rfl <;> rfl
    · refine hl1.2.2 q ?_
      have hq : q ∈ [(0, pn_tr Γ (.ref 5000)), (1, pn_tr Γ (.ref 0)), (2, pn_tr Γ (.ref 85)), (3, pn_tr Γ (.ref 96)), (4, pn_tr Γ (.int 0))] := hq
      simp only [List.mem_cons, List.not_mem_nil, or_false] at hq ⊢
      rcases hq with rfl | rfl | rfl | rfl | rfl
      · exact Or.inr (Or.inr (Or.inr (Or.inr rfl)))
      · exact Or.inr (Or.inr (Or.inr (Or.inl rfl)))
      · exact Or.inr (Or.inr (Or.inl rfl))
      · exact Or.inr (Or.inl rfl)
      · exact Or.inl rfl
  have w := wL_law__23 Γ L (by rw [e3]) xs (by rw [e3]) 5000 0 pn_s0 (1, σ', k) hr p e room_1 s m #[Value.ref b] below meth c H1 locs1 97 16940 ls1 ⟨hx, hb, hret, hml, hown, hT, hK, hlk, het', hB, by decide, by decide, by rw [e1]; exact hst⟩ (pk_end hH1) hS1 (by show 97 + k ≤ 601024; omega) (by show 16940 + 6 * k ≤ 7293034; omega) hjl
  intro T hT0 X0
  obtain ⟨t, a1, o, g1, g2, g3⟩ := w T hT0 X0
  refine ⟨t, a1, o, g1, g2, ?_⟩
  rcases g3 with ⟨⟨v, hv, ho, -, -⟩, Ls, ⟨f1, f2, f3⟩, f4⟩ | ⟨q, -, hq⟩
  · have hv : (Sum.inl (some (1 : Int32)) : Option Int32 ⊕ String) = .inl v := hv
    injection hv with hv
    subst hv
    refine ⟨ho, f1, f2, pn_drop f3 (fun q hq => by have := f4 q hq; unfold pn_A at this; rw [e2] at this; exact this) (by show 97 + k ≤ 601024; omega) (by show 16940 + 6 * k ≤ 7293034; omega)⟩
  · exfalso
    obtain ⟨E, cE, L9, hx9, -⟩ := hq
    have hx9 : (Sum.inl (some (1 : Int32)) : Option Int32 ⊕ String) = .inr E := hx9.1
    cases hx9
