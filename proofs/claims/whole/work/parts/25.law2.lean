/-! PURE: what one needs and its pans, by the law; the class -/
/-- what the words tell of p against t -/
def Fc (V : pn_V) (p t : Nat) : Nat → Int32 := fun j =>
  if j = 24 then nI p else if j = 2 then tr V p 1 else if j = 25 then tr V p 0 else if j = 7 then tr V t 4 else if j = 4 then tr V t 3 else if j = 26 then (if V 5 = nI t then V 6 else 0) else if j = 15 then V 3 else if j = 8 then (if tr V p 5 = nI t then 1 else 0) else if j = 5 then tr V t 6 else if j = 23 then (if V 4 = 0 then 0 else 1) else 0
theorem Fc_W {V : pn_V} (hw : VW V) {p t : Nat} (ht : t < vn V) : FW (Fc V p t) := by
  refine ⟨?_, ?_, ?_⟩
  · show bo (tr V t 6) = true
    rcases rg01 (hw.p ht).2.2.2.2.2.2.1 with e | e <;> rw [e] <;> decide
  · show bo (if tr V p 5 = nI t then 1 else 0) = true
    split <;> decide
  · show bo (if V 4 = 0 then 0 else 1) = true
    split <;> decide
/-- does the condition of line i hold -/
def hold (Λ : pn_La) (F : Nat → Int32) (i : Nat) : Bool := match exL F (sg Λ.2.2.2.2 (Λ.2.2.2.1 i) (Λ.2.2.2.1 (i + 1))) [] with
  | some (b :: _) => decide (b ≠ 0)
  | _ => true
/-- the amounts of the lines of kind k that hold, of the first m -/
def lsum (Λ : pn_La) (F : Nat → Int32) (k m : Nat) : Int32 := fo (fun i acc => if Λ.2.1 i = k ∧ hold Λ F i = true then acc + Λ.2.2.1 i else acc) 0 m 0
def needs (V : pn_V) (Λ : pn_La) (t p : Nat) : Int32 := if 0 < tr V p 0 + lsum Λ (Fc V p t) 0 Λ.1 - lsum Λ (Fc V p t) 1 Λ.1 then tr V p 0 + lsum Λ (Fc V p t) 0 Λ.1 - lsum Λ (Fc V p t) 1 Λ.1 else 0
def pans (V : pn_V) (Λ : pn_La) (t p : Nat) : Int32 := 1 + lsum Λ (Fc V p t) 2 Λ.1
theorem lsum_s (Λ : pn_La) (F : Nat → Int32) (k i : Nat) : lsum Λ F k (i + 1) = if Λ.2.1 i = k ∧ hold Λ F i = true then lsum Λ F k i + Λ.2.2.1 i else lsum Λ F k i := by
  unfold lsum
  rw [fo_last, Nat.zero_add]
/-- many steps of the class's stack -/
theorem c_exL {w e : Nat} {F cd : Nat → Int32} (he : e < 2 ^ 31) (he4 : e ≤ 400) : ∀ (k i : Nat) (σ : pn_S) (st st' : List Int32) (f : Nat), i + k = e → (∀ j, j < e → σ (w + 4) j = cd j) → (∀ op, isF op = true → σ (w + 6) (op - 1000).toNatClampNeg = F (op - 1000).toNatClampNeg) → SC σ w st → exL F (sg cd i e) st = some st' → ∃ σ', fX2_holds_12 w (f + k) (nI e) (nI i) σ = fX2_holds_12 w f (nI e) (nI e) σ' ∧ SC σ' w st' ∧ FrH w σ σ' := by
  intro k
  induction k with
  | zero =>
    intro i σ st st' f hi hc hF hs hx
    have hie : i = e := by omega
    subst hie
    have : sg cd i i = [] := by unfold sg; rw [Nat.sub_self]; rfl
    rw [this] at hx
    cases hx
    exact ⟨σ, rfl, hs, FrH.rf⟩
  | succ k ih =>
    intro i σ st st' f hi hc hF hs hx
    have hsg : sg cd i e = cd i :: sg cd (i + 1) e := by
      unfold sg
      rw [show e - i = (e - (i + 1)) + 1 by omega, List.range_succ_eq_map, List.map_cons, List.map_map]
      refine congrArg (fun l => cd i :: l) (List.map_congr_left fun j _ => ?_)
      show cd (i + (j + 1)) = cd (i + 1 + j)
      exact congrArg cd (by omega)
    rw [hsg] at hx
    have hx : (ex1 F (cd i) st).bind (exL F (sg cd (i + 1) e)) = some st' := hx
    cases hx1 : ex1 F (cd i) st with
    | none => rw [hx1] at hx; cases hx
    | some s1 =>
      rw [hx1] at hx
      have hx : exL F (sg cd (i + 1) e) s1 = some st' := hx
      obtain ⟨σ1, g1, g2, g3⟩ := c_ex1 (hc i (by omega)) hF (by omega) (by omega) he hs hx1 (f + k)
      obtain ⟨σ2, k1, k2, k3⟩ := ih (i + 1) σ1 s1 st' f (by omega) (fun j hj => by rw [g3.1 _ (by omega) (by omega)]; exact hc j hj) (fun op ho => by rw [g3.1 _ (by omega) (by omega)]; exact hF op ho) g2 hx
      exact ⟨σ2, by rw [show f + (k + 1) = (f + k) + 1 by omega, g1, k1], k2, g3.tr k3⟩
theorem c_holds {σ : pn_S} {w : Nat} {h0 : Bool} {Λ : pn_La} {F : Nat → Int32} (hC : CL σ w h0 Λ) (hL : LW Λ) (hF : ∀ op, isF op = true → σ (w + 6) (op - 1000).toNatClampNeg = F (op - 1000).toNatClampNeg) (hW : FW F) {i : Nat} (hi : i < Λ.1) : ∃ σ', fX2_holds w (nI (Λ.2.2.2.1 i)) (nI (Λ.2.2.2.1 (i + 1))) σ = some (if hold Λ F i = true then 1 else 0, σ') ∧ FrH w σ σ' := by
  have hle : Λ.2.2.2.1 (i + 1) ≤ Λ.2.2.2.1 Λ.1 := hL.of_le (Λ.1 - (i + 1)) (i + 1) (by omega)
  have h400 := hL.2.2.1
  obtain ⟨-, -, hmo, hg⟩ := hL.2.2.2 i hi
  unfold fX2_holds
  rw [c_push (h := 0) (σ := pn_up σ w 8 0) (show pn_up σ w 8 0 w 8 = nI 0 from pn_up_s _ _ _ _) (by omega)]
  generalize hσ1 : pn_up (pn_up (pn_up σ w 8 0) (w + 5) 0 1) w 8 (nI (0 + 1)) = σ1
  have hfr : FrH w σ σ1 := by rw [← hσ1]; exact FrH.tr FrH_pop FrH_push
  have hsc : SC σ1 w [] := by
    rw [← hσ1]
    refine ⟨by rw [pn_up_s]; rfl, by show 0 < 32; omega, ?_⟩
    rw [pn_up_a _ _ _ _ (by omega), pn_up_row]
    exact pk_us
  show ∃ σ', fX2_holds_12 w 5000 _ _ σ1 = _ ∧ _
  have hend : ∀ (σ2 : pn_S) (f : Nat), fX2_holds_12 w (f + 1) (nI (Λ.2.2.2.1 (i + 1))) (nI (Λ.2.2.2.1 (i + 1))) σ2 = fX2_holds_155 w σ2 := fun σ2 f => by
    rw [fX2_holds_12, if_neg (nI_pos (by omega)), if_pos (nI_le (Nat.le_refl _) (by omega))]
  have hcd : ∀ j, j < Λ.2.2.2.1 (i + 1) → σ1 (w + 4) j = Λ.2.2.2.2 j := fun j hj => by rw [hfr.1 _ (by omega) (by omega)]; exact hC.2.2.2 j (by omega)
  have hF1 : ∀ op, isF op = true → σ1 (w + 6) (op - 1000).toNatClampNeg = F (op - 1000).toNatClampNeg := fun op ho => by rw [hfr.1 _ (by omega) (by omega)]; exact hF op ho
  rcases hg with hg | hg
  · have hx : exL F (sg Λ.2.2.2.2 (Λ.2.2.2.1 i) (Λ.2.2.2.1 (i + 1))) [] = some [] := by rw [hg]; rfl
    obtain ⟨σ2, k1, k2, k3⟩ := c_exL (by omega) (by omega) (Λ.2.2.2.1 (i + 1) - Λ.2.2.2.1 i) (Λ.2.2.2.1 i) σ1 [] [] (4999 - (Λ.2.2.2.1 (i + 1) - Λ.2.2.2.1 i) + 1) (by omega) hcd hF1 hsc hx
    rw [show 4999 - (Λ.2.2.2.1 (i + 1) - Λ.2.2.2.1 i) + 1 + (Λ.2.2.2.1 (i + 1) - Λ.2.2.2.1 i) = 5000 by omega] at k1
    rw [k1, hend]
    unfold fX2_holds_155
    rw [c_pop (h := 0) k2.1 (by omega)]
    have hb : σ2 (w + 5) 0 = 1 := k2.2.2
    have hh : hold Λ F i = true := by unfold hold; rw [hx]
    refine ⟨pn_up σ2 w 8 (nI 0), ?_, (hfr.tr k3).tr FrH_pop⟩
    rw [hh, if_pos rfl, hb]
    rfl
  · obtain ⟨b, hb, hx⟩ := hg F hW
    obtain ⟨σ2, k1, k2, k3⟩ := c_exL (by omega) (by omega) (Λ.2.2.2.1 (i + 1) - Λ.2.2.2.1 i) (Λ.2.2.2.1 i) σ1 [] [b] (4999 - (Λ.2.2.2.1 (i + 1) - Λ.2.2.2.1 i) + 1) (by omega) hcd hF1 hsc hx
    rw [show 4999 - (Λ.2.2.2.1 (i + 1) - Λ.2.2.2.1 i) + 1 + (Λ.2.2.2.1 (i + 1) - Λ.2.2.2.1 i) = 5000 by omega] at k1
    rw [k1, hend]
    unfold fX2_holds_155
    obtain ⟨σ3, m1, m2, m3⟩ := SC_pop k2
    rw [m1]
    refine ⟨σ3, ?_, (hfr.tr k3).tr m3⟩
    have hh : hold Λ F i = decide (b ≠ 0) := by unfold hold; rw [hx]
    rw [hh]
    show (if b = 0 then some ((0 : Int32), σ3) else some (1, σ3)) = _
    rcases bo01 hb with e | e <;> rw [e] <;> rfl
/-- the facts are laid out -/
theorem c_facts {σ : pn_S} {v w : Nat} {V : pn_V} (h : CV σ v V) (hw : VW V) (hvw : v + 3 ≤ w) {p t : Nat} (hp : p < vn V) (ht : t < vn V) : ∃ σ', fX2_gatherFacts w v (nI p) (nI t) σ = some σ' ∧ (∀ op, isF op = true → σ' (w + 6) (op - 1000).toNatClampNeg = Fc V p t (op - 1000).toNatClampNeg) ∧ Fr (fun i => i = w + 6) σ σ' := by
  have hcv : ∀ s : pn_S, Fr (fun i => i = w + 6) σ s → CV s v V := fun s hs => cv_fr h (hs v (by omega)) (hs (v + 1) (by omega)) (hs (v + 2) (by omega))
  have hv : ∀ (s : pn_S), Fr (fun i => i = w + 6) σ s → ∀ k, s v k = σ v k := fun s hs k => by rw [hs v (by omega)]
  have e145 : ∀ (s : pn_S) (x : Int32), fX2_gatherFacts_145 w v 23 x s = some (pn_up s (w + 6) 23 x) := fun s x => by
    unfold fX2_gatherFacts_145
    rw [if_pos (by decide)]
    rfl
  have e113 : ∀ (s : pn_S) (x : Int32), Fr (fun i => i = w + 6) σ s → fX2_gatherFacts_113 w v (nI t) 8 x s = some (pn_up (pn_up (pn_up s (w + 6) 8 x) (w + 6) 5 (tr V t 6)) (w + 6) 23 (if V 4 = 0 then 0 else 1)) := fun s x hs => by
    unfold fX2_gatherFacts_113
    rw [if_pos (by decide)]
    have h1 : Fr (fun i => i = w + 6) σ (pn_up s (w + 6) (8 : Int32).toNatClampNeg x) := hs.up rfl
    rw [q_lit 6, c_of (hcv _ h1) hw ht (by omega)]
    show (if (pn_up (pn_up s (w + 6) (8 : Int32).toNatClampNeg x) (w + 6) 5 (tr V t 6)) v 7 = 0 then _ else _) = _
    rw [hv _ (h1.up rfl), h.1.2.2.2.2.2.1, e145, e145]
    by_cases q : V 4 = 0
    · rw [if_pos q, if_pos q]; rfl
    · rw [if_neg q, if_neg q]; rfl
  have e80 : ∀ (s : pn_S) (x : Int32), Fr (fun i => i = w + 6) σ s → fX2_gatherFacts_80 w v (nI p) (nI t) 26 x s = some (pn_up (pn_up (pn_up (pn_up (pn_up s (w + 6) 26 x) (w + 6) 15 (V 3)) (w + 6) 8 (if tr V p 5 = nI t then 1 else 0)) (w + 6) 5 (tr V t 6)) (w + 6) 23 (if V 4 = 0 then 0 else 1)) := fun s x hs => by
    unfold fX2_gatherFacts_80
    rw [if_pos (by decide)]
    have h1 : Fr (fun i => i = w + 6) σ (pn_up s (w + 6) (26 : Int32).toNatClampNeg x) := hs.up rfl
    rw [hv _ h1, h.1.2.2.2.2.1]
    have h2 : Fr (fun i => i = w + 6) σ (pn_up (pn_up s (w + 6) (26 : Int32).toNatClampNeg x) (w + 6) 15 (V 3)) := h1.up rfl
    rw [q_lit 5, c_of (hcv _ h2) hw hp (by omega)]
    show (if tr V p 5 = nI t then _ else _) = _
    rw [e113 _ _ h2, e113 _ _ h2]
    by_cases q : tr V p 5 = nI t
    · rw [if_pos q, if_pos q]; rfl
    · rw [if_neg q, if_neg q]; rfl
  have f1 : Fr (fun i => i = w + 6) σ (pn_up σ (w + 6) 24 (nI p)) := Fr.rf.up rfl
  have f2 := Fr.up f1 (i := w + 6) (k := 2) (x := tr V p 1) rfl
  have f3 := Fr.up f2 (i := w + 6) (k := 25) (x := tr V p 0) rfl
  have f4 := Fr.up f3 (i := w + 6) (k := 7) (x := tr V t 4) rfl
  have f5 := Fr.up f4 (i := w + 6) (k := 4) (x := tr V t 3) rfl
  have main : fX2_gatherFacts w v (nI p) (nI t) σ = fX2_gatherFacts_80 w v (nI p) (nI t) 26 (if V 5 = nI t then V 6 else 0) (pn_up (pn_up (pn_up (pn_up (pn_up σ (w + 6) 24 (nI p)) (w + 6) 2 (tr V p 1)) (w + 6) 25 (tr V p 0)) (w + 6) 7 (tr V t 4)) (w + 6) 4 (tr V t 3)) := by
    unfold fX2_gatherFacts
    rw [q_lit 1, c_of (hcv _ f1) hw hp (by omega)]
    show (fX8_of v (nI p) (0 : Int32) _).bind _ = _
    rw [q_lit 0, c_of (hcv _ f2) hw hp (by omega)]
    show (fX8_of v (nI t) (4 : Int32) _).bind _ = _
    rw [q_lit 4, c_of (hcv _ f3) hw ht (by omega)]
    show (fX8_of v (nI t) (3 : Int32) _).bind _ = _
    rw [q_lit 3, c_of (hcv _ f4) hw ht (by omega)]
    show (if _ = nI t then _ else _) = _
    rw [hv _ f5, hv _ f5, h.1.2.2.1, h.1.2.2.2.1]
    by_cases q : V 5 = nI t
    · rw [if_pos q, if_pos q]
    · rw [if_neg q, if_neg q]
  rw [main, e80 _ _ f5]
  refine ⟨_, rfl, fun op ho => ?_, ?_⟩
  · rcases of_decide_eq_true ho with e | e | e | e | e | e | e | e | e | e <;> subst e <;> simp [pn_up, Fc] <;> rfl
  · exact ((((f5.up rfl).up rfl).up rfl).up rfl).up rfl
