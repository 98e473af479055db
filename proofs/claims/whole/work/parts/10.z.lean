/-- a char as it is -/
def pn_ch (v : Int32) : Bool := decide ((v.toUInt32 % 65536).toInt32 = v)
theorem pn_iretc {ρ : Type} {Γ : pn_G} {d : Nat} {M : pn_M} {φ : ρ → pn_O} {pc : Nat} {ls : List Value} {σ : pn_S} {v : Int32} {r9 : ρ} (hd : decode M.2.1 pc = .ok (.ireturn, 1)) (hr9 : M.2.2.2.1 = some .char) (hφ : φ r9 = (.inl (some v), σ, 0)) : pn_W9 Γ d M φ pc ls [.int v] σ (if pn_ch v then some r9 else none) := by
  by_cases h : pn_ch v = true
  · rw [if_pos h]
    have e : (v.toUInt32 % 65536).toInt32 = v := of_decide_eq_true h
    have hn := pk_nc v
    rw [e] at hn
    exact pn_iretv hd hr9 hn hφ
  · rw [if_neg h]; exact pn_none
