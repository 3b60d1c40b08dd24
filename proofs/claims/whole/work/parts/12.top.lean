/-! what is owed -/
def i_Rel (k : Nat) (u : SX) (v : SY) : Prop :=
  ∃ (m d : Nat) (tC rC sC cC kC en li yc wt he yl ye : Int32) (pK pD pS pP pF stk tP tS tD rK rV mK mV cP cS yk yn me mt cl wa va ic : Nat → Int32),
    u = (nI m, nI d, tC, rC, sC, cC, kC, en, pK, pD, pS, pP, pF, stk, tP, tS, tD, rK, rV, mK, mV, cP, cS) ∧ v = (nI m, nI d, li, yc, wt, he, yl, ye, yk, pP, yn, pF, stk, me, mt, cl, wa, va, ic) ∧ cc_Sr m d pK pD pS pP yk yn stk
theorem cc_Sr0 {pK pD pS pP yk yn stk : Nat → Int32} : cc_Sr 0 0 pK pD pS pP yk yn stk :=
  ⟨by omega, by omega, fun i hi => absurd hi (Nat.not_lt_zero i), fun _ => 1, fun _ => 1, fun i hi => absurd hi (Nat.not_lt_zero i), Nat.le_refl 0⟩
theorem i_up {k : Nat} {u : SX} {v : SY} (h : i_Rel k u v) : i_Rel (k + 3) u v := h
