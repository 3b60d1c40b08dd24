/-! making programs -/
section
variable {mC sS tC rC sC cC kC en : Int32} {pK pD pS pP pF stk tP tS tD rK rV mK mV cP cS : Nat → Int32} {post : SX → Prop} {posr : Int32 → SX → Prop} {pos : Int32 → Prop}
theorem xf_part {m i q : Nat} (hm : m < 24) (hi : i < 3) (hq : q < 24) (e : pP (3 * m + i) = nI q) (hp : pos (pF q)) : wpX_freeNamesOfPart pos (mC, sS, tC, rC, sC, cC, kC, en, pK, pD, pS, pP, pF, stk, tP, tS, tD, rK, rV, mK, mV, cP, cS) (nI m) (nI i) := by
  sorry
theorem xx_make {m b cnt : Nat} {k dt sf F : Int32} (hm : m < 24) (hc : cnt ≤ 3) (hb : b + cnt ≤ 6) (hb6 : b < 6)
    (hF : ∀ P : Int32 → Prop, P F → wpX_findFreeNames P (nI m, nI (b + cnt), tC, rC, sC, cC, kC, en, upd pK m k, upd pD m dt, upd pS m sf, cc_cp pP stk (3 * m) b cnt, pF, stk, tP, tS, tD, rK, rV, mK, mV, cP, cS) (nI m))
    (hp : posr (nI (b + 1)) (nI (m + 1), nI (b + 1), tC, rC, sC, cC, kC, en, upd pK m k, upd pD m dt, upd pS m sf, cc_cp pP stk (3 * m) b cnt, upd pF m F, upd stk b (nI m), tP, tS, tD, rK, rV, mK, mV, cP, cS)) :
    wpX_makeProgram posr (nI m, nI (b + cnt), tC, rC, sC, cC, kC, en, pK, pD, pS, pP, pF, stk, tP, tS, tD, rK, rV, mK, mV, cP, cS) k dt sf (nI cnt) := by
  sorry
end
section
variable {ym yd li yc wt he yl ye : Int32} {yk pP yn pF stk me mt cl wa va ic : Nat → Int32} {post : SY → Prop} {posr : Int32 → SY → Prop} {pos : Int32 → Prop}
theorem yy_note {m b cnt : Nat} {k nt F : Int32} (hm : m < 24) (hc : cnt ≤ 3) (hb : b + cnt ≤ 6) (hb6 : b < 6)
    (hp : posr (nI (b + 1)) (nI (m + 1), nI (b + 1), li, yc, wt, he, yl, ye, upd yk m k, cc_cp pP stk (3 * m) b cnt, upd yn m nt, upd pF m F, upd stk b (nI m), me, mt, cl, wa, va, ic)) :
    wpY_note posr (nI m, nI (b + cnt), li, yc, wt, he, yl, ye, yk, pP, yn, pF, stk, me, mt, cl, wa, va, ic) k (nI cnt) nt F := by
  sorry
theorem yy_freeAt {d i q : Nat} (hd : d ≤ 6) (hi : i < d) (hq : q < 24) (e : stk (d - 1 - i) = nI q) (hp : pos (pF q)) : wpY_freeAt pos (ym, nI d, li, yc, wt, he, yl, ye, yk, pP, yn, pF, stk, me, mt, cl, wa, va, ic) (nI i) := by
  sorry
theorem yy_freeAt0 {d i : Nat} (hd : d ≤ 6) (hi : d ≤ i) (hi3 : i < 3) (hp : pos 0) : wpY_freeAt pos (ym, nI d, li, yc, wt, he, yl, ye, yk, pP, yn, pF, stk, me, mt, cl, wa, va, ic) (nI i) := by
  sorry
end
