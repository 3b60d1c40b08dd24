/-! one turn of each loop -/
section
variable {mC sS tC rC sC cC kC en mC' sS' tC' rC' sC' cC' kC' en' : Int32} {pK pD pS pP pF stk tP tS tD rK rV mK mV cP cS pK' pD' pS' pP' pF' stk' tP' tS' tD' rK' rV' mK' mV' cP' cS' : Nat → Int32} {post : SX → Prop} {n st t : Nat}
theorem xl_comp (hst : st < 1000000) (hN : ∀ P : Int32 → Prop, P 0 → wpX_topTaskNeedsPart P (mC, sS, nI (t + 1), rC, sC, cC, kC, -1, pK, pD, pS, pP, pF, stk, tP, tS, tD, rK, rV, mK, mV, cP, cS)) (hc : ∀ P : SX → Prop, P (mC', sS', tC', rC', sC', cC', kC', en', pK', pD', pS', pP', pF', stk', tP', tS', tD', rK', rV', mK', mV', cP', cS') → wpX_completeTopTask P (mC, sS, nI (t + 1), rC, sC, cC, kC, -1, pK, pD, pS, pP, pF, stk, tP, tS, tD, rK, rV, mK, mV, cP, cS)) (H : wX_runTop_L post n (nI (st + 1)) mC' sS' tC' rC' sC' cC' kC' en' pK' pD' pS' pP' pF' stk' tP' tS' tD' rK' rV' mK' mV' cP' cS') :
    wX_runTop_L post (n + 1) (nI st) mC sS (nI (t + 1)) rC sC cC kC (-1) pK pD pS pP pF stk tP tS tD rK rV mK mV cP cS := by
  sorry
theorem xl_part (hst : st < 1000000) (hN : ∀ P : Int32 → Prop, P 1 → wpX_topTaskNeedsPart P (mC, sS, nI (t + 1), rC, sC, cC, kC, -1, pK, pD, pS, pP, pF, stk, tP, tS, tD, rK, rV, mK, mV, cP, cS)) (hc : ∀ P : SX → Prop, P (mC', sS', tC', rC', sC', cC', kC', en', pK', pD', pS', pP', pF', stk', tP', tS', tD', rK', rV', mK', mV', cP', cS') → wpX_beginNextPart P (mC, sS, nI (t + 1), rC, sC, cC, kC, -1, pK, pD, pS, pP, pF, stk, tP, tS, tD, rK, rV, mK, mV, cP, cS)) (H : wX_runTop_L post n (nI (st + 1)) mC' sS' tC' rC' sC' cC' kC' en' pK' pD' pS' pP' pF' stk' tP' tS' tD' rK' rV' mK' mV' cP' cS') :
    wX_runTop_L post (n + 1) (nI st) mC sS (nI (t + 1)) rC sC cC kC (-1) pK pD pS pP pF stk tP tS tD rK rV mK mV cP cS := by
  sorry
theorem xl_end {st : Int32} (hn : 1 ≤ n) (he : ¬ en = -1) (H : post (mC, sS, tC, rC, sC, cC, kC, en, pK, pD, pS, pP, pF, stk, tP, tS, tD, rK, rV, mK, mV, cP, cS)) : wX_runTop_L post n st mC sS tC rC sC cC kC en pK pD pS pP pF stk tP tS tD rK rV mK mV cP cS := by
  sorry
theorem xl_nil (hst : st < 1000000) (H : wX_runTop_L post n (nI (st + 1)) mC sS (nI 0) rC sC cC kC (rK 0) pK pD pS pP pF stk tP tS tD rK rV mK mV cP cS) : wX_runTop_L post (n + 1) (nI st) mC sS (nI 0) rC sC cC kC (-1) pK pD pS pP pF stk tP tS tD rK rV mK mV cP cS := by
  sorry
end
section
variable {ym yd li yc wt he yl ye ym' yd' li' yc' wt' he' yl' ye' : Int32} {yk pP yn pF stk me mt cl wa va ic yk' pP' yn' pF' stk' me' mt' cl' wa' va' ic' : Nat → Int32} {post : SY → Prop} {n t p l dd d : Nat}
theorem yl_begin (ht : t < 680) (hp : p < 24) (hl : l ≤ 800) (a6 : wa t = nI ((32 * l + p) * 4 + 0)) (hc : ∀ P : SY → Prop, P (ym', yd', li', yc', wt', he', yl', ye', yk', pP', yn', pF', stk', me', mt', cl', wa', va', ic') → wpY_begin P (ym, yd, li, yc, nI t, he, yl, -4, yk, pP, yn, pF, stk, me, mt, cl, wa, va, ic) (nI p) (nI l)) (H : wY_work_L post n ym' yd' li' yc' wt' he' yl' ye' yk' pP' yn' pF' stk' me' mt' cl' wa' va' ic') :
    wY_work_L post (n + 1) ym yd li yc (nI (t + 1)) he yl (-4) yk pP yn pF stk me mt cl wa va ic := by
  sorry
theorem yl_goOn (ht : t < 680) (hp : p < 24) (hl : l ≤ 800) (hd : dd < 3) (hd0 : dd ≠ 0) (a6 : wa t = nI ((32 * l + p) * 4 + dd)) (hc : ∀ P : SY → Prop, P (ym', yd', li', yc', wt', he', yl', ye', yk', pP', yn', pF', stk', me', mt', cl', wa', va', ic') → wpY_goOn P (ym, yd, li, yc, nI t, he, yl, -4, yk, pP, yn, pF, stk, me, mt, cl, wa, va, ic) (nI p) (nI dd) (nI l)) (H : wY_work_L post n ym' yd' li' yc' wt' he' yl' ye' yk' pP' yn' pF' stk' me' mt' cl' wa' va' ic') :
    wY_work_L post (n + 1) ym yd li yc (nI (t + 1)) he yl (-4) yk pP yn pF stk me mt cl wa va ic := by
  sorry
theorem yl_end (hn : 1 ≤ n) (he : ¬ ye = -4) (H : post (ym, yd, li, yc, wt, he, yl, ye, yk, pP, yn, pF, stk, me, mt, cl, wa, va, ic)) : wY_work_L post n ym yd li yc wt he yl ye yk pP yn pF stk me mt cl wa va ic := by
  sorry
theorem yl_nil (hd : 0 < d) (hd6 : d ≤ 6) (hi : ic 0 = ye) (hk : ye = 0 ∨ ye = 1) (H : post (ym, nI d, li, yc, nI 0, he, yl, ye, yk, pP, yn, pF, stk, me, mt, cl, wa, va, ic)) : wY_work_L post (n + 1) ym (nI d) li yc (nI 0) he yl (-4) yk pP yn pF stk me mt cl wa va ic := by
  sorry
end
