/-! one turn of each loop -/
section
variable {mC sS tC rC sC cC kC en mC' sS' tC' rC' sC' cC' kC' en' : Int32} {pK pD pS pP pF stk tP tS tD rK rV mK mV cP cS pK' pD' pS' pP' pF' stk' tP' tS' tD' rK' rV' mK' mV' cP' cS' : Nat → Int32} {post : SX → Prop} {n st t : Nat}
theorem xl_comp (hst : st < 1000000) (htt : t + 1 < 2 ^ 31) (hN : ∀ P : Int32 → Prop, P 0 → wpX_topTaskNeedsPart P (mC, sS, nI (t + 1), rC, sC, cC, kC, -1, pK, pD, pS, pP, pF, stk, tP, tS, tD, rK, rV, mK, mV, cP, cS)) (hc : ∀ P : SX → Prop, P (mC', sS', tC', rC', sC', cC', kC', en', pK', pD', pS', pP', pF', stk', tP', tS', tD', rK', rV', mK', mV', cP', cS') → wpX_completeTopTask P (mC, sS, nI (t + 1), rC, sC, cC, kC, -1, pK, pD, pS, pP, pF, stk, tP, tS, tD, rK, rV, mK, mV, cP, cS)) (H : wX_runTop_6 post n (nI (st + 1)) mC' sS' tC' rC' sC' cC' kC' en' pK' pD' pS' pP' pF' stk' tP' tS' tD' rK' rV' mK' mV' cP' cS') :
    wX_runTop_6 post (n + 1) (nI st) mC sS (nI (t + 1)) rC sC cC kC (-1) pK pD pS pP pF stk tP tS tD rK rV mK mV cP cS := by
  exact br_f (nI_ge (b := 1000000) hst (by decide)) (br_t rfl (br_f (nI_ne0 (Nat.succ_pos t) htt) (hN _ (br_t rfl (hc _ (nm_r (nI_1 st) H))))))
theorem xl_part (hst : st < 1000000) (htt : t + 1 < 2 ^ 31) (hN : ∀ P : Int32 → Prop, P 1 → wpX_topTaskNeedsPart P (mC, sS, nI (t + 1), rC, sC, cC, kC, -1, pK, pD, pS, pP, pF, stk, tP, tS, tD, rK, rV, mK, mV, cP, cS)) (hc : ∀ P : SX → Prop, P (mC', sS', tC', rC', sC', cC', kC', en', pK', pD', pS', pP', pF', stk', tP', tS', tD', rK', rV', mK', mV', cP', cS') → wpX_beginNextPart P (mC, sS, nI (t + 1), rC, sC, cC, kC, -1, pK, pD, pS, pP, pF, stk, tP, tS, tD, rK, rV, mK, mV, cP, cS)) (H : wX_runTop_6 post n (nI (st + 1)) mC' sS' tC' rC' sC' cC' kC' en' pK' pD' pS' pP' pF' stk' tP' tS' tD' rK' rV' mK' mV' cP' cS') :
    wX_runTop_6 post (n + 1) (nI st) mC sS (nI (t + 1)) rC sC cC kC (-1) pK pD pS pP pF stk tP tS tD rK rV mK mV cP cS := by
  exact br_f (nI_ge (b := 1000000) hst (by decide)) (br_t rfl (br_f (nI_ne0 (Nat.succ_pos t) htt) (hN _ (br_f (by decide) (hc _ (nm_r (nI_1 st) H))))))
theorem xl_end {st : Int32} (hn : 1 ≤ n) (he : ¬ en = -1) (H : post (mC, sS, tC, rC, sC, cC, kC, en, pK, pD, pS, pP, pF, stk, tP, tS, tD, rK, rV, mK, mV, cP, cS)) : wX_runTop_6 post n st mC sS tC rC sC cC kC en pK pD pS pP pF stk tP tS tD rK rV mK mV cP cS := by
  obtain ⟨n, rfl⟩ : ∃ k, n = k + 1 := ⟨n - 1, by omega⟩
  exact br_c (fun _ => H) (fun _ => br_f he H)
theorem xl_nil (hst : st < 1000000) (H : wX_runTop_6 post n (nI (st + 1)) mC sS (nI 0) rC sC cC kC (rK 0) pK pD pS pP pF stk tP tS tD rK rV mK mV cP cS) : wX_runTop_6 post (n + 1) (nI st) mC sS (nI 0) rC sC cC kC (-1) pK pD pS pP pF stk tP tS tD rK rV mK mV cP cS := by
  exact br_f (nI_ge (b := 1000000) hst (by decide)) (br_t rfl (br_t nI_0 (nm_e (nm_r (nI_1 st) H))))
end
section
variable {ym yd li yc wt he yl ye ym' yd' li' yc' wt' he' yl' ye' : Int32} {yk pP yn pF stk me mt cl wa va ic yk' pP' yn' pF' stk' me' mt' cl' wa' va' ic' : Nat → Int32} {post : SY → Prop} {n t p l dd d : Nat}
theorem yl_begin (ht : t < 680) (hp : p < 24) (hl : l ≤ 800) (a6 : wa t = nI ((32 * l + p) * 4 + 0)) (hc : ∀ P : SY → Prop, P (ym', yd', li', yc', wt', he', yl', ye', yk', pP', yn', pF', stk', me', mt', cl', wa', va', ic') → wpY_begin P (ym, yd, li, yc, nI t, he, yl, -4, yk, pP, yn, pF, stk, me, mt, cl, wa, va, ic) (nI p) (nI l)) (H : wY_work_55 post n ym' yd' li' yc' wt' he' yl' ye' yk' pP' yn' pF' stk' me' mt' cl' wa' va' ic') :
    wY_work_55 post (n + 1) ym yd li yc (nI (t + 1)) he yl (-4) yk pP yn pF stk me mt cl wa va ic := by
  have h1 : t < 2 ^ 31 := by omega
  have hv : vp_in (nI t) 680 := vp_in_nI ht (by decide)
  have em : wa (nI t).toNatClampNeg = nI ((32 * l + p) * 4 + 0) := by rw [nI_clamp h1]; exact a6
  have q1 := cc_wd (l := l) (p := p) (d := 0) hl hp (by omega)
  have q2 := cc_wp (l := l) (p := p) (d := 0) hl hp (by omega)
  have q3 := cc_wl (l := l) (p := p) (d := 0) hl hp (by omega)
  rw [← em] at q1 q2 q3
  exact br_f (nI_nle (Nat.succ_pos t) (by omega)) (br_t rfl (nm_r (nI_pred t) ⟨hv, by decide, nm_r q1 ⟨hv, by decide, by decide, nm_r q2 ⟨hv, by decide, nm_r q3 (br_t nI_0 (hc _ H))⟩⟩⟩))
theorem yl_goOn (ht : t < 680) (hp : p < 24) (hl : l ≤ 800) (hd : dd < 3) (hd0 : dd ≠ 0) (a6 : wa t = nI ((32 * l + p) * 4 + dd)) (hc : ∀ P : SY → Prop, P (ym', yd', li', yc', wt', he', yl', ye', yk', pP', yn', pF', stk', me', mt', cl', wa', va', ic') → wpY_goOn P (ym, yd, li, yc, nI t, he, yl, -4, yk, pP, yn, pF, stk, me, mt, cl, wa, va, ic) (nI p) (nI dd) (nI l)) (H : wY_work_55 post n ym' yd' li' yc' wt' he' yl' ye' yk' pP' yn' pF' stk' me' mt' cl' wa' va' ic') :
    wY_work_55 post (n + 1) ym yd li yc (nI (t + 1)) he yl (-4) yk pP yn pF stk me mt cl wa va ic := by
  have h1 : t < 2 ^ 31 := by omega
  have hv : vp_in (nI t) 680 := vp_in_nI ht (by decide)
  have em : wa (nI t).toNatClampNeg = nI ((32 * l + p) * 4 + dd) := by rw [nI_clamp h1]; exact a6
  have q1 := cc_wd (l := l) (p := p) (d := dd) hl hp (by omega)
  have q2 := cc_wp (l := l) (p := p) (d := dd) hl hp (by omega)
  have q3 := cc_wl (l := l) (p := p) (d := dd) hl hp (by omega)
  rw [← em] at q1 q2 q3
  exact br_f (nI_nle (Nat.succ_pos t) (by omega)) (br_t rfl (nm_r (nI_pred t) ⟨hv, by decide, nm_r q1 ⟨hv, by decide, by decide, nm_r q2 ⟨hv, by decide, nm_r q3 (br_f (nI_ne0 (by omega) (by omega)) (hc _ H))⟩⟩⟩))
theorem yl_end (hn : 1 ≤ n) (hne : ¬ ye = -4) (H : post (ym, yd, li, yc, wt, he, yl, ye, yk, pP, yn, pF, stk, me, mt, cl, wa, va, ic)) : wY_work_55 post n ym yd li yc wt he yl ye yk pP yn pF stk me mt cl wa va ic := by
  obtain ⟨n, rfl⟩ : ∃ k, n = k + 1 := ⟨n - 1, by omega⟩
  have E : wY_work_145 post ym yd li yc wt he yl ye yk pP yn pF stk me mt cl wa va ic := br_c (fun _ => H) (fun _ => br_f hne H)
  exact br_c (fun _ => E) (fun _ => br_f hne E)
theorem yl_nil (hd : 0 < d) (hd6 : d ≤ 6) (hi : ic 0 = ye) (hk : ye = 0 ∨ ye = 1) (H : post (ym, nI d, li, yc, nI 0, he, yl, ye, yk, pP, yn, pF, stk, me, mt, cl, wa, va, ic)) : wY_work_55 post (n + 1) ym (nI d) li yc (nI 0) he yl (-4) yk pP yn pF stk me mt cl wa va ic := by
  have E : wY_work_145 post ym (nI d) li yc (nI 0) he yl (-4) yk pP yn pF stk me mt cl wa va ic := by
    refine br_f (nI_nle hd (by omega)) (br_t rfl ?_)
    rcases hk with rfl | rfl
    · exact br_t hi H
    · exact br_f (by rw [hi]; decide) H
  exact br_t (by decide) E
end
