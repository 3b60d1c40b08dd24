/-! the beginning of a run -/
theorem cc_J_init {m q : Nat} {pK : Nat → Int32} {sz rm : Nat → Nat} {tP tS tD rK rV mK mV cP cS me mt cl wa va ic : Nat → Int32} (hq : q < m) (h1 : 1 ≤ sz q) (h2 : sz q ≤ 24) :
    cc_J m pK sz rm [(q, 0, 0, 0)] 0 0 1 0 0 (fun _ _ => -1) (fun _ _ => 0) (upd tP 0 (nI q)) (upd tS 0 (nI 0)) (upd tD 0 0) rK rV (cc_fl mK (-1) 4) (cc_fl mV 0 4) cP cS me mt cl (upd wa 0 (nI ((32 * 0 + q) * 4 + 0))) va ic
    ∧ cc_M sz rm [(q, 0, 0, 0)] 0 0 ≤ 42180 := by
  have e1 : cc_sm (cc_c1 sz rm) [(q, 0, 0, 0)] = 30 * sz q + 0 := rfl
  have e2 : cc_sm (cc_c2 sz rm) [(q, 0, 0, 0)] = (sz q - 1) + 0 := rfl
  have hM : cc_sm (cc_c1 sz rm) [(q, 0, 0, 0)] + 59 * 0 + 691 * (60 - 0) ≤ 42180 := by omega
  refine ⟨⟨⟨⟨hq, ⟨Nat.zero_lt_one, Nat.le_refl 0, fun v hv => ⟨cc_fl_at 4 v hv, cc_fl_at 4 v hv⟩⟩, pk_us, pk_us, pk_us, pk_us, ?_, Or.inl rfl, Nat.one_ne_zero⟩, trivial⟩, fun i hi => absurd hi (Nat.not_lt_zero i), fun i hi => absurd hi (Nat.not_lt_zero i),
    ⟨fun _ _ => rfl, fun i hi => absurd hi (Nat.not_lt_zero i), fun _ _ _ _ => Or.inl rfl⟩, ⟨rfl, by omega, Nat.le_refl 1, by omega, hM⟩⟩, hM⟩
  show 2 * 0 + sz q ≤ 24 + 20 * 0
  omega
section
variable {mC sS tC rC sC cC kC en : Int32} {pK pD pS pP pF stk tP tS tD rK rV mK mV cP cS : Nat → Int32} {post : SX → Prop}
theorem xx_beginRun {d q : Nat} (hd : 0 < d) (hd6 : d ≤ 6) (hq : stk (d - 1) = nI q)
    (hp : post (mC, nI d, nI 1, nI 0, nI 1, nI 0, nI 0, -1, pK, pD, pS, pP, pF, stk, upd tP 0 (nI q), upd tS 0 (nI 0), upd tD 0 0, rK, rV, cc_fl mK (-1) 4, cc_fl mV 0 4, cP, cS)) : wpX_beginRun post (mC, nI d, tC, rC, sC, cC, kC, en, pK, pD, pS, pP, pF, stk, tP, tS, tD, rK, rV, mK, mV, cP, cS) := by
  have key : ∀ k v : Nat, v + k = 4 → wX_beginRun_32 post (k + 1) (nI v) mC (nI d) (nI 0) (nI 0) (nI 1) (nI 0) (nI 0) (-1) pK pD pS pP pF stk tP tS tD rK rV (cc_fl mK (-1) v) (cc_fl mV 0 v) cP cS := by
    intro k
    induction k with
    | zero =>
      intro v hv
      obtain rfl : v = 4 := by omega
      have e : nI d - 1 = nI (d - 1) := by
        obtain ⟨d, rfl⟩ : ∃ k, d = k + 1 := ⟨d - 1, by omega⟩
        rw [nI_pred]; rfl
      refine br_t (by decide) ?_
      rw [e, nI_clamp (by omega), hq]
      exact ⟨vp_in_nI (by omega) (by decide), xx_beginTask (t := 0) (by omega) hp⟩
    | succ k ih =>
      intro v hv
      exact br_f (nI_ge (b := 4) (by omega) (by decide)) (xx_setMeaning (s := 0) (by omega) (nm_r (nI_1 v) (ih (v + 1) (by omega))))
  exact ⟨5, key 4 0 rfl⟩
end
theorem cc_top {m d : Nat} {tC rC sC cC kC en li yc wt he yl ye : Int32} {pK pD pS pP pF stk tP tS tD rK rV mK mV cP cS yk yn me mt cl wa va ic : Nat → Int32} (h : cc_Sr m d pK pD pS pP yk yn stk) (hd : 0 < d) :
    cc_Fin m d pK pD pS pP pF stk yk yn (fun P => wpX_runTop P (nI m, nI d, tC, rC, sC, cC, kC, en, pK, pD, pS, pP, pF, stk, tP, tS, tD, rK, rV, mK, mV, cP, cS)) (fun P => wpY_work P (nI m, nI d, li, yc, wt, he, yl, ye, yk, pP, yn, pF, stk, me, mt, cl, wa, va, ic)) := by
  obtain ⟨h24, hd6, hq, sz, rm, hA, hss⟩ := h
  obtain ⟨q, hq1, hq2⟩ := hq (d - 1) (by omega)
  obtain ⟨z1, z2, z3⟩ := hA q hq1
  obtain ⟨J, hM⟩ := cc_J_init (pK := pK) (rm := rm) (tP := tP) (tS := tS) (tD := tD) (rK := rK) (rV := rV) (mK := mK) (mV := mV) (cP := cP) (cS := cS) (me := me) (mt := mt) (cl := cl) (wa := wa) (va := va) (ic := ic) hq1 z1 z2
  obtain ⟨N, hN⟩ : ∃ N : Nat, 50000 ≤ N := ⟨50000, Nat.le_refl _⟩
  refine cc_Fin_map (cc_run h24 hd hd6 hA N 0 J (by omega) (by omega)) (fun P H => ?_) (fun P H => ?_)
  · unfold wpX_runTop
    dsimp only
    exact xx_beginRun (tC := tC) (rC := rC) (sC := sC) (cC := cC) (kC := kC) (en := en) hd hd6 hq2 ⟨N, H⟩
  · have e : nI d - 1 = nI (d - 1) := by
      obtain ⟨d, rfl⟩ : ∃ k, d = k + 1 := ⟨d - 1, by omega⟩
      rw [nI_pred]; rfl
    unfold wpY_work
    dsimp only
    refine br_f (nI_nle hd (by omega)) ?_
    rw [e, nI_clamp (by omega), hq2]
    exact ⟨vp_in_nI (by omega) (by decide), yy_wait (t := 0) (dd := 0) (l := 0) (by omega) ⟨N, H⟩⟩
theorem yy_work0 {ym li yc wt he yl ye : Int32} {yk pP yn pF stk me mt cl wa va ic : Nat → Int32} {post : SY → Prop} (hp : post (ym, nI 0, 0, 0, 0, 0, 0, -4, yk, pP, yn, pF, stk, me, mt, cl, wa, va, ic)) : wpY_work post (ym, nI 0, li, yc, wt, he, yl, ye, yk, pP, yn, pF, stk, me, mt, cl, wa, va, ic) := by
  unfold wpY_work
  dsimp only
  exact br_t (by decide) ⟨1, br_t (by decide) (br_t (by decide) hp)⟩
