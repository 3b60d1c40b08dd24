/-! X's own methods, each with a general post -/
def cc_ar (o : Nat) (x y : Int32) : Int32 := if o = 0 then x + y else if o = 1 then x - y else if o = 2 then x * y else if x < y then 1 else 0
theorem cc_x4 (s v : Nat) : nI s * 4 + nI v = nI (s * 4 + v) := by
  rw [show nI s * 4 = nI (s * 4) from pk_mul s 4, nI_add]
theorem cc_x3 (s v : Nat) : nI s * 3 + nI v = nI (3 * s + v) := by
  rw [show nI s * 3 = nI (s * 3) from pk_mul s 3, nI_add, Nat.mul_comm]
theorem cc_x30 (s : Nat) : nI s * 3 = nI (3 * s) := by
  rw [show nI s * 3 = nI (s * 3) from pk_mul s 3, Nat.mul_comm]
theorem cc_p2 {a : Nat} : nI (a + 2) - 2 = nI a := by
  have h := pk_sub (a := a + 2) (b := 2) (by omega)
  rw [Nat.add_sub_cancel] at h
  exact h
section
variable {mC sS tC rC sC cC kC en : Int32} {pK pD pS pP pF stk tP tS tD rK rV mK mV cP cS : Nat → Int32} {post : SX → Prop} {posr : Int32 → SX → Prop} {pos : Int32 → Prop}
theorem xx_replaceTask {t : Nat} {a b : Int32} (ht : t < 1464) (hp : post (mC, sS, nI (t + 1), rC, sC, cC, kC, en, pK, pD, pS, pP, pF, stk, upd tP t a, upd tS t b, upd tD t 0, rK, rV, mK, mV, cP, cS)) : wpX_replaceTask post (mC, sS, nI (t + 1), rC, sC, cC, kC, en, pK, pD, pS, pP, pF, stk, tP, tS, tD, rK, rV, mK, mV, cP, cS) a b := by
  have h1 : t < 2 ^ 31 := by omega
  have hv : vp_in (nI t) 1464 := vp_in_nI ht (by decide)
  simp only [wpX_replaceTask, forall_eq, nI_pred, nI_clamp h1, hv, true_and]
  exact hp
theorem xx_beginTask {t : Nat} {a b : Int32} (ht : t < 1464) (hp : post (mC, sS, nI (t + 1), rC, sC, cC, kC, en, pK, pD, pS, pP, pF, stk, upd tP t a, upd tS t b, upd tD t 0, rK, rV, mK, mV, cP, cS)) : wpX_beginTask post (mC, sS, nI t, rC, sC, cC, kC, en, pK, pD, pS, pP, pF, stk, tP, tS, tD, rK, rV, mK, mV, cP, cS) a b := by
  simp only [wpX_beginTask, forall_eq, nI_1]
  exact xx_replaceTask ht hp
theorem xx_endTask {t h : Nat} {k w : Int32} (hh : h < 1464) (hp : post (mC, sS, nI t, nI (h + 1), sC, cC, kC, en, pK, pD, pS, pP, pF, stk, tP, tS, tD, upd rK h k, upd rV h w, mK, mV, cP, cS)) : wpX_endTask post (mC, sS, nI (t + 1), nI h, sC, cC, kC, en, pK, pD, pS, pP, pF, stk, tP, tS, tD, rK, rV, mK, mV, cP, cS) k w := by
  have h1 : h < 2 ^ 31 := by omega
  have hv : vp_in (nI h) 1464 := vp_in_nI hh (by decide)
  simp only [wpX_endTask, forall_eq, nI_pred, nI_1, nI_clamp h1, hv, true_and]
  exact hp
theorem xx_setMeaning {s v : Nat} {k w : Int32} (hs : s * 4 + v < 5860) (hp : post (mC, sS, tC, rC, sC, cC, kC, en, pK, pD, pS, pP, pF, stk, tP, tS, tD, rK, rV, upd mK (s * 4 + v) k, upd mV (s * 4 + v) w, cP, cS)) : wpX_setMeaning post (mC, sS, tC, rC, sC, cC, kC, en, pK, pD, pS, pP, pF, stk, tP, tS, tD, rK, rV, mK, mV, cP, cS) (nI s) (nI v) k w := by
  have h1 : s * 4 + v < 2 ^ 31 := by omega
  have hv : vp_in (nI (s * 4 + v)) 5860 := vp_in_nI hs (by decide)
  simp only [wpX_setMeaning, forall_eq, cc_x4, nI_clamp h1, hv, true_and]
  exact hp
theorem xx_parts0 {k : Int32} (hk : k = 5 ∨ k = 6 ∨ k = 9) (hp : pos 0) : wpX_partsWorkedOutFirst pos k := by
  rcases hk with h | h | h <;> subst h
  · exact br_f (by decide) (br_f (by decide) (br_t rfl hp))
  · exact br_f (by decide) (br_f (by decide) (br_f (by decide) (br_t rfl hp)))
  · exact br_f (by decide) (br_f (by decide) (br_f (by decide) (br_f (by decide) (br_f (by decide) (br_f (by decide) (br_t rfl hp))))))
theorem xx_parts1 {k : Int32} (hk : k = 7 ∨ k = 8) (hp : pos 1) : wpX_partsWorkedOutFirst pos k := by
  rcases hk with h | h <;> subst h
  · exact br_f (by decide) (br_f (by decide) (br_f (by decide) (br_f (by decide) (br_t rfl hp))))
  · exact br_f (by decide) (br_f (by decide) (br_f (by decide) (br_f (by decide) (br_f (by decide) (br_t rfl hp)))))
theorem xx_parts2 {o : Nat} (ho : o < 5) (hp : pos 2) : wpX_partsWorkedOutFirst pos (nI o) := by
  exact br_t (nI_lt (b := 5) ho (by decide)) hp
theorem xx_beginNextPart {t p s q dd : Nat} (ht : t + 1 < 1464) (hp1 : p < 24) (hd : dd < 3) (e1 : tP t = nI p) (e2 : tS t = nI s) (e3 : tD t = nI dd) (e4 : pP (3 * p + dd) = nI q)
    (hp : post (mC, sS, nI (t + 1 + 1), rC, sC, cC, kC, en, pK, pD, pS, pP, pF, stk, upd tP (t + 1) (nI q), upd tS (t + 1) (nI s), upd (upd tD t (nI (dd + 1))) (t + 1) 0, rK, rV, mK, mV, cP, cS)) : wpX_beginNextPart post (mC, sS, nI (t + 1), rC, sC, cC, kC, en, pK, pD, pS, pP, pF, stk, tP, tS, tD, rK, rV, mK, mV, cP, cS) := by
  have h1 : t < 2 ^ 31 := by omega
  have h2 : 3 * p + dd < 2 ^ 31 := by omega
  have hv : vp_in (nI t) 1464 := vp_in_nI (by omega) (by decide)
  have hv2 : vp_in (nI (3 * p + dd)) 72 := vp_in_nI (by omega) (by decide)
  simp only [wpX_beginNextPart, forall_eq, nI_pred, nI_1, nI_clamp h1, nI_clamp h2, e1, e2, e3, cc_x3, hv, hv2, e4, true_and]
  exact xx_beginTask ht hp
theorem xx_needs {t p dd nn : Nat} {r : Int32} (ht : t < 1464) (hp1 : p < 24) (hd : dd < 3) (hn : nn < 3) (e1 : tP t = nI p) (e3 : tD t = nI dd) (hr : (dd < nn ∧ r = 1) ∨ (¬ dd < nn ∧ r = 0))
    (hk : ∀ P : Int32 → Prop, P (nI nn) → wpX_partsWorkedOutFirst P (pK p)) (hp : pos r) : wpX_topTaskNeedsPart pos (mC, sS, nI (t + 1), rC, sC, cC, kC, en, pK, pD, pS, pP, pF, stk, tP, tS, tD, rK, rV, mK, mV, cP, cS) := by
  have h1 : t < 2 ^ 31 := by omega
  have h2 : p < 2 ^ 31 := by omega
  have hv : vp_in (nI t) 1464 := vp_in_nI (by omega) (by decide)
  have hv2 : vp_in (nI p) 24 := vp_in_nI (by omega) (by decide)
  simp only [wpX_topTaskNeedsPart, forall_eq, nI_pred, nI_clamp h1, nI_clamp h2, e1, e3, hv, hv2, true_and]
  refine hk _ ?_
  rcases hr with ⟨h, rfl⟩ | ⟨h, rfl⟩
  · exact pk_le nn dd (fun z => absurd z (by omega)) (fun _ => hp)
  · exact pk_le nn dd (fun _ => hp) (fun z => absurd z (by omega))
theorem xx_completeName1 {p s w t h : Nat} (hp1 : p < 24) (hs : s < 1465) (hw : w < 4) (hh : h < 1464) (e1 : pD p = nI w) (hk : ¬ mK (s * 4 + w) = -1)
    (hp : post (mC, sS, nI t, nI (h + 1), sC, cC, kC, en, pK, pD, pS, pP, pF, stk, tP, tS, tD, upd rK h (mK (s * 4 + w)), upd rV h (mV (s * 4 + w)), mK, mV, cP, cS)) : wpX_completeName post (mC, sS, nI (t + 1), nI h, sC, cC, kC, en, pK, pD, pS, pP, pF, stk, tP, tS, tD, rK, rV, mK, mV, cP, cS) (nI p) (nI s) := by
  have h1 : p < 2 ^ 31 := by omega
  have h2 : s * 4 + w < 2 ^ 31 := by omega
  have hv : vp_in (nI p) 24 := vp_in_nI (by omega) (by decide)
  have hv2 : vp_in (nI (s * 4 + w)) 5860 := vp_in_nI (by omega) (by decide)
  simp only [wpX_completeName, forall_eq, nI_clamp h1, e1, cc_x4, nI_clamp h2, hv, hv2, true_and]
  exact br_f hk (xx_endTask hh hp)
theorem xx_completeName0 {p s w : Nat} (hp1 : p < 24) (hs : s < 1465) (hw : w < 4) (e1 : pD p = nI w) (hk : mK (s * 4 + w) = -1)
    (hp : post (mC, sS, tC, rC, sC, cC, kC, 2, pK, pD, pS, pP, pF, stk, tP, tS, tD, rK, rV, mK, mV, cP, cS)) : wpX_completeName post (mC, sS, tC, rC, sC, cC, kC, en, pK, pD, pS, pP, pF, stk, tP, tS, tD, rK, rV, mK, mV, cP, cS) (nI p) (nI s) := by
  have h1 : p < 2 ^ 31 := by omega
  have h2 : s * 4 + w < 2 ^ 31 := by omega
  have hv : vp_in (nI p) 24 := vp_in_nI (by omega) (by decide)
  have hv2 : vp_in (nI (s * 4 + w)) 5860 := vp_in_nI (by omega) (by decide)
  simp only [wpX_completeName, forall_eq, nI_clamp h1, e1, cc_x4, nI_clamp h2, hv, hv2, true_and]
  exact br_t hk hp
theorem xx_completeFunction {c t h : Nat} {a b : Int32} (hc : c < 1464) (hh : h < 1464)
    (hp : post (mC, sS, nI t, nI (h + 1), sC, nI (c + 1), kC, en, pK, pD, pS, pP, pF, stk, tP, tS, tD, upd rK h 1, upd rV h (nI c), mK, mV, upd cP c a, upd cS c b)) : wpX_completeFunction post (mC, sS, nI (t + 1), nI h, sC, nI c, kC, en, pK, pD, pS, pP, pF, stk, tP, tS, tD, rK, rV, mK, mV, cP, cS) a b := by
  have h1 : c < 2 ^ 31 := by omega
  have hv : vp_in (nI c) 1464 := vp_in_nI hc (by decide)
  simp only [wpX_completeFunction, forall_eq, nI_clamp h1, nI_1, hv, true_and]
  exact xx_endTask hh hp
theorem xx_completeChoose {p q h t : Nat} {b : Int32} {i : Nat} (hp1 : p < 24) (hh : h < 1464) (ht : t < 1464) (hk : rK h = 0) (hi : (¬ rV h = 0 ∧ i = 1) ∨ (rV h = 0 ∧ i = 2)) (e4 : pP (3 * p + i) = nI q)
    (hp : post (mC, sS, nI (t + 1), nI h, sC, cC, kC, en, pK, pD, pS, pP, pF, stk, upd tP t (nI q), upd tS t b, upd tD t 0, rK, rV, mK, mV, cP, cS)) : wpX_completeChoose post (mC, sS, nI (t + 1), nI (h + 1), sC, cC, kC, en, pK, pD, pS, pP, pF, stk, tP, tS, tD, rK, rV, mK, mV, cP, cS) (nI p) b := by
  have h1 : h < 2 ^ 31 := by omega
  have hv : vp_in (nI h) 1464 := vp_in_nI hh (by decide)
  have core : wX_completeChoose_45 post (nI p) b (nI i) mC sS (nI (t + 1)) (nI h) sC cC kC en pK pD pS pP pF stk tP tS tD rK rV mK mV cP cS := by
    have h2 : 3 * p + i < 2 ^ 31 := by omega
    have hv2 : vp_in (nI (3 * p + i)) 72 := vp_in_nI (by omega) (by decide)
    simp only [wX_completeChoose_45, cc_x3, nI_clamp h2, hv2, e4, true_and]
    exact xx_replaceTask ht hp
  simp only [wpX_completeChoose, forall_eq, nI_pred, nI_clamp h1, hv, true_and]
  refine br_t hk ?_
  rcases hi with ⟨a, rfl⟩ | ⟨a, rfl⟩
  · exact br_f a core
  · exact br_t a core
theorem xx_completeChoose0 {h : Nat} {a b : Int32} (hh : h < 1464) (hk : ¬ rK h = 0)
    (hp : post (mC, sS, tC, nI h, sC, cC, kC, 2, pK, pD, pS, pP, pF, stk, tP, tS, tD, rK, rV, mK, mV, cP, cS)) : wpX_completeChoose post (mC, sS, tC, nI (h + 1), sC, cC, kC, en, pK, pD, pS, pP, pF, stk, tP, tS, tD, rK, rV, mK, mV, cP, cS) a b := by
  have h1 : h < 2 ^ 31 := by omega
  have hv : vp_in (nI h) 1464 := vp_in_nI hh (by decide)
  simp only [wpX_completeChoose, forall_eq, nI_pred, nI_clamp h1, hv, true_and]
  exact br_f hk hp
theorem xx_openScope {o sc : Nat} (ho : o < 1465) (hs : sc < 1465) (hp : posr (nI sc) (mC, sS, tC, rC, nI (sc + 1), cC, kC, en, pK, pD, pS, pP, pF, stk, tP, tS, tD, rK, rV, cc_os mK sc o 4, cc_os mV sc o 4, cP, cS)) : wpX_openScope posr (mC, sS, tC, rC, nI sc, cC, kC, en, pK, pD, pS, pP, pF, stk, tP, tS, tD, rK, rV, mK, mV, cP, cS) (nI o) := by
  have key : ∀ k v : Nat, v + k = 4 → wX_openScope_17 posr (nI o) (nI sc) (k + 1) (nI v) mC sS tC rC (nI (sc + 1)) cC kC en pK pD pS pP pF stk tP tS tD rK rV (cc_os mK sc o v) (cc_os mV sc o v) cP cS := by
    intro k
    induction k with
    | zero =>
      intro v hv
      obtain rfl : v = 4 := by omega
      exact br_t (by decide) hp
    | succ k ih =>
      intro v hv
      have h1 : o * 4 + v < 2 ^ 31 := by omega
      have hv1 : vp_in (nI (o * 4 + v)) 5860 := vp_in_nI (by omega) (by decide)
      refine br_f (nI_ge (b := 4) (by omega) (by decide)) (nm_r (cc_x4 o v) ⟨hv1, hv1, ?_⟩)
      rw [nI_clamp h1]
      exact xx_setMeaning (by omega) (nm_r (nI_1 v) (ih (v + 1) (by omega)))
  simp only [wpX_openScope, forall_eq, nI_1]
  exact ⟨5, key 4 0 rfl⟩
theorem xx_calculate {o : Nat} {x y : Int32} (ho : o < 4) (hp : pos (cc_ar o x y)) : wpX_calculate pos (nI o) x y := by
  match o, ho with
  | 0, _ => exact br_f (by decide) (br_f (by decide) (br_t rfl hp))
  | 1, _ => exact br_f (by decide) (br_f (by decide) (br_f (by decide) (br_t rfl hp)))
  | 2, _ => exact br_f (by decide) (br_f (by decide) (br_f (by decide) (br_f (by decide) (br_t rfl hp))))
  | 3, _ =>
    refine br_f (by decide) (br_f (by decide) (br_f (by decide) (br_f (by decide) (br_f (by decide) (br_t rfl ?_)))))
    have e : cc_ar 3 x y = if x < y then 1 else 0 := rfl
    rw [e] at hp
    refine br_c (fun z => ?_) (fun z => ?_)
    · rw [if_neg (Int32.not_lt.mpr z)] at hp; exact hp
    · rw [if_pos (Int32.not_le.mp z)] at hp; exact hp
theorem cc_x31 (s : Nat) : nI s * 3 + 1 = nI (3 * s + 1) := cc_x3 s 1
theorem xx_completeBind {t p s h q w sc : Nat} {kk : Int32} (ht : t < 1464) (hp1 : p < 24) (hh : h < 1464) (hs : s < 1465) (hsc : sc < 1465) (hw : w < 4) (k3 : pD p = nI w) (hk : rK h = kk) (e4 : pP (3 * p + 1) = nI q)
    (hp : post (mC, sS, nI (t + 1), nI h, nI (sc + 1), cC, kC, en, pK, pD, pS, pP, pF, stk, upd tP t (nI q), upd tS t (nI sc), upd tD t 0, rK, rV, upd (cc_os mK sc s 4) (sc * 4 + w) kk, upd (cc_os mV sc s 4) (sc * 4 + w) (rV h), cP, cS)) : wpX_completeBind post (mC, sS, nI (t + 1), nI (h + 1), nI sc, cC, kC, en, pK, pD, pS, pP, pF, stk, tP, tS, tD, rK, rV, mK, mV, cP, cS) (nI p) (nI s) := by
  have h1 : h < 2 ^ 31 := by omega
  have h2 : p < 2 ^ 31 := by omega
  have h3 : 3 * p + 1 < 2 ^ 31 := by omega
  have hv1 : vp_in (nI h) 1464 := vp_in_nI hh (by decide)
  have hv2 : vp_in (nI p) 24 := vp_in_nI hp1 (by decide)
  have hv3 : vp_in (nI (3 * p + 1)) 72 := vp_in_nI (by omega) (by decide)
  simp only [wpX_completeBind, forall_eq, nI_pred]
  refine xx_openScope hs hsc ?_
  simp only [nI_clamp h1, nI_clamp h2, hv1, hv2, k3, hk, true_and]
  refine xx_setMeaning (by omega) ?_
  simp only [cc_x31, nI_clamp h3, hv3, e4, true_and]
  exact xx_replaceTask ht hp
theorem xx_completeApply0 {h : Nat} (hh : h + 1 < 1464) (hk : rK h = 0) (hp : post (mC, sS, tC, nI h, sC, cC, kC, 2, pK, pD, pS, pP, pF, stk, tP, tS, tD, rK, rV, mK, mV, cP, cS)) : wpX_completeApply post (mC, sS, tC, nI (h + 2), sC, cC, kC, en, pK, pD, pS, pP, pF, stk, tP, tS, tD, rK, rV, mK, mV, cP, cS) := by
  have h1 : h < 2 ^ 31 := by omega
  have hv1 : vp_in (nI h) 1464 := vp_in_nI (by omega) (by decide)
  simp only [wpX_completeApply, forall_eq, cc_p2, nI_clamp h1, hv1, true_and]
  exact br_f (by rw [hk]; decide) hp
theorem xx_completeApply1 {h ca : Nat} (hh : h + 1 < 1464) (hca : ca = 60) (hk : rK h = 1) (hp : post (mC, sS, tC, nI h, sC, cC, nI ca, 3, pK, pD, pS, pP, pF, stk, tP, tS, tD, rK, rV, mK, mV, cP, cS)) : wpX_completeApply post (mC, sS, tC, nI (h + 2), sC, cC, nI ca, en, pK, pD, pS, pP, pF, stk, tP, tS, tD, rK, rV, mK, mV, cP, cS) := by
  have h1 : h < 2 ^ 31 := by omega
  have hv1 : vp_in (nI h) 1464 := vp_in_nI (by omega) (by decide)
  simp only [wpX_completeApply, forall_eq, cc_p2, nI_clamp h1, hv1, true_and]
  refine br_t hk (br_f ?_ hp)
  rw [hca]; decide
theorem xx_completeApply2 {t h ca j p1 s1 w f q sc : Nat} {kk : Int32} (ht : t < 1464) (hh : h + 1 < 1464) (hca : ca < 60) (hj : j < 1464) (hp2 : p1 < 24) (hs : s1 < 1465) (hsc : sc < 1465) (hw : w < 4) (hf : f < 4) (hk : rK h = 1) (hv : rV h = nI j)
    (c4 : cP j = nI p1) (c5 : cS j = nI s1) (f1 : pD p1 = nI w) (f2 : pS p1 = nI f) (f4 : pP (3 * p1) = nI q) (hk2 : rK (h + 1) = kk)
    (hp : post (mC, sS, nI (t + 1), nI h, nI (sc + 1), cC, nI (ca + 1), en, pK, pD, pS, pP, pF, stk, upd tP t (nI q), upd tS t (nI sc), upd tD t 0, rK, rV, upd (upd (cc_os mK sc s1 4) (sc * 4 + f) (nI 1)) (sc * 4 + w) kk, upd (upd (cc_os mV sc s1 4) (sc * 4 + f) (nI j)) (sc * 4 + w) (rV (h + 1)), cP, cS)) :
    wpX_completeApply post (mC, sS, nI (t + 1), nI (h + 2), nI sc, cC, nI ca, en, pK, pD, pS, pP, pF, stk, tP, tS, tD, rK, rV, mK, mV, cP, cS) := by
  have h1 : h < 2 ^ 31 := by omega
  have h2 : h + 1 < 2 ^ 31 := by omega
  have h3 : j < 2 ^ 31 := by omega
  have h4 : p1 < 2 ^ 31 := by omega
  have h5 : 3 * p1 < 2 ^ 31 := by omega
  have hv1 : vp_in (nI h) 1464 := vp_in_nI (by omega) (by decide)
  have hv2 : vp_in (nI (h + 1)) 1464 := vp_in_nI (by omega) (by decide)
  have hv3 : vp_in (nI j) 1464 := vp_in_nI hj (by decide)
  have hv4 : vp_in (nI p1) 24 := vp_in_nI hp2 (by decide)
  have hv5 : vp_in (nI (3 * p1)) 72 := vp_in_nI (by omega) (by decide)
  simp only [wpX_completeApply, forall_eq, cc_p2, nI_1, nI_clamp h1, hv1, hv, hv3, nI_clamp h3, c4, c5, true_and]
  refine br_t hk (br_t (nI_lt (b := 60) hca (by decide)) (xx_openScope hs hsc ?_))
  simp only [nI_clamp h4, hv4, f2, true_and]
  refine xx_setMeaning (by omega) ?_
  simp only [nI_1, nI_clamp h4, nI_clamp h2, hv4, hv2, f1, hk2, true_and]
  refine xx_setMeaning (by omega) ?_
  simp only [cc_x30, nI_clamp h5, hv5, f4, true_and]
  exact xx_replaceTask ht hp
theorem xx_completeArithmetic {t h o : Nat} (hh : h + 1 < 1464) (ho : o < 4) (hk : rK h = 0) (hk2 : rK (h + 1) = 0)
    (hp : post (mC, sS, nI t, nI (h + 1), sC, cC, kC, en, pK, pD, pS, pP, pF, stk, tP, tS, tD, upd rK h 0, upd rV h (cc_ar o (rV h) (rV (h + 1))), mK, mV, cP, cS)) : wpX_completeArithmetic post (mC, sS, nI (t + 1), nI (h + 2), sC, cC, kC, en, pK, pD, pS, pP, pF, stk, tP, tS, tD, rK, rV, mK, mV, cP, cS) (nI o) := by
  have h1 : h < 2 ^ 31 := by omega
  have h2 : h + 1 < 2 ^ 31 := by omega
  have hv1 : vp_in (nI h) 1464 := vp_in_nI (by omega) (by decide)
  have hv2 : vp_in (nI (h + 1)) 1464 := vp_in_nI (by omega) (by decide)
  simp only [wpX_completeArithmetic, forall_eq, cc_p2, nI_1, nI_clamp h1, nI_clamp h2, hv1, hv2, true_and]
  exact br_t hk (br_t hk2 (xx_calculate ho (xx_endTask (by omega) hp)))
theorem xx_completeArithmetic0 {h : Nat} {o : Int32} (hh : h + 1 < 1464) (hk : ¬ (rK h = 0 ∧ rK (h + 1) = 0))
    (hp : post (mC, sS, tC, nI h, sC, cC, kC, 2, pK, pD, pS, pP, pF, stk, tP, tS, tD, rK, rV, mK, mV, cP, cS)) : wpX_completeArithmetic post (mC, sS, tC, nI (h + 2), sC, cC, kC, en, pK, pD, pS, pP, pF, stk, tP, tS, tD, rK, rV, mK, mV, cP, cS) o := by
  have h1 : h < 2 ^ 31 := by omega
  have h2 : h + 1 < 2 ^ 31 := by omega
  have hv1 : vp_in (nI h) 1464 := vp_in_nI (by omega) (by decide)
  have hv2 : vp_in (nI (h + 1)) 1464 := vp_in_nI (by omega) (by decide)
  simp only [wpX_completeArithmetic, forall_eq, cc_p2, nI_1, nI_clamp h1, nI_clamp h2, hv1, hv2, true_and]
  by_cases hk1 : rK h = 0
  · exact br_t hk1 (br_f (fun z => hk ⟨hk1, z⟩) hp)
  · exact br_f hk1 hp
theorem xx_needs0 {t p dd nn : Nat} (ht : t < 1464) (hp1 : p < 24) (hd : dd < 3) (hn : nn < 3) (e1 : tP t = nI p) (e3 : tD t = nI dd) (hr : ¬ dd < nn)
    (hk : ∀ P : Int32 → Prop, P (nI nn) → wpX_partsWorkedOutFirst P (pK p)) (hp : pos 0) : wpX_topTaskNeedsPart pos (mC, sS, nI (t + 1), rC, sC, cC, kC, en, pK, pD, pS, pP, pF, stk, tP, tS, tD, rK, rV, mK, mV, cP, cS) := xx_needs ht hp1 hd hn e1 e3 (Or.inr ⟨hr, rfl⟩) hk hp
theorem xx_needs1 {t p dd nn : Nat} (ht : t < 1464) (hp1 : p < 24) (hd : dd < 3) (hn : nn < 3) (e1 : tP t = nI p) (e3 : tD t = nI dd) (hr : dd < nn)
    (hk : ∀ P : Int32 → Prop, P (nI nn) → wpX_partsWorkedOutFirst P (pK p)) (hp : pos 1) : wpX_topTaskNeedsPart pos (mC, sS, nI (t + 1), rC, sC, cC, kC, en, pK, pD, pS, pP, pF, stk, tP, tS, tD, rK, rV, mK, mV, cP, cS) := xx_needs ht hp1 hd hn e1 e3 (Or.inl ⟨hr, rfl⟩) hk hp
theorem xc_number {p s t h : Nat} (ht : t < 1464) (hp1 : p < 24) (hh : h < 1464) (e1 : tP t = nI p) (e2 : tS t = nI s) (k : pK p = 5)
    (hp : post (mC, sS, nI t, nI (h + 1), sC, cC, kC, en, pK, pD, pS, pP, pF, stk, tP, tS, tD, upd rK h 0, upd rV h (pD p), mK, mV, cP, cS)) : wpX_completeTopTask post (mC, sS, nI (t + 1), nI h, sC, cC, kC, en, pK, pD, pS, pP, pF, stk, tP, tS, tD, rK, rV, mK, mV, cP, cS) := by
  have h1 : t < 2 ^ 31 := by omega
  have h2 : p < 2 ^ 31 := by omega
  have hv1 : vp_in (nI t) 1464 := vp_in_nI ht (by decide)
  have hv2 : vp_in (nI p) 24 := vp_in_nI hp1 (by decide)
  simp only [wpX_completeTopTask, forall_eq, nI_pred, nI_clamp h1, nI_clamp h2, e1, e2, hv1, hv2, true_and]
  rw [k]
  exact br_f (by decide) (br_f (by decide) (br_f (by decide) (br_t rfl (xx_endTask hh hp))))
theorem xc_name0 {p s t w : Nat} (ht : t < 1464) (hp1 : p < 24) (hs : s < 1465) (hw : w < 4) (e1 : tP t = nI p) (e2 : tS t = nI s) (k : pK p = 6) (k3 : pD p = nI w) (hk : mK (s * 4 + w) = -1)
    (hp : post (mC, sS, nI (t + 1), rC, sC, cC, kC, 2, pK, pD, pS, pP, pF, stk, tP, tS, tD, rK, rV, mK, mV, cP, cS)) : wpX_completeTopTask post (mC, sS, nI (t + 1), rC, sC, cC, kC, en, pK, pD, pS, pP, pF, stk, tP, tS, tD, rK, rV, mK, mV, cP, cS) := by
  have h1 : t < 2 ^ 31 := by omega
  have h2 : p < 2 ^ 31 := by omega
  have hv1 : vp_in (nI t) 1464 := vp_in_nI ht (by decide)
  have hv2 : vp_in (nI p) 24 := vp_in_nI hp1 (by decide)
  simp only [wpX_completeTopTask, forall_eq, nI_pred, nI_clamp h1, nI_clamp h2, e1, e2, hv1, hv2, true_and]
  rw [k]
  exact br_f (by decide) (br_f (by decide) (br_f (by decide) (br_f (by decide) (br_t rfl (xx_completeName0 hp1 hs hw k3 hk hp)))))
theorem xc_name1 {p s t w h : Nat} (ht : t < 1464) (hp1 : p < 24) (hs : s < 1465) (hw : w < 4) (hh : h < 1464) (e1 : tP t = nI p) (e2 : tS t = nI s) (k : pK p = 6) (k3 : pD p = nI w) (hk : ¬ mK (s * 4 + w) = -1)
    (hp : post (mC, sS, nI t, nI (h + 1), sC, cC, kC, en, pK, pD, pS, pP, pF, stk, tP, tS, tD, upd rK h (mK (s * 4 + w)), upd rV h (mV (s * 4 + w)), mK, mV, cP, cS)) : wpX_completeTopTask post (mC, sS, nI (t + 1), nI h, sC, cC, kC, en, pK, pD, pS, pP, pF, stk, tP, tS, tD, rK, rV, mK, mV, cP, cS) := by
  have h1 : t < 2 ^ 31 := by omega
  have h2 : p < 2 ^ 31 := by omega
  have hv1 : vp_in (nI t) 1464 := vp_in_nI ht (by decide)
  have hv2 : vp_in (nI p) 24 := vp_in_nI hp1 (by decide)
  simp only [wpX_completeTopTask, forall_eq, nI_pred, nI_clamp h1, nI_clamp h2, e1, e2, hv1, hv2, true_and]
  rw [k]
  exact br_f (by decide) (br_f (by decide) (br_f (by decide) (br_f (by decide) (br_t rfl (xx_completeName1 hp1 hs hw hh k3 hk hp)))))
theorem xc_function {p s t h c : Nat} (ht : t < 1464) (hp1 : p < 24) (hh : h < 1464) (hc : c < 1464) (e1 : tP t = nI p) (e2 : tS t = nI s) (k : pK p = 9)
    (hp : post (mC, sS, nI t, nI (h + 1), sC, nI (c + 1), kC, en, pK, pD, pS, pP, pF, stk, tP, tS, tD, upd rK h 1, upd rV h (nI c), mK, mV, upd cP c (nI p), upd cS c (nI s))) : wpX_completeTopTask post (mC, sS, nI (t + 1), nI h, sC, nI c, kC, en, pK, pD, pS, pP, pF, stk, tP, tS, tD, rK, rV, mK, mV, cP, cS) := by
  have h1 : t < 2 ^ 31 := by omega
  have h2 : p < 2 ^ 31 := by omega
  have hv1 : vp_in (nI t) 1464 := vp_in_nI ht (by decide)
  have hv2 : vp_in (nI p) 24 := vp_in_nI hp1 (by decide)
  simp only [wpX_completeTopTask, forall_eq, nI_pred, nI_clamp h1, nI_clamp h2, e1, e2, hv1, hv2, true_and]
  rw [k]
  exact br_f (by decide) (br_f (by decide) (br_f (by decide) (br_f (by decide) (br_f (by decide) (br_f (by decide) (br_f (by decide) (br_t rfl (xx_completeFunction hc hh hp))))))))
theorem xc_choose {p s t h q i : Nat} (ht : t < 1464) (hp1 : p < 24) (hh : h < 1464) (e1 : tP t = nI p) (e2 : tS t = nI s) (k : pK p = 7) (hk : rK h = 0) (hi : (¬ rV h = 0 ∧ i = 1) ∨ (rV h = 0 ∧ i = 2)) (e4 : pP (3 * p + i) = nI q)
    (hp : post (mC, sS, nI (t + 1), nI h, sC, cC, kC, en, pK, pD, pS, pP, pF, stk, upd tP t (nI q), upd tS t (nI s), upd tD t 0, rK, rV, mK, mV, cP, cS)) : wpX_completeTopTask post (mC, sS, nI (t + 1), nI (h + 1), sC, cC, kC, en, pK, pD, pS, pP, pF, stk, tP, tS, tD, rK, rV, mK, mV, cP, cS) := by
  have h1 : t < 2 ^ 31 := by omega
  have h2 : p < 2 ^ 31 := by omega
  have hv1 : vp_in (nI t) 1464 := vp_in_nI ht (by decide)
  have hv2 : vp_in (nI p) 24 := vp_in_nI hp1 (by decide)
  simp only [wpX_completeTopTask, forall_eq, nI_pred, nI_clamp h1, nI_clamp h2, e1, e2, hv1, hv2, true_and]
  rw [k]
  exact br_f (by decide) (br_f (by decide) (br_f (by decide) (br_f (by decide) (br_f (by decide) (br_t rfl (xx_completeChoose hp1 hh ht hk hi e4 hp))))))
theorem xc_choose0 {p s t h : Nat} (ht : t < 1464) (hp1 : p < 24) (hh : h < 1464) (e1 : tP t = nI p) (e2 : tS t = nI s) (k : pK p = 7) (hk : ¬ rK h = 0)
    (hp : post (mC, sS, nI (t + 1), nI h, sC, cC, kC, 2, pK, pD, pS, pP, pF, stk, tP, tS, tD, rK, rV, mK, mV, cP, cS)) : wpX_completeTopTask post (mC, sS, nI (t + 1), nI (h + 1), sC, cC, kC, en, pK, pD, pS, pP, pF, stk, tP, tS, tD, rK, rV, mK, mV, cP, cS) := by
  have h1 : t < 2 ^ 31 := by omega
  have h2 : p < 2 ^ 31 := by omega
  have hv1 : vp_in (nI t) 1464 := vp_in_nI ht (by decide)
  have hv2 : vp_in (nI p) 24 := vp_in_nI hp1 (by decide)
  simp only [wpX_completeTopTask, forall_eq, nI_pred, nI_clamp h1, nI_clamp h2, e1, e2, hv1, hv2, true_and]
  rw [k]
  exact br_f (by decide) (br_f (by decide) (br_f (by decide) (br_f (by decide) (br_f (by decide) (br_t rfl (xx_completeChoose0 hh hk hp))))))
theorem xc_bind {p s t h q w sc : Nat} {kk : Int32} (ht : t < 1464) (hp1 : p < 24) (hh : h < 1464) (hs : s < 1465) (hsc : sc < 1465) (hw : w < 4) (e1 : tP t = nI p) (e2 : tS t = nI s) (k : pK p = 8) (k3 : pD p = nI w) (hk : rK h = kk) (e4 : pP (3 * p + 1) = nI q)
    (hp : post (mC, sS, nI (t + 1), nI h, nI (sc + 1), cC, kC, en, pK, pD, pS, pP, pF, stk, upd tP t (nI q), upd tS t (nI sc), upd tD t 0, rK, rV, upd (cc_os mK sc s 4) (sc * 4 + w) kk, upd (cc_os mV sc s 4) (sc * 4 + w) (rV h), cP, cS)) : wpX_completeTopTask post (mC, sS, nI (t + 1), nI (h + 1), nI sc, cC, kC, en, pK, pD, pS, pP, pF, stk, tP, tS, tD, rK, rV, mK, mV, cP, cS) := by
  have h1 : t < 2 ^ 31 := by omega
  have h2 : p < 2 ^ 31 := by omega
  have hv1 : vp_in (nI t) 1464 := vp_in_nI ht (by decide)
  have hv2 : vp_in (nI p) 24 := vp_in_nI hp1 (by decide)
  simp only [wpX_completeTopTask, forall_eq, nI_pred, nI_clamp h1, nI_clamp h2, e1, e2, hv1, hv2, true_and]
  rw [k]
  exact br_f (by decide) (br_f (by decide) (br_f (by decide) (br_f (by decide) (br_f (by decide) (br_f (by decide) (br_t rfl (xx_completeBind ht hp1 hh hs hsc hw k3 hk e4 hp)))))))
theorem xc_apply0 {p s t h : Nat} (ht : t < 1464) (hp1 : p < 24) (hh : h + 1 < 1464) (e1 : tP t = nI p) (e2 : tS t = nI s) (k : pK p = 4) (hk : rK h = 0)
    (hp : post (mC, sS, nI (t + 1), nI h, sC, cC, kC, 2, pK, pD, pS, pP, pF, stk, tP, tS, tD, rK, rV, mK, mV, cP, cS)) : wpX_completeTopTask post (mC, sS, nI (t + 1), nI (h + 2), sC, cC, kC, en, pK, pD, pS, pP, pF, stk, tP, tS, tD, rK, rV, mK, mV, cP, cS) := by
  have h1 : t < 2 ^ 31 := by omega
  have h2 : p < 2 ^ 31 := by omega
  have hv1 : vp_in (nI t) 1464 := vp_in_nI ht (by decide)
  have hv2 : vp_in (nI p) 24 := vp_in_nI hp1 (by decide)
  simp only [wpX_completeTopTask, forall_eq, nI_pred, nI_clamp h1, nI_clamp h2, e1, e2, hv1, hv2, true_and]
  rw [k]
  exact br_f (by decide) (br_f (by decide) (br_t rfl (xx_completeApply0 hh hk hp)))
theorem xc_apply1 {p s t h ca : Nat} (ht : t < 1464) (hp1 : p < 24) (hh : h + 1 < 1464) (hca : ca = 60) (e1 : tP t = nI p) (e2 : tS t = nI s) (k : pK p = 4) (hk : rK h = 1)
    (hp : post (mC, sS, nI (t + 1), nI h, sC, cC, nI ca, 3, pK, pD, pS, pP, pF, stk, tP, tS, tD, rK, rV, mK, mV, cP, cS)) : wpX_completeTopTask post (mC, sS, nI (t + 1), nI (h + 2), sC, cC, nI ca, en, pK, pD, pS, pP, pF, stk, tP, tS, tD, rK, rV, mK, mV, cP, cS) := by
  have h1 : t < 2 ^ 31 := by omega
  have h2 : p < 2 ^ 31 := by omega
  have hv1 : vp_in (nI t) 1464 := vp_in_nI ht (by decide)
  have hv2 : vp_in (nI p) 24 := vp_in_nI hp1 (by decide)
  simp only [wpX_completeTopTask, forall_eq, nI_pred, nI_clamp h1, nI_clamp h2, e1, e2, hv1, hv2, true_and]
  rw [k]
  exact br_f (by decide) (br_f (by decide) (br_t rfl (xx_completeApply1 hh hca hk hp)))
theorem xc_apply2 {p s t h ca j p1 s1 w f q sc : Nat} {kk : Int32} (ht : t < 1464) (hp1 : p < 24) (hh : h + 1 < 1464) (hca : ca < 60) (hj : j < 1464) (hp2 : p1 < 24) (hs : s1 < 1465) (hsc : sc < 1465) (hw : w < 4) (hf : f < 4) (e1 : tP t = nI p) (e2 : tS t = nI s) (k : pK p = 4) (hk : rK h = 1) (hv : rV h = nI j)
    (c4 : cP j = nI p1) (c5 : cS j = nI s1) (f1 : pD p1 = nI w) (f2 : pS p1 = nI f) (f4 : pP (3 * p1) = nI q) (hk2 : rK (h + 1) = kk)
    (hp : post (mC, sS, nI (t + 1), nI h, nI (sc + 1), cC, nI (ca + 1), en, pK, pD, pS, pP, pF, stk, upd tP t (nI q), upd tS t (nI sc), upd tD t 0, rK, rV, upd (upd (cc_os mK sc s1 4) (sc * 4 + f) (nI 1)) (sc * 4 + w) kk, upd (upd (cc_os mV sc s1 4) (sc * 4 + f) (nI j)) (sc * 4 + w) (rV (h + 1)), cP, cS)) :
    wpX_completeTopTask post (mC, sS, nI (t + 1), nI (h + 2), nI sc, cC, nI ca, en, pK, pD, pS, pP, pF, stk, tP, tS, tD, rK, rV, mK, mV, cP, cS) := by
  have h1 : t < 2 ^ 31 := by omega
  have h2 : p < 2 ^ 31 := by omega
  have hv1 : vp_in (nI t) 1464 := vp_in_nI ht (by decide)
  have hv2 : vp_in (nI p) 24 := vp_in_nI hp1 (by decide)
  simp only [wpX_completeTopTask, forall_eq, nI_pred, nI_clamp h1, nI_clamp h2, e1, e2, hv1, hv2, true_and]
  rw [k]
  exact br_f (by decide) (br_f (by decide) (br_t rfl (xx_completeApply2 ht hh hca hj hp2 hs hsc hw hf hk hv c4 c5 f1 f2 f4 hk2 hp)))
theorem xc_arith {p s t h o : Nat} (ht : t < 1464) (hp1 : p < 24) (hh : h + 1 < 1464) (ho : o < 4) (e1 : tP t = nI p) (e2 : tS t = nI s) (k : pK p = nI o) (hk : rK h = 0) (hk2 : rK (h + 1) = 0)
    (hp : post (mC, sS, nI t, nI (h + 1), sC, cC, kC, en, pK, pD, pS, pP, pF, stk, tP, tS, tD, upd rK h 0, upd rV h (cc_ar o (rV h) (rV (h + 1))), mK, mV, cP, cS)) : wpX_completeTopTask post (mC, sS, nI (t + 1), nI (h + 2), sC, cC, kC, en, pK, pD, pS, pP, pF, stk, tP, tS, tD, rK, rV, mK, mV, cP, cS) := by
  have h1 : t < 2 ^ 31 := by omega
  have h2 : p < 2 ^ 31 := by omega
  have hv1 : vp_in (nI t) 1464 := vp_in_nI ht (by decide)
  have hv2 : vp_in (nI p) 24 := vp_in_nI hp1 (by decide)
  simp only [wpX_completeTopTask, forall_eq, nI_pred, nI_clamp h1, nI_clamp h2, e1, e2, hv1, hv2, true_and]
  rw [k]
  exact br_t (nI_lt (b := 4) ho (by decide)) (xx_completeArithmetic hh ho hk hk2 hp)
theorem xc_arith0 {p s t h o : Nat} (ht : t < 1464) (hp1 : p < 24) (hh : h + 1 < 1464) (ho : o < 4) (e1 : tP t = nI p) (e2 : tS t = nI s) (k : pK p = nI o) (hk : ¬ (rK h = 0 ∧ rK (h + 1) = 0))
    (hp : post (mC, sS, nI (t + 1), nI h, sC, cC, kC, 2, pK, pD, pS, pP, pF, stk, tP, tS, tD, rK, rV, mK, mV, cP, cS)) : wpX_completeTopTask post (mC, sS, nI (t + 1), nI (h + 2), sC, cC, kC, en, pK, pD, pS, pP, pF, stk, tP, tS, tD, rK, rV, mK, mV, cP, cS) := by
  have h1 : t < 2 ^ 31 := by omega
  have h2 : p < 2 ^ 31 := by omega
  have hv1 : vp_in (nI t) 1464 := vp_in_nI ht (by decide)
  have hv2 : vp_in (nI p) 24 := vp_in_nI hp1 (by decide)
  simp only [wpX_completeTopTask, forall_eq, nI_pred, nI_clamp h1, nI_clamp h2, e1, e2, hv1, hv2, true_and]
  rw [k]
  exact br_t (nI_lt (b := 4) ho (by decide)) (xx_completeArithmetic0 hh hk hp)
end
