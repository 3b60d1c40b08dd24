/-! the two loops in lockstep -/
def cc_Fin (m d : Nat) (pK pD pS pP pF stk yk yn : Nat → Int32) (A : (SX → Prop) → Prop) (B : (SY → Prop) → Prop) : Prop :=
  ∃ (tC rC sC cC kC en li wt he : Int32) (tP tS tD rK rV mK mV cP cS me mt cl wa va ic : Nat → Int32), (en = 0 → va 0 = rV 0) ∧
    (∀ P : SX → Prop, P (nI m, nI d, tC, rC, sC, cC, kC, en, pK, pD, pS, pP, pF, stk, tP, tS, tD, rK, rV, mK, mV, cP, cS) → A P) ∧ (∀ P : SY → Prop, P (nI m, nI d, li, cC, wt, he, kC, en, yk, pP, yn, pF, stk, me, mt, cl, wa, va, ic) → B P)
theorem cc_Fin_map {m d : Nat} {pK pD pS pP pF stk yk yn : Nat → Int32} {A A' : (SX → Prop) → Prop} {B B' : (SY → Prop) → Prop} (h : cc_Fin m d pK pD pS pP pF stk yk yn A B) (hA : ∀ P, A P → A' P) (hB : ∀ P, B P → B' P) :
    cc_Fin m d pK pD pS pP pF stk yk yn A' B' := by
  obtain ⟨tC, rC, sC, cC, kC, en, li, wt, he, tP, tS, tD, rK, rV, mK, mV, cP, cS, me, mt, cl, wa, va, ic, h1, h2, h3⟩ := h
  exact ⟨tC, rC, sC, cC, kC, en, li, wt, he, tP, tS, tD, rK, rV, mK, mV, cP, cS, me, mt, cl, wa, va, ic, h1, fun P hP => hA P (h2 P hP), fun P hP => hB P (h3 P hP)⟩
theorem cc_dk0 {pK : Nat → Int32} {p d : Nat} (h : cc_dk pK p d) (hk : pK p = 5 ∨ pK p = 6 ∨ pK p = 9) : d = 0 := by
  have ho : ¬ ∃ o, o < 5 ∧ pK p = nI o := by
    intro ⟨o, h1, h2⟩
    obtain ⟨a, b, _, _, c⟩ := cc_ko o h1
    rw [h2] at hk
    rcases hk with hk | hk | hk
    · exact a hk
    · exact b hk
    · exact c hk
  rcases h with h | ⟨_, h⟩ | ⟨_, h⟩
  · exact h
  · rcases h with h | h | h
    · rw [h] at hk; exact absurd hk (by decide)
    · rw [h] at hk; exact absurd hk (by decide)
    · exact absurd h ho
  · exact absurd h ho
theorem cc_dk1 {pK : Nat → Int32} {p d : Nat} (h : cc_dk pK p d) (hk : pK p = 7 ∨ pK p = 8) : d = 0 ∨ d = 1 := by
  rcases h with h | ⟨h, _⟩ | ⟨_, o, h1, h2⟩
  · exact Or.inl h
  · exact Or.inr h
  · obtain ⟨_, _, a, b, _⟩ := cc_ko o h1
    rw [h2] at hk
    rcases hk with hk | hk
    · exact absurd hk a
    · exact absurd hk b
theorem cc_dk2 {pK : Nat → Int32} {p d : Nat} (h : cc_dk pK p d) : d = 0 ∨ d = 1 ∨ d = 2 := by
  rcases h with h | ⟨h, _⟩ | ⟨h, _⟩
  · exact Or.inl h
  · exact Or.inr (Or.inl h)
  · exact Or.inr (Or.inr h)
def cc_G (m d : Nat) (pK pD pS pP pF stk yk yn : Nat → Int32) (sz rm : Nat → Nat) (n : Nat) : Prop :=
  ∀ (st : Nat) {T : List (Nat × Nat × Nat × Nat)} {h e sc c ca : Nat} {ek ew : Nat → Nat → Int32} {tP tS tD rK rV mK mV cP cS me mt cl wa va ic : Nat → Int32},
    cc_J m pK sz rm T h e sc c ca ek ew tP tS tD rK rV mK mV cP cS me mt cl wa va ic → cc_M sz rm T c ca + 2 ≤ n → st + cc_M sz rm T c ca < 900000 →
    cc_Fin m d pK pD pS pP pF stk yk yn (fun P => wX_runTop_6 P n (nI st) (nI m) (nI d) (nI T.length) (nI h) (nI sc) (nI c) (nI ca) (-1) pK pD pS pP pF stk tP tS tD rK rV mK mV cP cS)
      (fun P => wY_work_55 P n (nI m) (nI d) (nI e) (nI c) (nI T.length) (nI h) (nI ca) (-4) yk pP yn pF stk me mt cl wa va ic)
section
variable {m d n st : Nat} {pK pD pS pP pF stk yk yn : Nat → Int32} {sz rm : Nat → Nat} {t : List (Nat × Nat × Nat × Nat)} {h h0 e sc c ca p s dd l : Nat} {ek ew : Nat → Nat → Int32} {tP tS tD rK rV mK mV cP cS me mt cl wa va ic : Nat → Int32}
theorem cc_J_top (J : cc_J m pK sz rm ((p, s, dd, l) :: t) h e sc c ca ek ew tP tS tD rK rV mK mV cP cS me mt cl wa va ic) :
    p < m ∧ s < sc ∧ l ≤ e ∧ tP t.length = nI p ∧ tS t.length = nI s ∧ tD t.length = nI dd ∧ wa t.length = nI ((32 * l + p) * 4 + dd) ∧ cc_dk pK p dd ∧ h = (cc_c3 p dd + cc_sm cc_c3 t) + cc_b dd ∧ ∀ v, v < 4 → mK (s * 4 + v) = ek l v ∧ mV (s * 4 + v) = ew l v := by
  obtain ⟨⟨⟨a1, ⟨q1, q2, q3⟩, a3, a4, a5, a6, a7, a8, a9⟩, _⟩, hC, hV, hE, n1, n2, n3, n4, n5⟩ := J
  exact ⟨a1, q1, q2, a3, a4, a5, a6, a8, n1, q3⟩
theorem cs_number (G : cc_G m d pK pD pS pP pF stk yk yn sz rm n) (hm : m ≤ 24) (J : cc_J m pK sz rm ((p, s, 0, l) :: t) h e sc c ca ek ew tP tS tD rK rV mK mV cP cS me mt cl wa va ic)
    (hM : cc_M sz rm ((p, s, 0, l) :: t) c ca + 2 ≤ n + 1) (hs : st + cc_M sz rm ((p, s, 0, l) :: t) c ca < 900000) (hz : 1 ≤ sz p) (k1 : pK p = 5) (k2 : yk p = 8) (k3 : yn p = pD p) : cc_Fin m d pK pD pS pP pF stk yk yn (fun P => wX_runTop_6 P (n + 1) (nI st) (nI m) (nI d) (nI (t.length + 1)) (nI h) (nI sc) (nI c) (nI ca) (-1) pK pD pS pP pF stk tP tS tD rK rV mK mV cP cS)
      (fun P => wY_work_55 P (n + 1) (nI m) (nI d) (nI e) (nI c) (nI (t.length + 1)) (nI h) (nI ca) (-4) yk pP yn pF stk me mt cl wa va ic) := by
  obtain ⟨b1, b2, b3, b4, b5, b6, b7⟩ := cc_J_len J hz
  obtain ⟨a1, q1, q2, a3, a4, a5, a6, a8, n1, q3⟩ := cc_J_top J
  have hh : h = cc_sm cc_c3 t := by
    have : h = 0 + cc_sm cc_c3 t + 0 := n1
    omega
  obtain ⟨J1, M1⟩ := cc_J_pop J hz hh (Or.inl rfl : cc_VK c 0 (pD p))
  refine cc_Fin_map (G (st + 1) J1 (by omega) (by omega)) (fun P H => ?_) (fun P H => ?_)
  · exact xl_comp (by omega) (by omega) (fun P hP => xx_needs0 (nn := 0) (by omega) (by omega) (by omega) (by omega) a3 a5 (by omega) (fun P hP => xx_parts0 (Or.inl k1) hP) hP)
      (fun P hP => xc_number (by omega) (by omega) (by omega) a3 a4 k1 hP) H
  · exact yl_begin (by omega) (by omega) (by omega) a6 (fun P hP => yb_number (by omega) (by omega) k2 k3 hP) H
theorem cs_name (G : cc_G m d pK pD pS pP pF stk yk yn sz rm n) (hm : m ≤ 24) (J : cc_J m pK sz rm ((p, s, 0, l) :: t) h e sc c ca ek ew tP tS tD rK rV mK mV cP cS me mt cl wa va ic)
    (hM : cc_M sz rm ((p, s, 0, l) :: t) c ca + 2 ≤ n + 1) (hs : st + cc_M sz rm ((p, s, 0, l) :: t) c ca < 900000) (hz : 1 ≤ sz p) (k1 : pK p = 6) (k2 : yk p = 9) {w : Nat} (hw : w < 4) (k3 : pD p = nI w) (k4 : yn p = nI w) : cc_Fin m d pK pD pS pP pF stk yk yn (fun P => wX_runTop_6 P (n + 1) (nI st) (nI m) (nI d) (nI (t.length + 1)) (nI h) (nI sc) (nI c) (nI ca) (-1) pK pD pS pP pF stk tP tS tD rK rV mK mV cP cS)
      (fun P => wY_work_55 P (n + 1) (nI m) (nI d) (nI e) (nI c) (nI (t.length + 1)) (nI h) (nI ca) (-4) yk pP yn pF stk me mt cl wa va ic) := by
  obtain ⟨b1, b2, b3, b4, b5, b6, b7⟩ := cc_J_len J hz
  obtain ⟨a1, q1, q2, a3, a4, a5, a6, a8, n1, q3⟩ := cc_J_top J
  have hh : h = cc_sm cc_c3 t := by
    have : h = 0 + cc_sm cc_c3 t + 0 := n1
    omega
  have hE : cc_E e c me mt ek ew := J.2.2.2.1
  obtain ⟨g1, g2⟩ := q3 w hw
  have hN : ∀ P : Int32 → Prop, P 0 → wpX_topTaskNeedsPart P (nI m, nI d, nI (t.length + 1), nI h, nI sc, nI c, nI ca, -1, pK, pD, pS, pP, pF, stk, tP, tS, tD, rK, rV, mK, mV, cP, cS) :=
    fun P hP => xx_needs0 (nn := 0) (by omega) (by omega) (by omega) (by omega) a3 a5 (by omega) (fun P hP => xx_parts0 (Or.inr (Or.inl k1)) hP) hP
  by_cases hk : ek l w = -1
  · refine ⟨nI (t.length + 1), nI h, nI sc, nI c, nI ca, 2, nI e, nI t.length, nI h, tP, tS, tD, rK, rV, mK, mV, cP, cS, me, mt, cl, wa, va, ic, fun z => absurd z (by decide), fun P H => ?_, fun P H => ?_⟩
    · exact xl_comp (n := n) (by omega) (by omega) hN (fun P hP => xc_name0 (by omega) (by omega) (by omega) hw a3 a4 k1 k3 (g1.trans hk) hP) (xl_end (by omega) (by decide) H)
    · exact yl_begin (by omega) (by omega) (by omega) a6 (fun P hP => yb_name0 (by omega) hw hE q2 (by omega) (by omega) k2 k4 hk hP) (yl_end (by omega) (by decide) H)
  · have hv : cc_VK c (ek l w) (ew l w) := (hE.2.2 l w q2 hw).resolve_left hk
    obtain ⟨J1, M1⟩ := cc_J_pop J hz hh hv
    refine cc_Fin_map (G (st + 1) J1 (by omega) (by omega)) (fun P H => ?_) (fun P H => ?_)
    · rw [← g1, ← g2] at H
      exact xl_comp (by omega) (by omega) hN (fun P hP => xc_name1 (by omega) (by omega) (by omega) hw (by omega) a3 a4 k1 k3 (fun z => hk (g1.symm.trans z)) hP) H
    · exact yl_begin (by omega) (by omega) (by omega) a6 (fun P hP => yb_name1 (by omega) hw hE q2 (by omega) (by omega) k2 k4 hk hP) H
theorem cs_function (G : cc_G m d pK pD pS pP pF stk yk yn sz rm n) (hm : m ≤ 24) (J : cc_J m pK sz rm ((p, s, 0, l) :: t) h e sc c ca ek ew tP tS tD rK rV mK mV cP cS me mt cl wa va ic)
    (hM : cc_M sz rm ((p, s, 0, l) :: t) c ca + 2 ≤ n + 1) (hs : st + cc_M sz rm ((p, s, 0, l) :: t) c ca < 900000) (hz : 2 ≤ sz p) (k1 : pK p = 9) (k2 : yk p = 7) : cc_Fin m d pK pD pS pP pF stk yk yn (fun P => wX_runTop_6 P (n + 1) (nI st) (nI m) (nI d) (nI (t.length + 1)) (nI h) (nI sc) (nI c) (nI ca) (-1) pK pD pS pP pF stk tP tS tD rK rV mK mV cP cS)
      (fun P => wY_work_55 P (n + 1) (nI m) (nI d) (nI e) (nI c) (nI (t.length + 1)) (nI h) (nI ca) (-4) yk pP yn pF stk me mt cl wa va ic) := by
  obtain ⟨b1, b2, b3, b4, b5, b6, b7⟩ := cc_J_len J (Nat.le_of_succ_le hz)
  obtain ⟨a1, q1, q2, a3, a4, a5, a6, a8, n1, q3⟩ := cc_J_top J
  obtain ⟨J1, M1⟩ := cc_J_fun J hz k1
  refine cc_Fin_map (G (st + 1) J1 (by omega) (by omega)) (fun P H => ?_) (fun P H => ?_)
  · exact xl_comp (by omega) (by omega) (fun P hP => xx_needs0 (nn := 0) (by omega) (by omega) (by omega) (by omega) a3 a5 (by omega) (fun P hP => xx_parts0 (Or.inr (Or.inr k1)) hP) hP)
      (fun P hP => xc_function (by omega) (by omega) (by omega) (by omega) a3 a4 k1 hP) H
  · exact yl_begin (by omega) (by omega) (by omega) a6 (fun P hP => yb_function (by omega) (by omega) (by omega) (by omega) k2 hP) H
theorem cs_next0 (G : cc_G m d pK pD pS pP pF stk yk yn sz rm n) (hm : m ≤ 24) (J : cc_J m pK sz rm ((p, s, 0, l) :: t) h e sc c ca ek ew tP tS tD rK rV mK mV cP cS me mt cl wa va ic)
    (hM : cc_M sz rm ((p, s, 0, l) :: t) c ca + 2 ≤ n + 1) (hs : st + cc_M sz rm ((p, s, 0, l) :: t) c ca < 900000) {q nn : Nat} (hq : q < m) (h1 : 1 ≤ sz q) (h2 : 1 ≤ rm p) (hz : sz p = 1 + sz q + rm p) (hd : cc_dk pK p 1)
    (hnn : 0 < nn) (hn3 : nn < 3) (kX : ∀ P : Int32 → Prop, P (nI nn) → wpX_partsWorkedOutFirst P (pK p)) (k7 : ¬ yk p = 7) (k8 : ¬ yk p = 8) (k9 : ¬ yk p = 9) (kP : pP (3 * p) = nI q) : cc_Fin m d pK pD pS pP pF stk yk yn (fun P => wX_runTop_6 P (n + 1) (nI st) (nI m) (nI d) (nI (t.length + 1)) (nI h) (nI sc) (nI c) (nI ca) (-1) pK pD pS pP pF stk tP tS tD rK rV mK mV cP cS)
      (fun P => wY_work_55 P (n + 1) (nI m) (nI d) (nI e) (nI c) (nI (t.length + 1)) (nI h) (nI ca) (-4) yk pP yn pF stk me mt cl wa va ic) := by
  obtain ⟨b1, b2, b3, b4, b5, b6, b7⟩ := cc_J_len J (show 1 ≤ sz p by omega)
  obtain ⟨a1, q1, q2, a3, a4, a5, a6, a8, n1, q3⟩ := cc_J_top J
  obtain ⟨J1, M1⟩ := cc_J_next0 J hq h1 h2 hz hd
  have g : 2 * t.length + sz p ≤ 1224 := b2
  refine cc_Fin_map (G (st + 1) J1 (by omega) (by omega)) (fun P H => ?_) (fun P H => ?_)
  · exact xl_part (by omega) (by omega) (fun P hP => xx_needs1 (nn := nn) (by omega) (by omega) (by omega) (by omega) a3 a5 (by omega) kX hP)
      (fun P hP => xx_beginNextPart (dd := 0) (by omega) (by omega) (by omega) a3 a4 a5 kP hP) H
  · exact yl_begin (by omega) (by omega) (by omega) a6 (fun P hP => yb_node (by omega) (by omega) k7 k8 k9 kP hP) H
theorem cs_next1 (G : cc_G m d pK pD pS pP pF stk yk yn sz rm n) (hm : m ≤ 24) (J : cc_J m pK sz rm ((p, s, 1, l) :: t) h e sc c ca ek ew tP tS tD rK rV mK mV cP cS me mt cl wa va ic)
    (hM : cc_M sz rm ((p, s, 1, l) :: t) c ca + 2 ≤ n + 1) (hs : st + cc_M sz rm ((p, s, 1, l) :: t) c ca < 900000) {q o : Nat} (hq : q < m) (h1 : 1 ≤ sz q) (h2 : rm p = sz q) (hz : sz q + 2 ≤ sz p)
    (ho : o < 5) (k1 : pK p = nI o) (k2 : yk p = nI o) (kP : pP (3 * p + 1) = nI q) : cc_Fin m d pK pD pS pP pF stk yk yn (fun P => wX_runTop_6 P (n + 1) (nI st) (nI m) (nI d) (nI (t.length + 1)) (nI h) (nI sc) (nI c) (nI ca) (-1) pK pD pS pP pF stk tP tS tD rK rV mK mV cP cS)
      (fun P => wY_work_55 P (n + 1) (nI m) (nI d) (nI e) (nI c) (nI (t.length + 1)) (nI h) (nI ca) (-4) yk pP yn pF stk me mt cl wa va ic) := by
  obtain ⟨b1, b2, b3, b4, b5, b6, b7⟩ := cc_J_len J (show 1 ≤ sz p by omega)
  obtain ⟨a1, q1, q2, a3, a4, a5, a6, a8, n1, q3⟩ := cc_J_top J
  obtain ⟨J1, M1⟩ := cc_J_next1 J hq h1 h2 hz (Or.inr (Or.inr ⟨rfl, o, ho, k1⟩))
  have g : 2 * t.length + sz p ≤ 1224 := b2
  refine cc_Fin_map (G (st + 1) J1 (by omega) (by omega)) (fun P H => ?_) (fun P H => ?_)
  · exact xl_part (by omega) (by omega) (fun P hP => xx_needs1 (nn := 2) (by omega) (by omega) (by omega) (by omega) a3 a5 (by omega) (fun P hP => by rw [k1]; exact xx_parts2 ho hP) hP)
      (fun P hP => xx_beginNextPart (dd := 1) (by omega) (by omega) (by omega) a3 a4 a5 kP hP) H
  · exact yl_goOn (by omega) (by omega) (by omega) (by omega) (by omega) a6 (fun P hP => yg_next (by omega) (by omega) ho k2 kP hP) H
theorem cs_choose (G : cc_G m d pK pD pS pP pF stk yk yn sz rm n) (hm : m ≤ 24) (J : cc_J m pK sz rm ((p, s, 1, l) :: t) h e sc c ca ek ew tP tS tD rK rV mK mV cP cS me mt cl wa va ic)
    (hM : cc_M sz rm ((p, s, 1, l) :: t) c ca + 2 ≤ n + 1) (hs : st + cc_M sz rm ((p, s, 1, l) :: t) c ca < 900000) {q q' : Nat} (hq : q < m) (hq' : q' < m) (h1 : 1 ≤ sz q) (h1' : 1 ≤ sz q') (h2 : rm p = sz q + sz q') (hz : sz q + sz q' ≤ sz p)
    (k1 : pK p = 7) (k2 : yk p = 5) (kP : pP (3 * p + 1) = nI q) (kP' : pP (3 * p + 2) = nI q') : cc_Fin m d pK pD pS pP pF stk yk yn (fun P => wX_runTop_6 P (n + 1) (nI st) (nI m) (nI d) (nI (t.length + 1)) (nI h) (nI sc) (nI c) (nI ca) (-1) pK pD pS pP pF stk tP tS tD rK rV mK mV cP cS)
      (fun P => wY_work_55 P (n + 1) (nI m) (nI d) (nI e) (nI c) (nI (t.length + 1)) (nI h) (nI ca) (-4) yk pP yn pF stk me mt cl wa va ic) := by
  obtain ⟨b1, b2, b3, b4, b5, b6, b7⟩ := cc_J_len J (show 1 ≤ sz p by omega)
  obtain ⟨a1, q1, q2, a3, a4, a5, a6, a8, n1, q3⟩ := cc_J_top J
  have g : 2 * t.length + sz p ≤ 1224 := b2
  obtain ⟨h0, rfl⟩ : ∃ h0, h = h0 + 1 := ⟨cc_sm cc_c3 t, by have : h = 0 + cc_sm cc_c3 t + 1 := n1; omega⟩
  obtain ⟨v1, v2, v3⟩ : va h0 = rV h0 ∧ ic h0 = rK h0 ∧ cc_VK c (rK h0) (rV h0) := J.2.2.1 h0 (Nat.lt_succ_self h0)
  have hN : ∀ P : Int32 → Prop, P 0 → wpX_topTaskNeedsPart P (nI m, nI d, nI (t.length + 1), nI (h0 + 1), nI sc, nI c, nI ca, -1, pK, pD, pS, pP, pF, stk, tP, tS, tD, rK, rV, mK, mV, cP, cS) :=
    fun P hP => xx_needs0 (nn := 1) (by omega) (by omega) (by omega) (by omega) a3 a5 (by omega) (fun P hP => xx_parts1 (Or.inl k1) hP) hP
  by_cases hk : rK h0 = 0
  · have hi0 : ic h0 = 0 := v2.trans hk
    by_cases hx : rV h0 = 0
    · obtain ⟨J1, M1⟩ := cc_J_choose J hq' h1' (by omega) (by omega)
      refine cc_Fin_map (G (st + 1) J1 (by omega) (by omega)) (fun P H => ?_) (fun P H => ?_)
      · exact xl_comp (by omega) (by omega) hN (fun P hP => xc_choose (i := 2) (by omega) (by omega) (by omega) a3 a4 k1 hk (Or.inr ⟨hx, rfl⟩) kP' hP) H
      · exact yl_goOn (by omega) (by omega) (by omega) (by omega) (by omega) a6 (fun P hP => yg_choose (i := 2) (by omega) (by omega) (by omega) k2 hi0 (Or.inr ⟨v1.trans hx, rfl⟩) kP' hP) H
    · obtain ⟨J1, M1⟩ := cc_J_choose J hq h1 (by omega) (by omega)
      refine cc_Fin_map (G (st + 1) J1 (by omega) (by omega)) (fun P H => ?_) (fun P H => ?_)
      · exact xl_comp (by omega) (by omega) hN (fun P hP => xc_choose (i := 1) (by omega) (by omega) (by omega) a3 a4 k1 hk (Or.inl ⟨hx, rfl⟩) kP hP) H
      · exact yl_goOn (by omega) (by omega) (by omega) (by omega) (by omega) a6 (fun P hP => yg_choose (i := 1) (by omega) (by omega) (by omega) k2 hi0 (Or.inl ⟨fun z => hx (v1.symm.trans z), rfl⟩) kP hP) H
  · refine ⟨nI (t.length + 1), nI h0, nI sc, nI c, nI ca, 2, nI e, nI t.length, nI h0, tP, tS, tD, rK, rV, mK, mV, cP, cS, me, mt, cl, wa, va, ic, fun z => absurd z (by decide), fun P H => ?_, fun P H => ?_⟩
    · exact xl_comp (n := n) (by omega) (by omega) hN (fun P hP => xc_choose0 (by omega) (by omega) (by omega) a3 a4 k1 hk hP) (xl_end (by omega) (by decide) H)
    · exact yl_goOn (by omega) (by omega) (by omega) (by omega) (by omega) a6 (fun P hP => yg_choose0 (by omega) (by omega) k2 (fun z => hk (v2.symm.trans z)) hP) (yl_end (by omega) (by decide) H)
theorem cs_bind (G : cc_G m d pK pD pS pP pF stk yk yn sz rm n) (hm : m ≤ 24) (J : cc_J m pK sz rm ((p, s, 1, l) :: t) h e sc c ca ek ew tP tS tD rK rV mK mV cP cS me mt cl wa va ic)
    (hM : cc_M sz rm ((p, s, 1, l) :: t) c ca + 2 ≤ n + 1) (hs : st + cc_M sz rm ((p, s, 1, l) :: t) c ca < 900000) {q w : Nat} (hq : q < m) (h1 : 1 ≤ sz q) (h2 : rm p = sz q) (hz : sz q + 2 ≤ sz p) (hw : w < 4)
    (k1 : pK p = 8) (k2 : yk p = 6) (k3 : pD p = nI w) (k4 : yn p = nI w) (kP : pP (3 * p + 1) = nI q) : cc_Fin m d pK pD pS pP pF stk yk yn (fun P => wX_runTop_6 P (n + 1) (nI st) (nI m) (nI d) (nI (t.length + 1)) (nI h) (nI sc) (nI c) (nI ca) (-1) pK pD pS pP pF stk tP tS tD rK rV mK mV cP cS)
      (fun P => wY_work_55 P (n + 1) (nI m) (nI d) (nI e) (nI c) (nI (t.length + 1)) (nI h) (nI ca) (-4) yk pP yn pF stk me mt cl wa va ic) := by
  obtain ⟨b1, b2, b3, b4, b5, b6, b7⟩ := cc_J_len J (show 1 ≤ sz p by omega)
  obtain ⟨a1, q1, q2, a3, a4, a5, a6, a8, n1, q3⟩ := cc_J_top J
  have g : 2 * t.length + sz p ≤ 1224 := b2
  obtain ⟨h0, rfl⟩ : ∃ h0, h = h0 + 1 := ⟨cc_sm cc_c3 t, by have : h = 0 + cc_sm cc_c3 t + 1 := n1; omega⟩
  obtain ⟨v1, v2, v3⟩ : va h0 = rV h0 ∧ ic h0 = rK h0 ∧ cc_VK c (rK h0) (rV h0) := J.2.2.1 h0 (Nat.lt_succ_self h0)
  obtain ⟨b, hb, eb⟩ := cc_VK_b v3
  rw [eb] at v3
  obtain ⟨o1, o2⟩ := cc_os_b (A := mK) (w := w) (x := nI b) q1
  obtain ⟨o3, o4⟩ := cc_os_b (A := mV) (w := w) (x := rV h0) q1
  obtain ⟨J1, M1⟩ := cc_J_bind (mK' := upd (cc_os mK sc s 4) (sc * 4 + w) (nI b)) (mV' := upd (cc_os mV sc s 4) (sc * 4 + w) (rV h0)) (x := rV h0) J hq h1 (by omega) (by omega) hw hb v3 (fun j hj => ⟨o1 j hj, o3 j hj⟩) (fun v hv => ⟨o2 v hv, o4 v hv⟩)
  refine cc_Fin_map (G (st + 1) J1 (by omega) (by omega)) (fun P H => ?_) (fun P H => ?_)
  · exact xl_comp (by omega) (by omega) (fun P hP => xx_needs0 (nn := 1) (by omega) (by omega) (by omega) (by omega) a3 a5 (by omega) (fun P hP => xx_parts1 (Or.inr k1) hP) hP)
      (fun P hP => xc_bind (by omega) (by omega) (by omega) (by omega) (by omega) hw a3 a4 k1 k3 eb kP hP) H
  · exact yl_goOn (by omega) (by omega) (by omega) (by omega) (by omega) a6 (fun P hP => yg_bind (by omega) (by omega) (by omega) (by omega) hb k2 k4 (v2.trans eb) v1 kP hP) H
theorem cc_fn (h : cc_St m pK pD pS pP yk yn sz rm p) (hk : pK p = 9) : ∃ w f b, w < 4 ∧ f < 4 ∧ b < m ∧ pD p = nI w ∧ pS p = nI f ∧ yn p = nI (4 * f + w) ∧ pP (3 * p) = nI b ∧ sz p = 1 + sz b := by
  rcases h with ⟨h1, _⟩ | ⟨h1, _⟩ | ⟨_, _, h3⟩ | ⟨h1, _⟩ | ⟨h1, _⟩ | ⟨o, a, b, h3, _, _, h6, _⟩
  · rw [hk] at h1; exact absurd h1 (by decide)
  · rw [hk] at h1; exact absurd h1 (by decide)
  · exact h3
  · rw [hk] at h1; exact absurd h1 (by decide)
  · rw [hk] at h1; exact absurd h1 (by decide)
  · rw [hk] at h6; exact absurd h6.symm (cc_ko o h3).2.2.2.2
theorem cs_apply (G : cc_G m d pK pD pS pP pF stk yk yn sz rm n) (hm : m ≤ 24) (hA : cc_Al m pK pD pS pP yk yn sz rm) (J : cc_J m pK sz rm ((p, s, 2, l) :: t) h e sc c ca ek ew tP tS tD rK rV mK mV cP cS me mt cl wa va ic)
    (hM : cc_M sz rm ((p, s, 2, l) :: t) c ca + 2 ≤ n + 1) (hs : st + cc_M sz rm ((p, s, 2, l) :: t) c ca < 900000) (hz : 3 ≤ sz p) (k1 : pK p = 4) (k2 : yk p = 4) : cc_Fin m d pK pD pS pP pF stk yk yn (fun P => wX_runTop_6 P (n + 1) (nI st) (nI m) (nI d) (nI (t.length + 1)) (nI h) (nI sc) (nI c) (nI ca) (-1) pK pD pS pP pF stk tP tS tD rK rV mK mV cP cS)
      (fun P => wY_work_55 P (n + 1) (nI m) (nI d) (nI e) (nI c) (nI (t.length + 1)) (nI h) (nI ca) (-4) yk pP yn pF stk me mt cl wa va ic) := by
  obtain ⟨b1, b2, b3, b4, b5, b6, b7⟩ := cc_J_len J (show 1 ≤ sz p by omega)
  obtain ⟨a1, q1, q2, a3, a4, a5, a6, a8, n1, q3⟩ := cc_J_top J
  have g : 2 * t.length + sz p ≤ 1224 := b2
  obtain ⟨h0, rfl⟩ : ∃ h0, h = h0 + 2 := ⟨cc_sm cc_c3 t, by have : h = 1 + cc_sm cc_c3 t + 1 := n1; omega⟩
  obtain ⟨v1, v2, v3⟩ : va h0 = rV h0 ∧ ic h0 = rK h0 ∧ cc_VK c (rK h0) (rV h0) := J.2.2.1 h0 (by omega)
  obtain ⟨v4, v5, v6⟩ : va (h0 + 1) = rV (h0 + 1) ∧ ic (h0 + 1) = rK (h0 + 1) ∧ cc_VK c (rK (h0 + 1)) (rV (h0 + 1)) := J.2.2.1 (h0 + 1) (by omega)
  have hN : ∀ P : Int32 → Prop, P 0 → wpX_topTaskNeedsPart P (nI m, nI d, nI (t.length + 1), nI (h0 + 2), nI sc, nI c, nI ca, -1, pK, pD, pS, pP, pF, stk, tP, tS, tD, rK, rV, mK, mV, cP, cS) :=
    fun P hP => xx_needs0 (nn := 2) (by omega) (by omega) (by omega) (by omega) a3 a5 (by omega) (fun P hP => by rw [k1]; exact xx_parts2 (o := 4) (by omega) hP) hP
  rcases v3 with v3 | ⟨v3, j, hj, v7⟩
  · refine ⟨nI (t.length + 1), nI h0, nI sc, nI c, nI ca, 2, nI e, nI t.length, nI h0, tP, tS, tD, rK, rV, mK, mV, cP, cS, me, mt, cl, wa, va, ic, fun z => absurd z (by decide), fun P H => ?_, fun P H => ?_⟩
    · exact xl_comp (n := n) (by omega) (by omega) hN (fun P hP => xc_apply0 (by omega) (by omega) (by omega) a3 a4 k1 v3 hP) (xl_end (by omega) (by decide) H)
    · exact yl_goOn (by omega) (by omega) (by omega) (by omega) (by omega) a6 (fun P hP => yg_apply0 (by omega) (by omega) k2 (v2.trans v3) hP) (yl_end (by omega) (by decide) H)
  · by_cases hca : ca = 60
    · refine ⟨nI (t.length + 1), nI h0, nI sc, nI c, nI ca, 3, nI e, nI t.length, nI h0, tP, tS, tD, rK, rV, mK, mV, cP, cS, me, mt, cl, wa, va, ic, fun z => absurd z (by decide), fun P H => ?_, fun P H => ?_⟩
      · exact xl_comp (n := n) (by omega) (by omega) hN (fun P hP => xc_apply1 (by omega) (by omega) (by omega) hca a3 a4 k1 v3 hP) (xl_end (by omega) (by decide) H)
      · exact yl_goOn (by omega) (by omega) (by omega) (by omega) (by omega) a6 (fun P hP => yg_apply1 (by omega) (by omega) hca k2 (v2.trans v3) hP) (yl_end (by omega) (by decide) H)
    · obtain ⟨p1, s1, l1, c1, c2, c3, c4, c5, c6⟩ := J.2.1 j hj
      obtain ⟨z1, z2, z3⟩ := hA p1 c1
      obtain ⟨w, f, q, hw, hf, hq, f1, f2, f3, f4, f5⟩ := cc_fn z3 c3
      obtain ⟨y1, y2, y3⟩ := hA q hq
      obtain ⟨b, hb, eb⟩ := cc_VK_b v6
      rw [eb] at v6
      have c2' : cc_Q sc e mK mV ek ew s1 l1 := c2
      obtain ⟨o1, o2⟩ := cc_os_c (A := mK) (w := w) (f := f) (x := nI b) (y := nI 1) c2'.1
      obtain ⟨o3, o4⟩ := cc_os_c (A := mV) (w := w) (f := f) (x := rV (h0 + 1)) (y := nI j) c2'.1
      obtain ⟨J1, M1⟩ := cc_J_call (mK' := upd (upd (cc_os mK sc s1 4) (sc * 4 + f) (nI 1)) (sc * 4 + w) (nI b)) (mV' := upd (upd (cc_os mV sc s1 4) (sc * 4 + f) (nI j)) (sc * 4 + w) (rV (h0 + 1))) (x := rV (h0 + 1)) J hq y1 (by omega) hz (by omega) hw hf hb hj v6 c2' (fun j hj => ⟨o1 j hj, o3 j hj⟩) (fun v hv => ⟨o2 v hv, o4 v hv⟩)
      have c21 := c2'.1
      have c22 := c2'.2.1
      refine cc_Fin_map (G (st + 1) J1 (by omega) (by omega)) (fun P H => ?_) (fun P H => ?_)
      · exact xl_comp (by omega) (by omega) hN (fun P hP => xc_apply2 (by omega) (by omega) (by omega) (by omega) (by omega) (by omega) (by omega) (by omega) hw hf a3 a4 k1 v3 v7 c4 c5 f1 f2 f4 eb hP) H
      · exact yl_goOn (by omega) (by omega) (by omega) (by omega) (by omega) a6 (fun P hP => yg_apply2 (by omega) (by omega) (by omega) (by omega) (by omega) (by omega) (by omega) hw hf hb k2 (v2.trans v3) (v1.trans v7) c6 f3 f4 (v5.trans eb) v4 hP) H
theorem cs_arith (G : cc_G m d pK pD pS pP pF stk yk yn sz rm n) (hm : m ≤ 24) (J : cc_J m pK sz rm ((p, s, 2, l) :: t) h e sc c ca ek ew tP tS tD rK rV mK mV cP cS me mt cl wa va ic)
    (hM : cc_M sz rm ((p, s, 2, l) :: t) c ca + 2 ≤ n + 1) (hs : st + cc_M sz rm ((p, s, 2, l) :: t) c ca < 900000) (hz : 3 ≤ sz p) {o : Nat} (ho : o < 4) (k1 : pK p = nI o) (k2 : yk p = nI o) : cc_Fin m d pK pD pS pP pF stk yk yn (fun P => wX_runTop_6 P (n + 1) (nI st) (nI m) (nI d) (nI (t.length + 1)) (nI h) (nI sc) (nI c) (nI ca) (-1) pK pD pS pP pF stk tP tS tD rK rV mK mV cP cS)
      (fun P => wY_work_55 P (n + 1) (nI m) (nI d) (nI e) (nI c) (nI (t.length + 1)) (nI h) (nI ca) (-4) yk pP yn pF stk me mt cl wa va ic) := by
  obtain ⟨b1, b2, b3, b4, b5, b6, b7⟩ := cc_J_len J (show 1 ≤ sz p by omega)
  obtain ⟨a1, q1, q2, a3, a4, a5, a6, a8, n1, q3⟩ := cc_J_top J
  have g : 2 * t.length + sz p ≤ 1224 := b2
  have hh : h = 1 + cc_sm cc_c3 t + 1 := n1
  obtain ⟨h0, rfl⟩ : ∃ h0, h = h0 + 2 := ⟨cc_sm cc_c3 t, by omega⟩
  have hh0 : h0 = cc_sm cc_c3 t := by omega
  obtain ⟨v1, v2, v3⟩ : va h0 = rV h0 ∧ ic h0 = rK h0 ∧ cc_VK c (rK h0) (rV h0) := J.2.2.1 h0 (by omega)
  obtain ⟨v4, v5, v6⟩ : va (h0 + 1) = rV (h0 + 1) ∧ ic (h0 + 1) = rK (h0 + 1) ∧ cc_VK c (rK (h0 + 1)) (rV (h0 + 1)) := J.2.2.1 (h0 + 1) (by omega)
  have hN : ∀ P : Int32 → Prop, P 0 → wpX_topTaskNeedsPart P (nI m, nI d, nI (t.length + 1), nI (h0 + 2), nI sc, nI c, nI ca, -1, pK, pD, pS, pP, pF, stk, tP, tS, tD, rK, rV, mK, mV, cP, cS) :=
    fun P hP => xx_needs0 (nn := 2) (by omega) (by omega) (by omega) (by omega) a3 a5 (by omega) (fun P hP => by rw [k1]; exact xx_parts2 (by omega) hP) hP
  by_cases hk : rK h0 = 0 ∧ rK (h0 + 1) = 0
  · obtain ⟨J1, M1⟩ := cc_J_pop J (show 1 ≤ sz p by omega) hh0 (Or.inl rfl : cc_VK c 0 (cc_ar o (rV h0) (rV (h0 + 1))))
    refine cc_Fin_map (G (st + 1) J1 (by omega) (by omega)) (fun P H => ?_) (fun P H => ?_)
    · exact xl_comp (by omega) (by omega) hN (fun P hP => xc_arith (by omega) (by omega) (by omega) ho a3 a4 k1 hk.1 hk.2 hP) H
    · exact yl_goOn (by omega) (by omega) (by omega) (by omega) (by omega) a6 (fun P hP => yg_arith (by omega) (by omega) ho k2 (v2.trans hk.1) (v5.trans hk.2) v1 v4 hP) H
  · refine ⟨nI (t.length + 1), nI h0, nI sc, nI c, nI ca, 2, nI e, nI t.length, nI h0, tP, tS, tD, rK, rV, mK, mV, cP, cS, me, mt, cl, wa, va, ic, fun z => absurd z (by decide), fun P H => ?_, fun P H => ?_⟩
    · exact xl_comp (n := n) (by omega) (by omega) hN (fun P hP => xc_arith0 (by omega) (by omega) (by omega) ho a3 a4 k1 hk hP) (xl_end (by omega) (by decide) H)
    · exact yl_goOn (by omega) (by omega) (by omega) (by omega) (by omega) a6 (fun P hP => yg_arith0 (by omega) (by omega) ho k2 (fun z => hk ⟨v2.symm.trans z.1, v5.symm.trans z.2⟩) hP) (yl_end (by omega) (by decide) H)
theorem cs_nil (hd : 0 < d) (J : cc_J m pK sz rm [] h e sc c ca ek ew tP tS tD rK rV mK mV cP cS me mt cl wa va ic) (hd6 : d ≤ 6) (hn : 1 ≤ n) (hs : st < 900000) :
    cc_Fin m d pK pD pS pP pF stk yk yn (fun P => wX_runTop_6 P (n + 1) (nI st) (nI m) (nI d) (nI 0) (nI h) (nI sc) (nI c) (nI ca) (-1) pK pD pS pP pF stk tP tS tD rK rV mK mV cP cS)
      (fun P => wY_work_55 P (n + 1) (nI m) (nI d) (nI e) (nI c) (nI 0) (nI h) (nI ca) (-4) yk pP yn pF stk me mt cl wa va ic) := by
  have n1 : h = 0 + 1 := J.2.2.2.2.1
  obtain ⟨v1, v2, v3⟩ : va 0 = rV 0 ∧ ic 0 = rK 0 ∧ cc_VK c (rK 0) (rV 0) := J.2.2.1 0 (by omega)
  refine ⟨nI 0, nI h, nI sc, nI c, nI ca, rK 0, nI e, nI 0, nI h, tP, tS, tD, rK, rV, mK, mV, cP, cS, me, mt, cl, wa, va, ic, fun _ => v1, fun P H => ?_, fun P H => ?_⟩
  · refine xl_nil (by omega) (xl_end hn ?_ H)
    rcases v3 with v3 | ⟨v3, _⟩
    · rw [v3]; decide
    · rw [v3]; decide
  · exact yl_nil hd hd6 v2 (v3.imp id (fun z => z.1)) H
end
theorem cc_run {m d : Nat} {pK pD pS pP pF stk yk yn : Nat → Int32} {sz rm : Nat → Nat} (hm : m ≤ 24) (hd : 0 < d) (hd6 : d ≤ 6) (hA : cc_Al m pK pD pS pP yk yn sz rm) : ∀ n : Nat, cc_G m d pK pD pS pP pF stk yk yn sz rm n := by
  intro n
  induction n with
  | zero => intro st T h e sc c ca ek ew tP tS tD rK rV mK mV cP cS me mt cl wa va ic J hM hs; omega
  | succ n G =>
    intro st T h e sc c ca ek ew tP tS tD rK rV mK mV cP cS me mt cl wa va ic J hM hs
    cases T with
    | nil => exact cs_nil hd J hd6 (by omega) (by omega)
    | cons x t =>
      obtain ⟨p, s, dd, l⟩ := x
      rw [List.length_cons]
      have hdk := (cc_J_top J).2.2.2.2.2.2.2.1
      obtain ⟨z1, z2, z3⟩ := hA p (cc_J_top J).1
      rcases z3 with ⟨h1, h2, h3, h4⟩ | ⟨h1, h2, h3, w, h4, h5, h6⟩ | ⟨h1, h2, w, f, b, h3, h4, h5, h6, h7, h8, h9, h10⟩ | ⟨h1, h2, a, b, c', h3, h4, h5, h6, h7, h8, h9, h10⟩ | ⟨h1, h2, w, a, b, h3, h4, h5, h6, h7, h8, h9, h10, h11⟩ | ⟨o, a, b, h3, h4, h5, h6, h7, h8, h9, h10, h11⟩
      · obtain rfl := cc_dk0 hdk (Or.inl h1)
        exact cs_number G hm J hM hs z1 h1 h2 h3
      · obtain rfl := cc_dk0 hdk (Or.inr (Or.inl h1))
        exact cs_name G hm J hM hs z1 h1 h2 h4 h5 h6
      · obtain rfl := cc_dk0 hdk (Or.inr (Or.inr h1))
        have := (hA b h5).1
        exact cs_function G hm J hM hs (by omega) h1 h2
      · have za := (hA a h3).1
        have zb := (hA b h4).1
        have zc := (hA c' h5).1
        rcases cc_dk1 hdk (Or.inl h1) with rfl | rfl
        · exact cs_next0 (nn := 1) G hm J hM hs h3 za (by omega) (by omega) (Or.inr (Or.inl ⟨rfl, Or.inl h1⟩)) (by omega) (by omega) (fun P hP => xx_parts1 (Or.inl h1) hP) (by rw [h2]; decide) (by rw [h2]; decide) (by rw [h2]; decide) h6
        · exact cs_choose G hm J hM hs h4 h5 zb zc h10 (by omega) h1 h2 h7 h8
      · have za := (hA a h4).1
        have zb := (hA b h5).1
        rcases cc_dk1 hdk (Or.inr h1) with rfl | rfl
        · exact cs_next0 (nn := 1) G hm J hM hs h4 za (by omega) (by omega) (Or.inr (Or.inl ⟨rfl, Or.inr (Or.inl h1)⟩)) (by omega) (by omega) (fun P hP => xx_parts1 (Or.inr h1) hP) (by rw [h2]; decide) (by rw [h2]; decide) (by rw [h2]; decide) h8
        · exact cs_bind G hm J hM hs h5 zb h11 (by omega) h3 h1 h2 h6 h7 h9
      · have za := (hA a h4).1
        have zb := (hA b h5).1
        obtain ⟨o5, o6, o7, o8, o9⟩ := cc_ko o h3
        rcases cc_dk2 hdk with rfl | rfl | rfl
        · exact cs_next0 (nn := 2) G hm J hM hs h4 za (by omega) (by omega) (Or.inr (Or.inl ⟨rfl, Or.inr (Or.inr ⟨o, h3, h6⟩)⟩)) (by omega) (by omega) (fun P hP => by rw [h6]; exact xx_parts2 h3 hP) (by rw [h7]; exact o7) (by rw [h7]; exact o8) (by rw [h7]; exact o9) h8
        · exact cs_next1 G hm J hM hs h5 zb h11 (by omega) h3 h6 h7 h9
        · by_cases ho : o = 4
          · subst ho
            exact cs_apply G hm hA J hM hs (by omega) h6 h7
          · exact cs_arith G hm J hM hs (by omega) (show o < 4 by omega) h6 h7
