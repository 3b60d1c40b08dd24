/-! the invariant of a run, and how each turn keeps it -/
def cc_J (m : Nat) (pK : Nat → Int32) (sz rm : Nat → Nat) (T : List (Nat × Nat × Nat × Nat)) (h e sc c ca : Nat) (ek ew : Nat → Nat → Int32)
    (tP tS tD rK rV mK mV cP cS me mt cl wa va ic : Nat → Int32) : Prop :=
  cc_TI m ca pK sz (cc_Q sc e mK mV ek ew) tP tS tD wa T ∧ cc_C m c (cc_Q sc e mK mV ek ew) pK cP cS cl ∧ cc_V h c rK rV va ic ∧ cc_E e c me mt ek ew ∧ cc_N sz rm T h e sc c ca
theorem cc_VK_b {c : Nat} {k w : Int32} (h : cc_VK c k w) : ∃ b, b < 2 ∧ k = nI b := by
  rcases h with h | ⟨h, _⟩
  · exact ⟨0, by omega, h⟩
  · exact ⟨1, by omega, h⟩
section
variable {m : Nat} {pK : Nat → Int32} {sz rm : Nat → Nat} {t : List (Nat × Nat × Nat × Nat)} {h h0 e sc c ca : Nat} {ek ew : Nat → Nat → Int32} {tP tS tD rK rV mK mV cP cS me mt cl wa va ic : Nat → Int32}
theorem cc_J_pop {x : Nat × Nat × Nat × Nat} {k w : Int32} (J : cc_J m pK sz rm (x :: t) h e sc c ca ek ew tP tS tD rK rV mK mV cP cS me mt cl wa va ic) (hz : 1 ≤ sz x.1) (hh : h0 = cc_sm cc_c3 t) (hv : cc_VK c k w) :
    cc_J m pK sz rm t (h0 + 1) e sc c ca ek ew tP tS tD (upd rK h0 k) (upd rV h0 w) mK mV cP cS me mt cl wa (upd va h0 w) (upd ic h0 k) ∧ cc_M sz rm t c ca < cc_M sz rm (x :: t) c ca := by
  obtain ⟨hT, hC, hV, hE, hN⟩ := J
  obtain ⟨n1, n2, n3, n4, n5⟩ := hN
  have e1 : cc_sm (cc_c1 sz rm) (x :: t) = cc_c1 sz rm x.1 x.2.2.1 + cc_sm (cc_c1 sz rm) t := rfl
  have e2 : cc_sm (cc_c2 sz rm) (x :: t) = cc_c2 sz rm x.1 x.2.2.1 + cc_sm (cc_c2 sz rm) t := rfl
  have e3 : cc_sm cc_c3 (x :: t) = cc_c3 x.1 x.2.2.1 + cc_sm cc_c3 t := rfl
  have e4 := cc_c1_pos (rm := rm) (d := x.2.2.1) hz
  have e5 := cc_b1 hT.1.2.2.2.2.2.2.2.2
  refine ⟨⟨hT.2, hC, cc_V_add (cc_V_lo (by omega) (Nat.le_refl c) hV) hv, hE, ⟨by rw [e5, hh], by omega, n3, n4, by omega⟩⟩, ?_⟩
  show cc_sm (cc_c1 sz rm) t + 59 * c + 691 * (60 - ca) < cc_sm (cc_c1 sz rm) (x :: t) + 59 * c + 691 * (60 - ca)
  omega
theorem cc_J_fun {p s l : Nat} (J : cc_J m pK sz rm ((p, s, 0, l) :: t) h e sc c ca ek ew tP tS tD rK rV mK mV cP cS me mt cl wa va ic) (hz : 2 ≤ sz p) (hk : pK p = 9) :
    cc_J m pK sz rm t (h + 1) e sc (c + 1) ca ek ew tP tS tD (upd rK h 1) (upd rV h (nI c)) mK mV (upd cP c (nI p)) (upd cS c (nI s)) me mt (upd cl c (nI (32 * l + p))) wa (upd va h (nI c)) (upd ic h 1) ∧ cc_M sz rm t (c + 1) ca < cc_M sz rm ((p, s, 0, l) :: t) c ca := by
  obtain ⟨hT, hC, hV, hE, hN⟩ := J
  obtain ⟨n1, n2, n3, n4, n5⟩ := hN
  have e1 : cc_sm (cc_c1 sz rm) ((p, s, 0, l) :: t) = 30 * sz p + cc_sm (cc_c1 sz rm) t := rfl
  have e2 : cc_sm (cc_c2 sz rm) ((p, s, 0, l) :: t) = (sz p - 1) + cc_sm (cc_c2 sz rm) t := rfl
  have e3 : cc_sm cc_c3 ((p, s, 0, l) :: t) = 0 + cc_sm cc_c3 t := rfl
  have e4 : cc_b (cc_hd ((p, s, 0, l) :: t)) = 0 := rfl
  have e5 := cc_b1 hT.1.2.2.2.2.2.2.2.2
  refine ⟨⟨hT.2, cc_C_add hC hT.1.1 hT.1.2.1 hk, cc_V_add (cc_V_lo (Nat.le_refl h) (Nat.le_succ c) hV) (Or.inr ⟨rfl, c, Nat.lt_succ_self c, rfl⟩), cc_E_c (Nat.le_succ c) hE, ⟨by rw [e5]; omega, by omega, n3, n4, by omega⟩⟩, ?_⟩
  show cc_sm (cc_c1 sz rm) t + 59 * (c + 1) + 691 * (60 - ca) < cc_sm (cc_c1 sz rm) ((p, s, 0, l) :: t) + 59 * c + 691 * (60 - ca)
  omega
theorem cc_J_next0 {p s l q : Nat} (J : cc_J m pK sz rm ((p, s, 0, l) :: t) h e sc c ca ek ew tP tS tD rK rV mK mV cP cS me mt cl wa va ic) (hq : q < m) (h1 : 1 ≤ sz q) (h2 : 1 ≤ rm p) (hz : sz p = 1 + sz q + rm p) (hd : cc_dk pK p 1) :
    cc_J m pK sz rm ((q, s, 0, l) :: (p, s, 1, l) :: t) h e sc c ca ek ew (upd tP (t.length + 1) (nI q)) (upd tS (t.length + 1) (nI s)) (upd (upd tD t.length (nI 1)) (t.length + 1) 0) rK rV mK mV cP cS me mt cl
      (upd (upd wa t.length (nI ((32 * l + p) * 4 + 1))) (t.length + 1) (nI ((32 * l + q) * 4 + 0))) va ic ∧ cc_M sz rm ((q, s, 0, l) :: (p, s, 1, l) :: t) c ca < cc_M sz rm ((p, s, 0, l) :: t) c ca := by
  obtain ⟨hT, hC, hV, hE, hN⟩ := J
  obtain ⟨n1, n2, n3, n4, n5⟩ := hN
  have e1 : cc_sm (cc_c1 sz rm) ((p, s, 0, l) :: t) = 30 * sz p + cc_sm (cc_c1 sz rm) t := rfl
  have e2 : cc_sm (cc_c2 sz rm) ((p, s, 0, l) :: t) = (sz p - 1) + cc_sm (cc_c2 sz rm) t := rfl
  have e3 : cc_sm cc_c3 ((p, s, 0, l) :: t) = 0 + cc_sm cc_c3 t := rfl
  have e4 : cc_b (cc_hd ((p, s, 0, l) :: t)) = 0 := rfl
  have f1 : cc_sm (cc_c1 sz rm) ((q, s, 0, l) :: (p, s, 1, l) :: t) = 30 * sz q + ((30 * rm p + 29) + cc_sm (cc_c1 sz rm) t) := rfl
  have f2 : cc_sm (cc_c2 sz rm) ((q, s, 0, l) :: (p, s, 1, l) :: t) = (sz q - 1) + ((rm p + 1) + cc_sm (cc_c2 sz rm) t) := rfl
  have f3 : cc_sm cc_c3 ((q, s, 0, l) :: (p, s, 1, l) :: t) = 0 + (0 + cc_sm cc_c3 t) := rfl
  have f4 : cc_b (cc_hd ((q, s, 0, l) :: (p, s, 1, l) :: t)) = 0 := rfl
  refine ⟨⟨cc_TI_next hT hq (by omega) hd, hC, hV, hE, ⟨by omega, by omega, n3, n4, by omega⟩⟩, ?_⟩
  show cc_sm (cc_c1 sz rm) ((q, s, 0, l) :: (p, s, 1, l) :: t) + 59 * c + 691 * (60 - ca) < cc_sm (cc_c1 sz rm) ((p, s, 0, l) :: t) + 59 * c + 691 * (60 - ca)
  omega
theorem cc_J_next1 {p s l q : Nat} (J : cc_J m pK sz rm ((p, s, 1, l) :: t) h e sc c ca ek ew tP tS tD rK rV mK mV cP cS me mt cl wa va ic) (hq : q < m) (h1 : 1 ≤ sz q) (h2 : rm p = sz q) (hz : sz q + 2 ≤ sz p) (hd : cc_dk pK p 2) :
    cc_J m pK sz rm ((q, s, 0, l) :: (p, s, 2, l) :: t) h e sc c ca ek ew (upd tP (t.length + 1) (nI q)) (upd tS (t.length + 1) (nI s)) (upd (upd tD t.length (nI 2)) (t.length + 1) 0) rK rV mK mV cP cS me mt cl
      (upd (upd wa t.length (nI ((32 * l + p) * 4 + 2))) (t.length + 1) (nI ((32 * l + q) * 4 + 0))) va ic ∧ cc_M sz rm ((q, s, 0, l) :: (p, s, 2, l) :: t) c ca < cc_M sz rm ((p, s, 1, l) :: t) c ca := by
  obtain ⟨hT, hC, hV, hE, hN⟩ := J
  obtain ⟨n1, n2, n3, n4, n5⟩ := hN
  have e1 : cc_sm (cc_c1 sz rm) ((p, s, 1, l) :: t) = (30 * rm p + 29) + cc_sm (cc_c1 sz rm) t := rfl
  have e2 : cc_sm (cc_c2 sz rm) ((p, s, 1, l) :: t) = (rm p + 1) + cc_sm (cc_c2 sz rm) t := rfl
  have e3 : cc_sm cc_c3 ((p, s, 1, l) :: t) = 0 + cc_sm cc_c3 t := rfl
  have e4 : cc_b (cc_hd ((p, s, 1, l) :: t)) = 1 := rfl
  have f1 : cc_sm (cc_c1 sz rm) ((q, s, 0, l) :: (p, s, 2, l) :: t) = 30 * sz q + (1 + cc_sm (cc_c1 sz rm) t) := rfl
  have f2 : cc_sm (cc_c2 sz rm) ((q, s, 0, l) :: (p, s, 2, l) :: t) = (sz q - 1) + (0 + cc_sm (cc_c2 sz rm) t) := rfl
  have f3 : cc_sm cc_c3 ((q, s, 0, l) :: (p, s, 2, l) :: t) = 0 + (1 + cc_sm cc_c3 t) := rfl
  have f4 : cc_b (cc_hd ((q, s, 0, l) :: (p, s, 2, l) :: t)) = 0 := rfl
  refine ⟨⟨cc_TI_next hT hq hz hd, hC, hV, hE, ⟨by omega, by omega, n3, n4, by omega⟩⟩, ?_⟩
  show cc_sm (cc_c1 sz rm) ((q, s, 0, l) :: (p, s, 2, l) :: t) + 59 * c + 691 * (60 - ca) < cc_sm (cc_c1 sz rm) ((p, s, 1, l) :: t) + 59 * c + 691 * (60 - ca)
  omega
theorem cc_J_choose {p s l q : Nat} (J : cc_J m pK sz rm ((p, s, 1, l) :: t) (h0 + 1) e sc c ca ek ew tP tS tD rK rV mK mV cP cS me mt cl wa va ic) (hq : q < m) (h1 : 1 ≤ sz q) (h2 : sz q ≤ rm p) (hz : sz q ≤ sz p) :
    cc_J m pK sz rm ((q, s, 0, l) :: t) h0 e sc c ca ek ew (upd tP t.length (nI q)) (upd tS t.length (nI s)) (upd tD t.length 0) rK rV mK mV cP cS me mt cl (upd wa t.length (nI ((32 * l + q) * 4 + 0))) va ic
      ∧ cc_M sz rm ((q, s, 0, l) :: t) c ca < cc_M sz rm ((p, s, 1, l) :: t) c ca := by
  obtain ⟨hT, hC, hV, hE, hN⟩ := J
  obtain ⟨n1, n2, n3, n4, n5⟩ := hN
  have e1 : cc_sm (cc_c1 sz rm) ((p, s, 1, l) :: t) = (30 * rm p + 29) + cc_sm (cc_c1 sz rm) t := rfl
  have e2 : cc_sm (cc_c2 sz rm) ((p, s, 1, l) :: t) = (rm p + 1) + cc_sm (cc_c2 sz rm) t := rfl
  have e3 : cc_sm cc_c3 ((p, s, 1, l) :: t) = 0 + cc_sm cc_c3 t := rfl
  have e4 : cc_b (cc_hd ((p, s, 1, l) :: t)) = 1 := rfl
  have f1 : cc_sm (cc_c1 sz rm) ((q, s, 0, l) :: t) = 30 * sz q + cc_sm (cc_c1 sz rm) t := rfl
  have f2 : cc_sm (cc_c2 sz rm) ((q, s, 0, l) :: t) = (sz q - 1) + cc_sm (cc_c2 sz rm) t := rfl
  have f3 : cc_sm cc_c3 ((q, s, 0, l) :: t) = 0 + cc_sm cc_c3 t := rfl
  have f4 : cc_b (cc_hd ((q, s, 0, l) :: t)) = 0 := rfl
  have g : 2 * t.length + sz p ≤ 24 + 20 * ca := hT.1.2.2.2.2.2.2.1
  refine ⟨⟨cc_TI_rep hT (Nat.le_refl ca) (fun _ _ z => z) hq hT.1.2.1 (by omega), hC, cc_V_lo (Nat.le_succ h0) (Nat.le_refl c) hV, hE, ⟨by omega, by omega, n3, n4, by omega⟩⟩, ?_⟩
  show cc_sm (cc_c1 sz rm) ((q, s, 0, l) :: t) + 59 * c + 691 * (60 - ca) < cc_sm (cc_c1 sz rm) ((p, s, 1, l) :: t) + 59 * c + 691 * (60 - ca)
  omega
theorem cc_J_bind {p s l q w b : Nat} {mK' mV' : Nat → Int32} {x : Int32} (J : cc_J m pK sz rm ((p, s, 1, l) :: t) (h0 + 1) e sc c ca ek ew tP tS tD rK rV mK mV cP cS me mt cl wa va ic) (hq : q < m) (h1 : 1 ≤ sz q) (h2 : sz q ≤ rm p) (hz : sz q ≤ sz p)
    (hw : w < 4) (hb : b < 2) (hv : cc_VK c (nI b) x) (hlo : ∀ j, j < sc * 4 → mK' j = mK j ∧ mV' j = mV j) (hnew : ∀ v, v < 4 → mK' (sc * 4 + v) = (if v = w then nI b else mK (s * 4 + v)) ∧ mV' (sc * 4 + v) = (if v = w then x else mV (s * 4 + v))) :
    cc_J m pK sz rm ((q, sc, 0, e + 1) :: t) h0 (e + 1) (sc + 1) c ca (cc_xe ek e l w (nI b)) (cc_xe ew e l w x) (upd tP t.length (nI q)) (upd tS t.length (nI sc)) (upd tD t.length 0) rK rV mK' mV' cP cS (upd me e (nI (8 * l + 2 * w + b))) (upd mt e x) cl (upd wa t.length (nI ((32 * (e + 1) + q) * 4 + 0))) va ic
      ∧ cc_M sz rm ((q, sc, 0, e + 1) :: t) c ca < cc_M sz rm ((p, s, 1, l) :: t) c ca := by
  obtain ⟨hT, hC, hV, hE, hN⟩ := J
  obtain ⟨n1, n2, n3, n4, n5⟩ := hN
  have e1 : cc_sm (cc_c1 sz rm) ((p, s, 1, l) :: t) = (30 * rm p + 29) + cc_sm (cc_c1 sz rm) t := rfl
  have e2 : cc_sm (cc_c2 sz rm) ((p, s, 1, l) :: t) = (rm p + 1) + cc_sm (cc_c2 sz rm) t := rfl
  have e3 : cc_sm cc_c3 ((p, s, 1, l) :: t) = 0 + cc_sm cc_c3 t := rfl
  have e4 : cc_b (cc_hd ((p, s, 1, l) :: t)) = 1 := rfl
  have f1 : cc_sm (cc_c1 sz rm) ((q, sc, 0, e + 1) :: t) = 30 * sz q + cc_sm (cc_c1 sz rm) t := rfl
  have f2 : cc_sm (cc_c2 sz rm) ((q, sc, 0, e + 1) :: t) = (sz q - 1) + cc_sm (cc_c2 sz rm) t := rfl
  have f3 : cc_sm cc_c3 ((q, sc, 0, e + 1) :: t) = 0 + cc_sm cc_c3 t := rfl
  have f4 : cc_b (cc_hd ((q, sc, 0, e + 1) :: t)) = 0 := rfl
  have g : 2 * t.length + sz p ≤ 24 + 20 * ca := hT.1.2.2.2.2.2.2.1
  obtain ⟨q1, q2, q3⟩ : cc_Q sc e mK mV ek ew s l := hT.1.2.1
  have hQ : ∀ s1 l1, cc_Q sc e mK mV ek ew s1 l1 → cc_Q (sc + 1) (e + 1) mK' mV' (cc_xe ek e l w (nI b)) (cc_xe ew e l w x) s1 l1 :=
    cc_Q_up (Nat.le_succ sc) (Nat.le_succ e) hlo (fun l1 v hl1 => ⟨cc_xe_n (by omega), cc_xe_n (by omega)⟩)
  have hQn : cc_Q (sc + 1) (e + 1) mK' mV' (cc_xe ek e l w (nI b)) (cc_xe ew e l w x) sc (e + 1) := by
    refine ⟨Nat.lt_succ_self sc, Nat.le_refl _, fun v hv1 => ?_⟩
    obtain ⟨k1, k2⟩ := hnew v hv1
    obtain ⟨k3, k4⟩ := q3 v hv1
    rw [cc_xe_s, cc_xe_s, k1, k2, k3, k4]
    exact ⟨rfl, rfl⟩
  refine ⟨⟨cc_TI_rep hT (Nat.le_refl ca) hQ hq hQn (by omega), cc_C_up hQ hC, cc_V_lo (Nat.le_succ h0) (Nat.le_refl c) hV, cc_E_add hE q2 hw hb hv, ⟨by omega, by omega, by omega, n4, by omega⟩⟩, ?_⟩
  show cc_sm (cc_c1 sz rm) ((q, sc, 0, e + 1) :: t) + 59 * c + 691 * (60 - ca) < cc_sm (cc_c1 sz rm) ((p, s, 1, l) :: t) + 59 * c + 691 * (60 - ca)
  omega
theorem cc_J_call {p s l q w b f s1 l1 j : Nat} {mK' mV' : Nat → Int32} {x : Int32} (J : cc_J m pK sz rm ((p, s, 2, l) :: t) (h0 + 2) e sc c ca ek ew tP tS tD rK rV mK mV cP cS me mt cl wa va ic) (hq : q < m) (h1 : 1 ≤ sz q) (h2 : sz q ≤ 23) (hz : 3 ≤ sz p) (hca : ca < 60)
    (hw : w < 4) (hf : f < 4) (hb : b < 2) (hj : j < c) (hv : cc_VK c (nI b) x) (hQ1 : cc_Q sc e mK mV ek ew s1 l1) (hlo : ∀ j, j < sc * 4 → mK' j = mK j ∧ mV' j = mV j)
    (hnew : ∀ v, v < 4 → mK' (sc * 4 + v) = (if v = w then nI b else if v = f then nI 1 else mK (s1 * 4 + v)) ∧ mV' (sc * 4 + v) = (if v = w then x else if v = f then nI j else mV (s1 * 4 + v))) :
    cc_J m pK sz rm ((q, sc, 0, e + 2) :: t) h0 (e + 2) (sc + 1) c (ca + 1) (cc_xe (cc_xe ek e l1 f (nI 1)) (e + 1) (e + 1) w (nI b)) (cc_xe (cc_xe ew e l1 f (nI j)) (e + 1) (e + 1) w x) (upd tP t.length (nI q)) (upd tS t.length (nI sc)) (upd tD t.length 0) rK rV mK' mV' cP cS
        (upd (upd me e (nI (8 * l1 + 2 * f + 1))) (e + 1) (nI (8 * (e + 1) + 2 * w + b))) (upd (upd mt e (nI j)) (e + 1) x) cl (upd wa t.length (nI ((32 * (e + 2) + q) * 4 + 0))) va ic
      ∧ cc_M sz rm ((q, sc, 0, e + 2) :: t) c (ca + 1) < cc_M sz rm ((p, s, 2, l) :: t) c ca := by
  obtain ⟨hT, hC, hV, hE, hN⟩ := J
  obtain ⟨n1, n2, n3, n4, n5⟩ := hN
  have e1 : cc_sm (cc_c1 sz rm) ((p, s, 2, l) :: t) = 1 + cc_sm (cc_c1 sz rm) t := rfl
  have e2 : cc_sm (cc_c2 sz rm) ((p, s, 2, l) :: t) = 0 + cc_sm (cc_c2 sz rm) t := rfl
  have e3 : cc_sm cc_c3 ((p, s, 2, l) :: t) = 1 + cc_sm cc_c3 t := rfl
  have e4 : cc_b (cc_hd ((p, s, 2, l) :: t)) = 1 := rfl
  have f1 : cc_sm (cc_c1 sz rm) ((q, sc, 0, e + 2) :: t) = 30 * sz q + cc_sm (cc_c1 sz rm) t := rfl
  have f2 : cc_sm (cc_c2 sz rm) ((q, sc, 0, e + 2) :: t) = (sz q - 1) + cc_sm (cc_c2 sz rm) t := rfl
  have f3 : cc_sm cc_c3 ((q, sc, 0, e + 2) :: t) = 0 + cc_sm cc_c3 t := rfl
  have f4 : cc_b (cc_hd ((q, sc, 0, e + 2) :: t)) = 0 := rfl
  have g : 2 * t.length + sz p ≤ 24 + 20 * ca := hT.1.2.2.2.2.2.2.1
  obtain ⟨q1, q2, q3⟩ := hQ1
  have hQ : ∀ s1' l1', cc_Q sc e mK mV ek ew s1' l1' → cc_Q (sc + 1) (e + 2) mK' mV' (cc_xe (cc_xe ek e l1 f (nI 1)) (e + 1) (e + 1) w (nI b)) (cc_xe (cc_xe ew e l1 f (nI j)) (e + 1) (e + 1) w x) s1' l1' :=
    cc_Q_up (Nat.le_succ sc) (by omega) hlo (fun l2 v hl2 => ⟨(cc_xe_n (by omega)).trans (cc_xe_n (by omega)), (cc_xe_n (by omega)).trans (cc_xe_n (by omega))⟩)
  have hQn : cc_Q (sc + 1) (e + 2) mK' mV' (cc_xe (cc_xe ek e l1 f (nI 1)) (e + 1) (e + 1) w (nI b)) (cc_xe (cc_xe ew e l1 f (nI j)) (e + 1) (e + 1) w x) sc (e + 2) := by
    refine ⟨Nat.lt_succ_self sc, Nat.le_refl _, fun v hv1 => ?_⟩
    obtain ⟨k1, k2⟩ := hnew v hv1
    obtain ⟨k3, k4⟩ := q3 v hv1
    have a1 : cc_xe (cc_xe ek e l1 f (nI 1)) (e + 1) (e + 1) w (nI b) (e + 2) v = if v = w then nI b else if v = f then nI 1 else ek l1 v := by
      rw [show e + 2 = (e + 1) + 1 from rfl, cc_xe_s, cc_xe_s]
    have a2 : cc_xe (cc_xe ew e l1 f (nI j)) (e + 1) (e + 1) w x (e + 2) v = if v = w then x else if v = f then nI j else ew l1 v := by
      rw [show e + 2 = (e + 1) + 1 from rfl, cc_xe_s, cc_xe_s]
    rw [a1, a2, k1, k2, k3, k4]
    exact ⟨rfl, rfl⟩
  refine ⟨⟨cc_TI_rep hT (Nat.le_succ ca) hQ hq hQn (by omega), cc_C_up hQ hC, cc_V_lo (by omega) (Nat.le_refl c) hV, cc_E_add (cc_E_add hE q2 hf (by omega) (Or.inr ⟨rfl, j, hj, rfl⟩)) (Nat.le_refl _) hw hb hv, ⟨by omega, by omega, by omega, by omega, by omega⟩⟩, ?_⟩
  show cc_sm (cc_c1 sz rm) ((q, sc, 0, e + 2) :: t) + 59 * c + 691 * (60 - (ca + 1)) < cc_sm (cc_c1 sz rm) ((p, s, 2, l) :: t) + 59 * c + 691 * (60 - ca)
  omega
/-- what the bounds say -/
theorem cc_J_len {x : Nat × Nat × Nat × Nat} (J : cc_J m pK sz rm (x :: t) h e sc c ca ek ew tP tS tD rK rV mK mV cP cS me mt cl wa va ic) (hz : 1 ≤ sz x.1) : t.length ≤ 611 ∧ 2 * t.length + sz x.1 ≤ 1224 ∧ h ≤ 613 ∧ 2 * e + cc_sm (cc_c2 sz rm) (x :: t) + 26 * (60 - ca) ≤ 1583 ∧ sc ≤ e + 1 ∧ ca ≤ 60 ∧ c ≤ 714 := by
  obtain ⟨hT, hC, hV, hE, n1, n2, n3, n4, n5⟩ := J
  have g : 2 * t.length + sz x.1 ≤ 24 + 20 * ca := hT.1.2.2.2.2.2.2.1
  have g2 := cc_c3_len (x :: t)
  have g3 : (x :: t).length = t.length + 1 := rfl
  have g4 : cc_b (cc_hd (x :: t)) ≤ 1 := by
    generalize cc_hd (x :: t) = d
    cases d with
    | zero => exact Nat.zero_le 1
    | succ d => exact Nat.le_refl 1
  refine ⟨by omega, by omega, by omega, n2, n3, n4, by omega⟩
end
