/-! what is owed -/
def i_Rel (k : Nat) (u : SX) (v : SY) : Prop :=
  ∃ (m d : Nat) (tC rC sC cC kC en li yc wt he yl ye : Int32) (pK pD pS pP pF stk tP tS tD rK rV mK mV cP cS yk yn me mt cl wa va ic : Nat → Int32),
    u = (nI m, nI d, tC, rC, sC, cC, kC, en, pK, pD, pS, pP, pF, stk, tP, tS, tD, rK, rV, mK, mV, cP, cS) ∧ v = (nI m, nI d, li, yc, wt, he, yl, ye, yk, pP, yn, pF, stk, me, mt, cl, wa, va, ic) ∧ cc_Sr m d pK pD pS pP yk yn stk
theorem cc_rel {k m d : Nat} {tC rC sC cC kC en li yc wt he yl ye : Int32} {pK pD pS pP pF stk tP tS tD rK rV mK mV cP cS yk yn me mt cl wa va ic : Nat → Int32} (S : cc_Sr m d pK pD pS pP yk yn stk) : i_Rel k (nI m, nI d, tC, rC, sC, cC, kC, en, pK, pD, pS, pP, pF, stk, tP, tS, tD, rK, rV, mK, mV, cP, cS) (nI m, nI d, li, yc, wt, he, yl, ye, yk, pP, yn, pF, stk, me, mt, cl, wa, va, ic) :=
  ⟨m, d, tC, rC, sC, cC, kC, en, li, yc, wt, he, yl, ye, pK, pD, pS, pP, pF, stk, tP, tS, tD, rK, rV, mK, mV, cP, cS, yk, yn, me, mt, cl, wa, va, ic, rfl, rfl, S⟩
theorem cc_Sr0 {pK pD pS pP yk yn stk : Nat → Int32} : cc_Sr 0 0 pK pD pS pP yk yn stk :=
  ⟨by omega, by omega, fun i hi => absurd hi (Nat.not_lt_zero i), fun _ => 1, fun _ => 1, fun i hi => absurd hi (Nat.not_lt_zero i), Nat.le_refl 0⟩
theorem i_up {k : Nat} {u : SX} {v : SY} (h : i_Rel k u v) : i_Rel (k + 3) u v := h
theorem i_vc0 : wpX_init (fun u => wpY_init (fun v => i_Rel 0 u v)) := cc_rel (k := 0) (m := 0) (d := 0) cc_Sr0
theorem i_vc_number {k : Nat} {u : SX} {v : SY} (I : i_Rel k u v) (hk : k + 3 ≤ 1536) (v1 : Int32) : wpX_number (fun r u' => wpY_number (fun r' v' => r' = r ∧ i_Rel (k + 3) u' v') v v1) u v1 := by
  obtain ⟨m, d, tC, rC, sC, cC, kC, en, li, yc, wt, he, yl, ye, pK, pD, pS, pP, pF, stk, tP, tS, tD, rK, rV, mK, mV, cP, cS, yk, yn, me, mt, cl, wa, va, ic, rfl, rfl, S⟩ := I
  have h24 : m ≤ 24 := S.1
  have h6 : d ≤ 6 := S.2.1
  by_cases h1 : v1 < -9
  · exact xo_number_bad (Or.inl h1) (yo_number_bad (Or.inl h1) ⟨rfl, cc_rel S⟩)
  · by_cases h2 : v1 ≤ 9
    · by_cases h : m = 24 ∨ d = 6
      · exact xo_number_full h1 h2 h (yo_number_full h1 h2 h ⟨rfl, cc_rel S⟩)
      · have hm : m < 24 := by omega
        have hd : d < 6 := by omega
        exact xo_number_ok h1 h2 hm hd (yo_number_ok h1 h2 hm hd ⟨rfl, cc_rel (cc_mk_number S hm hd)⟩)
    · exact xo_number_bad (Or.inr h2) (yo_number_bad (Or.inr h2) ⟨rfl, cc_rel S⟩)
theorem i_vc_name {k : Nat} {u : SX} {v : SY} (I : i_Rel k u v) (hk : k + 3 ≤ 1536) (v1 : Int32) : wpX_name (fun r u' => wpY_name (fun r' v' => r' = r ∧ i_Rel (k + 3) u' v') v v1) u v1 := by
  obtain ⟨m, d, tC, rC, sC, cC, kC, en, li, yc, wt, he, yl, ye, pK, pD, pS, pP, pF, stk, tP, tS, tD, rK, rV, mK, mV, cP, cS, yk, yn, me, mt, cl, wa, va, ic, rfl, rfl, S⟩ := I
  have h24 : m ≤ 24 := S.1
  have h6 : d ≤ 6 := S.2.1
  rcases pk_ix v1 (n := 4) (by decide) with z | z | ⟨w, hw, rfl⟩
  · exact xo_name_bad (Or.inl z) (yo_name_bad (Or.inl z) ⟨rfl, cc_rel S⟩)
  · exact xo_name_bad (Or.inr z) (yo_name_bad (Or.inr z) ⟨rfl, cc_rel S⟩)
  · by_cases h : m = 24 ∨ d = 6
    · exact xo_name_full hw h (yo_name_full hw h ⟨rfl, cc_rel S⟩)
    · have hm : m < 24 := by omega
      have hd : d < 6 := by omega
      exact xo_name_ok hw hm hd (yo_name_ok hw hm hd ⟨rfl, cc_rel (cc_mk_name S hm hd hw)⟩)
theorem i_vc_two {k : Nat} {u : SX} {v : SY} (I : i_Rel k u v) (hk : k + 3 ≤ 1536) (v1 : Int32) : wpX_two (fun r u' => wpY_two (fun r' v' => r' = r ∧ i_Rel (k + 3) u' v') v v1) u v1 := by
  obtain ⟨m, d, tC, rC, sC, cC, kC, en, li, yc, wt, he, yl, ye, pK, pD, pS, pP, pF, stk, tP, tS, tD, rK, rV, mK, mV, cP, cS, yk, yn, me, mt, cl, wa, va, ic, rfl, rfl, S⟩ := I
  have h24 : m ≤ 24 := S.1
  have h6 : d ≤ 6 := S.2.1
  have hS : ∀ j, j < d → ∃ q, q < 24 ∧ stk j = nI q := fun j hj => (S.2.2.1 j hj).imp (fun q hq => ⟨Nat.lt_of_lt_of_le hq.1 h24, hq.2⟩)
  rcases pk_ix v1 (n := 5) (by decide) with z | z | ⟨o, ho, rfl⟩
  · exact xo_two_bad (Or.inl z) (yo_two_bad h6 hS (Or.inl z) ⟨rfl, cc_rel S⟩)
  · have z2 : ¬ v1 ≤ 4 := Int32.not_le.mpr (cc_ge v1 (n := 4) (by decide) z)
    exact xo_two_bad (Or.inr z2) (yo_two_bad h6 hS (Or.inr z2) ⟨rfl, cc_rel S⟩)
  · by_cases hm : m = 24
    · exact xo_two_full ho hm (yo_two_full ho h6 hS hm ⟨rfl, cc_rel S⟩)
    · have hm : m < 24 := by omega
      by_cases hd : d < 2
      · exact xo_two_few ho hm hd (yo_two_few ho h6 hS hm hd ⟨rfl, cc_rel S⟩)
      · obtain ⟨g, rfl⟩ : ∃ g, d = g + 2 := ⟨d - 2, by omega⟩
        obtain ⟨a, ha, ea⟩ := hS g (by omega)
        obtain ⟨b, hb, eb⟩ := hS (g + 1) (by omega)
        refine xo_two_ok ho hm h6 ha hb ea eb (yo_two_ok ho h6 hS hm ?_ ⟨rfl, cc_rel (cc_mk_two S hm ho)⟩)
        rw [cc_fa_at (i := 0) (j := g + 1) (by omega) (by omega) hb eb, cc_fa_at (i := 1) (j := g) (by omega) (by omega) ha ea, Int32.or_comm]
theorem i_vc_choose {k : Nat} {u : SX} {v : SY} (I : i_Rel k u v) (hk : k + 3 ≤ 1536) : wpX_choose (fun r u' => wpY_choose (fun r' v' => r' = r ∧ i_Rel (k + 3) u' v') v) u := by
  obtain ⟨m, d, tC, rC, sC, cC, kC, en, li, yc, wt, he, yl, ye, pK, pD, pS, pP, pF, stk, tP, tS, tD, rK, rV, mK, mV, cP, cS, yk, yn, me, mt, cl, wa, va, ic, rfl, rfl, S⟩ := I
  have h24 : m ≤ 24 := S.1
  have h6 : d ≤ 6 := S.2.1
  have hS : ∀ j, j < d → ∃ q, q < 24 ∧ stk j = nI q := fun j hj => (S.2.2.1 j hj).imp (fun q hq => ⟨Nat.lt_of_lt_of_le hq.1 h24, hq.2⟩)
  by_cases hm : m = 24
  · exact xo_choose_full  hm (yo_choose_full  h6 hS hm ⟨rfl, cc_rel S⟩)
  · have hm : m < 24 := by omega
    by_cases hd : d < 3
    · exact xo_choose_few  hm hd (yo_choose_few  h6 hS hm hd ⟨rfl, cc_rel S⟩)
    · obtain ⟨g, rfl⟩ : ∃ g, d = g + 3 := ⟨d - 3, by omega⟩
      obtain ⟨a, ha, ea⟩ := hS g (by omega)
      obtain ⟨b, hb, eb⟩ := hS (g + 1) (by omega)
      obtain ⟨c, hc, ec⟩ := hS (g + 2) (by omega)
      refine xo_choose_ok  hm h6 ha hb hc ea eb ec (yo_choose_ok  h6 hS hm ?_ ⟨rfl, cc_rel (cc_mk_choose S hm)⟩)
      rw [cc_fa_at (i := 0) (j := g + 2) (by omega) (by omega) hc ec, cc_fa_at (i := 1) (j := g + 1) (by omega) (by omega) hb eb, cc_fa_at (i := 2) (j := g) (by omega) (by omega) ha ea, Int32.or_comm, Int32.or_comm (pF c), Int32.or_assoc]
theorem i_vc_bind {k : Nat} {u : SX} {v : SY} (I : i_Rel k u v) (hk : k + 3 ≤ 1536) (v1 : Int32) : wpX_bind (fun r u' => wpY_bind (fun r' v' => r' = r ∧ i_Rel (k + 3) u' v') v v1) u v1 := by
  obtain ⟨m, d, tC, rC, sC, cC, kC, en, li, yc, wt, he, yl, ye, pK, pD, pS, pP, pF, stk, tP, tS, tD, rK, rV, mK, mV, cP, cS, yk, yn, me, mt, cl, wa, va, ic, rfl, rfl, S⟩ := I
  have h24 : m ≤ 24 := S.1
  have h6 : d ≤ 6 := S.2.1
  have hS : ∀ j, j < d → ∃ q, q < 24 ∧ stk j = nI q := fun j hj => (S.2.2.1 j hj).imp (fun q hq => ⟨Nat.lt_of_lt_of_le hq.1 h24, hq.2⟩)
  rcases pk_ix v1 (n := 4) (by decide) with z | z | ⟨w, hw, rfl⟩
  · exact xo_bind_bad (Or.inl z) (yo_bind_bad (Or.inl z) ⟨rfl, cc_rel S⟩)
  · exact xo_bind_bad (Or.inr z) (yo_bind_bad (Or.inr z) ⟨rfl, cc_rel S⟩)
  · by_cases hm : m = 24
    · exact xo_bind_full hw hm (yo_bind_full hw h6 hS hm ⟨rfl, cc_rel S⟩)
    · have hm : m < 24 := by omega
      by_cases hd : d < 2
      · exact xo_bind_few hw hm hd (yo_bind_few hw h6 hS hm hd ⟨rfl, cc_rel S⟩)
      · obtain ⟨g, rfl⟩ : ∃ g, d = g + 2 := ⟨d - 2, by omega⟩
        obtain ⟨a, ha, ea⟩ := hS g (by omega)
        obtain ⟨b, hb, eb⟩ := hS (g + 1) (by omega)
        refine xo_bind_ok hw hm h6 ha hb ea eb (yo_bind_ok hw h6 hS hm ?_ ⟨rfl, cc_rel (cc_mk_bind S hm hw)⟩)
        rw [cc_fa_at (i := 0) (j := g + 1) (by omega) (by omega) hb eb, cc_fa_at (i := 1) (j := g) (by omega) (by omega) ha ea]
theorem i_vc_function {k : Nat} {u : SX} {v : SY} (I : i_Rel k u v) (hk : k + 3 ≤ 1536) (v1 : Int32) (v2 : Int32) : wpX_function (fun r u' => wpY_function (fun r' v' => r' = r ∧ i_Rel (k + 3) u' v') v v1 v2) u v1 v2 := by
  obtain ⟨m, d, tC, rC, sC, cC, kC, en, li, yc, wt, he, yl, ye, pK, pD, pS, pP, pF, stk, tP, tS, tD, rK, rV, mK, mV, cP, cS, yk, yn, me, mt, cl, wa, va, ic, rfl, rfl, S⟩ := I
  have h24 : m ≤ 24 := S.1
  have h6 : d ≤ 6 := S.2.1
  have hS : ∀ j, j < d → ∃ q, q < 24 ∧ stk j = nI q := fun j hj => (S.2.2.1 j hj).imp (fun q hq => ⟨Nat.lt_of_lt_of_le hq.1 h24, hq.2⟩)
  rcases pk_ix v1 (n := 4) (by decide) with z | z | ⟨f, hf, rfl⟩
  · exact xo_function_bad (Or.inl z) (yo_function_bad (Or.inl z) ⟨rfl, cc_rel S⟩)
  · exact xo_function_bad (Or.inr z) (yo_function_bad (Or.inr z) ⟨rfl, cc_rel S⟩)
  · rcases pk_ix v2 (n := 4) (by decide) with z | z | ⟨w, hw, rfl⟩
    · exact xo_function_bad2 hf (Or.inl z) (yo_function_bad2 hf (Or.inl z) ⟨rfl, cc_rel S⟩)
    · exact xo_function_bad2 hf (Or.inr z) (yo_function_bad2 hf (Or.inr z) ⟨rfl, cc_rel S⟩)
    · by_cases hm : m = 24
      · exact xo_function_full hf hw hm (yo_function_full hf hw h6 hS hm ⟨rfl, cc_rel S⟩)
      · have hm : m < 24 := by omega
        by_cases hd : d < 1
        · exact xo_function_few hf hw hm hd (yo_function_few hf hw h6 hS hm hd ⟨rfl, cc_rel S⟩)
        · obtain ⟨g, rfl⟩ : ∃ g, d = g + 1 := ⟨d - 1, by omega⟩
          obtain ⟨a, ha, ea⟩ := hS g (by omega)
          refine xo_function_ok hf hw hm h6 ha ea (yo_function_ok hf hw h6 hS hm ?_ ⟨rfl, cc_rel (cc_mk_function S hm hw hf)⟩)
          rw [cc_fa_at (i := 0) (j := g) (by omega) (by omega) ha ea, Int32.and_assoc, Int32.and_assoc, Int32.and_comm (((1 : Int32) <<< (nI f &&& 31)) ^^^ (-1))]
theorem i_vc_discard {k : Nat} {u : SX} {v : SY} (I : i_Rel k u v) (hk : k + 3 ≤ 1536) : wpX_discard (fun u' => wpY_discard (fun v' => i_Rel (k + 3) u' v') v) u := by
  obtain ⟨m, d, tC, rC, sC, cC, kC, en, li, yc, wt, he, yl, ye, pK, pD, pS, pP, pF, stk, tP, tS, tD, rK, rV, mK, mV, cP, cS, yk, yn, me, mt, cl, wa, va, ic, rfl, rfl, S⟩ := I
  have h24 : m ≤ 24 := S.1
  have h6 : d ≤ 6 := S.2.1
  exact cc_rel (k := k + 3) (m := 0) (d := 0) cc_Sr0
theorem i_vc_depth {k : Nat} {u : SX} {v : SY} (I : i_Rel k u v) (hk : k + 3 ≤ 1536) : wpX_depth (fun r => wpY_depth (fun r' => r' = r ∧ i_Rel (k + 3) u v) v) u := by
  obtain ⟨m, d, tC, rC, sC, cC, kC, en, li, yc, wt, he, yl, ye, pK, pD, pS, pP, pF, stk, tP, tS, tD, rK, rV, mK, mV, cP, cS, yk, yn, me, mt, cl, wa, va, ic, rfl, rfl, S⟩ := I
  have h24 : m ≤ 24 := S.1
  have h6 : d ≤ 6 := S.2.1
  exact ⟨rfl, cc_rel S⟩
theorem i_vc_made {k : Nat} {u : SX} {v : SY} (I : i_Rel k u v) (hk : k + 3 ≤ 1536) : wpX_made (fun r => wpY_made (fun r' => r' = r ∧ i_Rel (k + 3) u v) v) u := by
  obtain ⟨m, d, tC, rC, sC, cC, kC, en, li, yc, wt, he, yl, ye, pK, pD, pS, pP, pF, stk, tP, tS, tD, rK, rV, mK, mV, cP, cS, yk, yn, me, mt, cl, wa, va, ic, rfl, rfl, S⟩ := I
  have h24 : m ≤ 24 := S.1
  have h6 : d ≤ 6 := S.2.1
  exact ⟨rfl, cc_rel S⟩
theorem i_vc_run {k : Nat} {u : SX} {v : SY} (I : i_Rel k u v) (hk : k + 3 ≤ 1536) : wpX_run (fun r u' => wpY_run (fun r' v' => r' = r ∧ i_Rel (k + 3) u' v') v) u := by
  obtain ⟨m, d, tC, rC, sC, cC, kC, en, li, yc, wt, he, yl, ye, pK, pD, pS, pP, pF, stk, tP, tS, tD, rK, rV, mK, mV, cP, cS, yk, yn, me, mt, cl, wa, va, ic, rfl, rfl, S⟩ := I
  have h24 : m ≤ 24 := S.1
  have h6 : d ≤ 6 := S.2.1
  unfold wpX_run
  dsimp only
  by_cases hd : d = 0
  · subst hd
    refine br_t nI_0 ?_
    unfold wpY_run
    dsimp only
    exact yy_work0 ⟨rfl, cc_rel S⟩
  · have hd0 : ¬ nI d = 0 := nI_ne0 (by omega) (by omega)
    obtain ⟨tC', rC', sC', cC', kC', en', li', wt', he', tP', tS', tD', rK', rV', mK', mV', cP', cS', me', mt', cl', wa', va', ic', g1, g2, g3⟩ := cc_top (pF := pF) (tC := tC) (rC := rC) (sC := sC) (cC := cC) (kC := kC) (en := en) (li := li) (yc := yc) (wt := wt) (he := he) (yl := yl) (ye := ye) (tP := tP) (tS := tS) (tD := tD) (rK := rK) (rV := rV) (mK := mK) (mV := mV) (cP := cP) (cS := cS) (me := me) (mt := mt) (cl := cl) (wa := wa) (va := va) (ic := ic) S (by omega)
    refine br_f hd0 (g2 _ ?_)
    dsimp only
    unfold wpY_run
    dsimp only
    exact g3 _ ⟨rfl, cc_rel S⟩
theorem i_vc_value {k : Nat} {u : SX} {v : SY} (I : i_Rel k u v) (hk : k + 3 ≤ 1536) : wpX_value (fun r u' => wpY_value (fun r' v' => r' = r ∧ i_Rel (k + 3) u' v') v) u := by
  obtain ⟨m, d, tC, rC, sC, cC, kC, en, li, yc, wt, he, yl, ye, pK, pD, pS, pP, pF, stk, tP, tS, tD, rK, rV, mK, mV, cP, cS, yk, yn, me, mt, cl, wa, va, ic, rfl, rfl, S⟩ := I
  have h24 : m ≤ 24 := S.1
  have h6 : d ≤ 6 := S.2.1
  unfold wpX_value
  dsimp only
  by_cases hd : d = 0
  · subst hd
    refine br_t nI_0 ?_
    unfold wpY_value
    dsimp only
    exact yy_work0 (br_f (show ¬ (-4 : Int32) = 0 by decide) ⟨rfl, cc_rel S⟩)
  · have hd0 : ¬ nI d = 0 := nI_ne0 (by omega) (by omega)
    obtain ⟨tC', rC', sC', cC', kC', en', li', wt', he', tP', tS', tD', rK', rV', mK', mV', cP', cS', me', mt', cl', wa', va', ic', g1, g2, g3⟩ := cc_top (pF := pF) (tC := tC) (rC := rC) (sC := sC) (cC := cC) (kC := kC) (en := en) (li := li) (yc := yc) (wt := wt) (he := he) (yl := yl) (ye := ye) (tP := tP) (tS := tS) (tD := tD) (rK := rK) (rV := rV) (mK := mK) (mV := mV) (cP := cP) (cS := cS) (me := me) (mt := mt) (cl := cl) (wa := wa) (va := va) (ic := ic) S (by omega)
    refine br_f hd0 (g2 _ ?_)
    by_cases he0 : en' = 0
    · refine br_t he0 ?_
      unfold wpY_value
      dsimp only
      exact g3 _ (br_t he0 ⟨g1 he0, cc_rel S⟩)
    · refine br_f he0 ?_
      unfold wpY_value
      dsimp only
      exact g3 _ (br_f he0 ⟨rfl, cc_rel S⟩)
theorem i_vc_calls {k : Nat} {u : SX} {v : SY} (I : i_Rel k u v) (hk : k + 3 ≤ 1536) : wpX_calls (fun r u' => wpY_calls (fun r' v' => r' = r ∧ i_Rel (k + 3) u' v') v) u := by
  obtain ⟨m, d, tC, rC, sC, cC, kC, en, li, yc, wt, he, yl, ye, pK, pD, pS, pP, pF, stk, tP, tS, tD, rK, rV, mK, mV, cP, cS, yk, yn, me, mt, cl, wa, va, ic, rfl, rfl, S⟩ := I
  have h24 : m ≤ 24 := S.1
  have h6 : d ≤ 6 := S.2.1
  unfold wpX_calls
  dsimp only
  by_cases hd : d = 0
  · subst hd
    refine br_t nI_0 ?_
    unfold wpY_calls
    dsimp only
    exact yy_work0 ⟨rfl, cc_rel S⟩
  · have hd0 : ¬ nI d = 0 := nI_ne0 (by omega) (by omega)
    obtain ⟨tC', rC', sC', cC', kC', en', li', wt', he', tP', tS', tD', rK', rV', mK', mV', cP', cS', me', mt', cl', wa', va', ic', g1, g2, g3⟩ := cc_top (pF := pF) (tC := tC) (rC := rC) (sC := sC) (cC := cC) (kC := kC) (en := en) (li := li) (yc := yc) (wt := wt) (he := he) (yl := yl) (ye := ye) (tP := tP) (tS := tS) (tD := tD) (rK := rK) (rV := rV) (mK := mK) (mV := mV) (cP := cP) (cS := cS) (me := me) (mt := mt) (cl := cl) (wa := wa) (va := va) (ic := ic) S (by omega)
    refine br_f hd0 (g2 _ ?_)
    dsimp only
    unfold wpY_calls
    dsimp only
    exact g3 _ ⟨rfl, cc_rel S⟩
theorem i_vc_closures {k : Nat} {u : SX} {v : SY} (I : i_Rel k u v) (hk : k + 3 ≤ 1536) : wpX_closures (fun r u' => wpY_closures (fun r' v' => r' = r ∧ i_Rel (k + 3) u' v') v) u := by
  obtain ⟨m, d, tC, rC, sC, cC, kC, en, li, yc, wt, he, yl, ye, pK, pD, pS, pP, pF, stk, tP, tS, tD, rK, rV, mK, mV, cP, cS, yk, yn, me, mt, cl, wa, va, ic, rfl, rfl, S⟩ := I
  have h24 : m ≤ 24 := S.1
  have h6 : d ≤ 6 := S.2.1
  unfold wpX_closures
  dsimp only
  by_cases hd : d = 0
  · subst hd
    refine br_t nI_0 ?_
    unfold wpY_closures
    dsimp only
    exact yy_work0 ⟨rfl, cc_rel S⟩
  · have hd0 : ¬ nI d = 0 := nI_ne0 (by omega) (by omega)
    obtain ⟨tC', rC', sC', cC', kC', en', li', wt', he', tP', tS', tD', rK', rV', mK', mV', cP', cS', me', mt', cl', wa', va', ic', g1, g2, g3⟩ := cc_top (pF := pF) (tC := tC) (rC := rC) (sC := sC) (cC := cC) (kC := kC) (en := en) (li := li) (yc := yc) (wt := wt) (he := he) (yl := yl) (ye := ye) (tP := tP) (tS := tS) (tD := tD) (rK := rK) (rV := rV) (mK := mK) (mV := mV) (cP := cP) (cS := cS) (me := me) (mt := mt) (cl := cl) (wa := wa) (va := va) (ic := ic) S (by omega)
    refine br_f hd0 (g2 _ ?_)
    dsimp only
    unfold wpY_closures
    dsimp only
    exact g3 _ ⟨rfl, cc_rel S⟩
theorem i_vc_free {k : Nat} {u : SX} {v : SY} (I : i_Rel k u v) (hk : k + 3 ≤ 1536) : wpX_free (fun r => wpY_free (fun r' => r' = r ∧ i_Rel (k + 3) u v) v) u := by
  obtain ⟨m, d, tC, rC, sC, cC, kC, en, li, yc, wt, he, yl, ye, pK, pD, pS, pP, pF, stk, tP, tS, tD, rK, rV, mK, mV, cP, cS, yk, yn, me, mt, cl, wa, va, ic, rfl, rfl, S⟩ := I
  have h24 : m ≤ 24 := S.1
  have h6 : d ≤ 6 := S.2.1
  unfold wpX_free wpY_free
  dsimp only
  by_cases hd : d = 0
  · subst hd
    exact br_t nI_0 (br_t nI_0 ⟨rfl, cc_rel S⟩)
  · have hd0 : ¬ nI d = 0 := nI_ne0 (by omega) (by omega)
    obtain ⟨q, hq, eq⟩ := S.2.2.1 (d - 1) (by omega)
    have e : nI d - 1 = nI (d - 1) := pk_sub (a := d) (b := 1) (by omega)
    have a1 : vp_in (nI d - 1) 6 := by rw [e]; exact vp_in_nI (by omega) (by decide)
    have a2 : vp_in (stk (nI d - 1).toNatClampNeg) 24 := by rw [e, nI_clamp (by omega), eq]; exact vp_in_nI (by omega) (by decide)
    exact br_f hd0 ⟨a1, a2, br_f hd0 ⟨a1, a2, ⟨rfl, cc_rel S⟩⟩⟩
